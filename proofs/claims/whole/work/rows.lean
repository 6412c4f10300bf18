section
-- ===== PART A: goes FIRST, ahead of the names: the tables' words, and 'selects' of the private methods out of them =====
/-- a private method of a class that the tables say can be made, by its rows of tables_1 -/
def lw_okq (q : MethodName × Nat) : Prop := (q.1.cls ≠ "java/lang/invoke/MethodHandle" ∧ q.1.cls ≠ "java/lang/invoke/VarHandle") ∧ Cond.instantiable q.1.cls q.2 ∈ tables_1 ∧ Cond.privateMethod q.1 ∈ tables_1 ∧ Cond.instanceMethod q.1 ∈ tables_1
theorem lw_p0 : lw_okq (⟨"NumberArena$Cells", "lowestRunFrom", "(I)I"⟩, 7) := ⟨⟨by decide +kernel, by decide +kernel⟩, List.mem_of_getElem? (i := 32) (by decide +kernel), List.mem_of_getElem? (i := 281) (by decide +kernel), List.mem_of_getElem? (i := 282) (by decide +kernel)⟩
theorem lw_p1 : lw_okq (⟨"NumberArena", "isLiveOrNone", "(I)Z"⟩, 10) := ⟨⟨by decide +kernel, by decide +kernel⟩, List.mem_of_getElem? (i := 15) (by decide +kernel), List.mem_of_getElem? (i := 430) (by decide +kernel), List.mem_of_getElem? (i := 431) (by decide +kernel)⟩
theorem lw_p2 : lw_okq (⟨"NumberArena$Calculator", "guessDigit", "(I)I"⟩, 7) := ⟨⟨by decide +kernel, by decide +kernel⟩, List.mem_of_getElem? (i := 67) (by decide +kernel), List.mem_of_getElem? (i := 449) (by decide +kernel), List.mem_of_getElem? (i := 450) (by decide +kernel)⟩
theorem lw_p3 : lw_okq (⟨"NumberArena$Calculator", "subtractMultiple", "(II)Z"⟩, 7) := ⟨⟨by decide +kernel, by decide +kernel⟩, List.mem_of_getElem? (i := 67) (by decide +kernel), List.mem_of_getElem? (i := 453) (by decide +kernel), List.mem_of_getElem? (i := 454) (by decide +kernel)⟩
theorem lw_p4 : lw_okq (⟨"NumberArena$Calculator", "addBack", "(I)V"⟩, 7) := ⟨⟨by decide +kernel, by decide +kernel⟩, List.mem_of_getElem? (i := 67) (by decide +kernel), List.mem_of_getElem? (i := 457) (by decide +kernel), List.mem_of_getElem? (i := 458) (by decide +kernel)⟩
theorem lw_p5 : lw_okq (⟨"NumberArena", "bringBoth", "(II)I"⟩, 10) := ⟨⟨by decide +kernel, by decide +kernel⟩, List.mem_of_getElem? (i := 15) (by decide +kernel), List.mem_of_getElem? (i := 464) (by decide +kernel), List.mem_of_getElem? (i := 465) (by decide +kernel)⟩
theorem lw_p6 : lw_okq (⟨"NumberArena$Certificate", "endOfNode", "(II)I"⟩, 11) := ⟨⟨by decide +kernel, by decide +kernel⟩, List.mem_of_getElem? (i := 150) (by decide +kernel), List.mem_of_getElem? (i := 632) (by decide +kernel), List.mem_of_getElem? (i := 633) (by decide +kernel)⟩
theorem lw_p7 : lw_okq (⟨"NumberArena$Certificate", "endOfNumber", "(I)I"⟩, 11) := ⟨⟨by decide +kernel, by decide +kernel⟩, List.mem_of_getElem? (i := 150) (by decide +kernel), List.mem_of_getElem? (i := 636) (by decide +kernel), List.mem_of_getElem? (i := 637) (by decide +kernel)⟩
theorem lw_p8 : lw_okq (⟨"NumberArena$Certificate", "isTwo", "(I)Z"⟩, 11) := ⟨⟨by decide +kernel, by decide +kernel⟩, List.mem_of_getElem? (i := 150) (by decide +kernel), List.mem_of_getElem? (i := 641) (by decide +kernel), List.mem_of_getElem? (i := 642) (by decide +kernel)⟩
theorem lw_p9 : lw_okq (⟨"NumberArena$Certificate", "endOfFactors", "(II)I"⟩, 11) := ⟨⟨by decide +kernel, by decide +kernel⟩, List.mem_of_getElem? (i := 150) (by decide +kernel), List.mem_of_getElem? (i := 645) (by decide +kernel), List.mem_of_getElem? (i := 646) (by decide +kernel)⟩
theorem lw_p10 : lw_okq (⟨"NumberArena$Certificate", "readNumber", "(ILNumberArena$Row;)I"⟩, 11) := ⟨⟨by decide +kernel, by decide +kernel⟩, List.mem_of_getElem? (i := 150) (by decide +kernel), List.mem_of_getElem? (i := 655) (by decide +kernel), List.mem_of_getElem? (i := 656) (by decide +kernel)⟩
theorem lw_p11 : lw_okq (⟨"NumberArena$Certificate", "factorsFit", "(I)Z"⟩, 11) := ⟨⟨by decide +kernel, by decide +kernel⟩, List.mem_of_getElem? (i := 150) (by decide +kernel), List.mem_of_getElem? (i := 662) (by decide +kernel), List.mem_of_getElem? (i := 663) (by decide +kernel)⟩
theorem lw_p12 : lw_okq (⟨"NumberArena$Certificate", "multiplyTotal", "(I)Z"⟩, 11) := ⟨⟨by decide +kernel, by decide +kernel⟩, List.mem_of_getElem? (i := 150) (by decide +kernel), List.mem_of_getElem? (i := 668) (by decide +kernel), List.mem_of_getElem? (i := 669) (by decide +kernel)⟩
theorem lw_p13 : lw_okq (⟨"NumberArena$Certificate", "witnessHolds", "(ILNumberArena$Calculator;)Z"⟩, 11) := ⟨⟨by decide +kernel, by decide +kernel⟩, List.mem_of_getElem? (i := 150) (by decide +kernel), List.mem_of_getElem? (i := 675) (by decide +kernel), List.mem_of_getElem? (i := 676) (by decide +kernel)⟩
theorem lw_p14 : lw_okq (⟨"NumberArena$Prover", "writeNode", "(II)Z"⟩, 3) := ⟨⟨by decide +kernel, by decide +kernel⟩, List.mem_of_getElem? (i := 194) (by decide +kernel), List.mem_of_getElem? (i := 698) (by decide +kernel), List.mem_of_getElem? (i := 699) (by decide +kernel)⟩
theorem lw_p15 : lw_okq (⟨"NumberArena$Prover", "putNumber", "(I)Z"⟩, 3) := ⟨⟨by decide +kernel, by decide +kernel⟩, List.mem_of_getElem? (i := 194) (by decide +kernel), List.mem_of_getElem? (i := 702) (by decide +kernel), List.mem_of_getElem? (i := 703) (by decide +kernel)⟩
def lw_privs_1 : List (MethodName × Nat) := [(⟨"NumberArena$Cells", "lowestRunFrom", "(I)I"⟩, 7), (⟨"NumberArena", "isLiveOrNone", "(I)Z"⟩, 10), (⟨"NumberArena$Calculator", "guessDigit", "(I)I"⟩, 7), (⟨"NumberArena$Calculator", "subtractMultiple", "(II)Z"⟩, 7), (⟨"NumberArena$Calculator", "addBack", "(I)V"⟩, 7), (⟨"NumberArena", "bringBoth", "(II)I"⟩, 10), (⟨"NumberArena$Certificate", "endOfNode", "(II)I"⟩, 11), (⟨"NumberArena$Certificate", "endOfNumber", "(I)I"⟩, 11), (⟨"NumberArena$Certificate", "isTwo", "(I)Z"⟩, 11), (⟨"NumberArena$Certificate", "endOfFactors", "(II)I"⟩, 11), (⟨"NumberArena$Certificate", "readNumber", "(ILNumberArena$Row;)I"⟩, 11), (⟨"NumberArena$Certificate", "factorsFit", "(I)Z"⟩, 11), (⟨"NumberArena$Certificate", "multiplyTotal", "(I)Z"⟩, 11), (⟨"NumberArena$Certificate", "witnessHolds", "(ILNumberArena$Calculator;)Z"⟩, 11), (⟨"NumberArena$Prover", "writeNode", "(II)Z"⟩, 3), (⟨"NumberArena$Prover", "putNumber", "(I)Z"⟩, 3)]
theorem lw_r1 : ∀ q ∈ lw_privs_1, lw_okq q := List.forall_mem_cons.mpr ⟨lw_p0, List.forall_mem_cons.mpr ⟨lw_p1, List.forall_mem_cons.mpr ⟨lw_p2, List.forall_mem_cons.mpr ⟨lw_p3, List.forall_mem_cons.mpr ⟨lw_p4, List.forall_mem_cons.mpr ⟨lw_p5, List.forall_mem_cons.mpr ⟨lw_p6, List.forall_mem_cons.mpr ⟨lw_p7, List.forall_mem_cons.mpr ⟨lw_p8, List.forall_mem_cons.mpr ⟨lw_p9, List.forall_mem_cons.mpr ⟨lw_p10, List.forall_mem_cons.mpr ⟨lw_p11, List.forall_mem_cons.mpr ⟨lw_p12, List.forall_mem_cons.mpr ⟨lw_p13, List.forall_mem_cons.mpr ⟨lw_p14, List.forall_mem_cons.mpr ⟨lw_p15, fun _ h => absurd h List.not_mem_nil⟩⟩⟩⟩⟩⟩⟩⟩⟩⟩⟩⟩⟩⟩⟩⟩
theorem lw_p16 : lw_okq (⟨"NumberArena$Prover", "put", "(I)Z"⟩, 3) := ⟨⟨by decide +kernel, by decide +kernel⟩, List.mem_of_getElem? (i := 194) (by decide +kernel), List.mem_of_getElem? (i := 706) (by decide +kernel), List.mem_of_getElem? (i := 707) (by decide +kernel)⟩
theorem lw_p17 : lw_okq (⟨"NumberArena$Prover", "writeFactors", "(II)Z"⟩, 3) := ⟨⟨by decide +kernel, by decide +kernel⟩, List.mem_of_getElem? (i := 194) (by decide +kernel), List.mem_of_getElem? (i := 710) (by decide +kernel), List.mem_of_getElem? (i := 711) (by decide +kernel)⟩
theorem lw_p18 : lw_okq (⟨"NumberArena$Prover", "findFactors", "(II)I"⟩, 3) := ⟨⟨by decide +kernel, by decide +kernel⟩, List.mem_of_getElem? (i := 194) (by decide +kernel), List.mem_of_getElem? (i := 714) (by decide +kernel), List.mem_of_getElem? (i := 715) (by decide +kernel)⟩
theorem lw_p19 : lw_okq (⟨"NumberArena$Prover", "leastWitness", "(III)I"⟩, 3) := ⟨⟨by decide +kernel, by decide +kernel⟩, List.mem_of_getElem? (i := 194) (by decide +kernel), List.mem_of_getElem? (i := 721) (by decide +kernel), List.mem_of_getElem? (i := 722) (by decide +kernel)⟩
theorem lw_p20 : lw_okq (⟨"NumberArena$Prover", "isWitness", "(IIII)Z"⟩, 3) := ⟨⟨by decide +kernel, by decide +kernel⟩, List.mem_of_getElem? (i := 194) (by decide +kernel), List.mem_of_getElem? (i := 725) (by decide +kernel), List.mem_of_getElem? (i := 726) (by decide +kernel)⟩
theorem lw_p21 : lw_okq (⟨"NumberArenaModel", "take", "(I)Z"⟩, 29) := ⟨⟨by decide +kernel, by decide +kernel⟩, List.mem_of_getElem? (i := 740) (by decide +kernel), List.mem_of_getElem? (i := 845) (by decide +kernel), List.mem_of_getElem? (i := 846) (by decide +kernel)⟩
theorem lw_p22 : lw_okq (⟨"NumberArenaModel", "end", "()I"⟩, 29) := ⟨⟨by decide +kernel, by decide +kernel⟩, List.mem_of_getElem? (i := 740) (by decide +kernel), List.mem_of_getElem? (i := 849) (by decide +kernel), List.mem_of_getElem? (i := 850) (by decide +kernel)⟩
theorem lw_p23 : lw_okq (⟨"NumberArenaModel", "slide", "()V"⟩, 29) := ⟨⟨by decide +kernel, by decide +kernel⟩, List.mem_of_getElem? (i := 740) (by decide +kernel), List.mem_of_getElem? (i := 853) (by decide +kernel), List.mem_of_getElem? (i := 854) (by decide +kernel)⟩
theorem lw_p24 : lw_okq (⟨"NumberArenaModel", "isLive", "(I)Z"⟩, 29) := ⟨⟨by decide +kernel, by decide +kernel⟩, List.mem_of_getElem? (i := 740) (by decide +kernel), List.mem_of_getElem? (i := 861) (by decide +kernel), List.mem_of_getElem? (i := 862) (by decide +kernel)⟩
theorem lw_p25 : lw_okq (⟨"NumberArenaModel", "put", "(III)V"⟩, 29) := ⟨⟨by decide +kernel, by decide +kernel⟩, List.mem_of_getElem? (i := 740) (by decide +kernel), List.mem_of_getElem? (i := 873) (by decide +kernel), List.mem_of_getElem? (i := 874) (by decide +kernel)⟩
theorem lw_p26 : lw_okq (⟨"NumberArenaModel", "fix", "(II)V"⟩, 29) := ⟨⟨by decide +kernel, by decide +kernel⟩, List.mem_of_getElem? (i := 740) (by decide +kernel), List.mem_of_getElem? (i := 877) (by decide +kernel), List.mem_of_getElem? (i := 878) (by decide +kernel)⟩
theorem lw_p27 : lw_okq (⟨"NumberArenaModel", "at", "(II)I"⟩, 29) := ⟨⟨by decide +kernel, by decide +kernel⟩, List.mem_of_getElem? (i := 740) (by decide +kernel), List.mem_of_getElem? (i := 885) (by decide +kernel), List.mem_of_getElem? (i := 886) (by decide +kernel)⟩
theorem lw_p28 : lw_okq (⟨"NumberArenaModel", "bits", "(I)I"⟩, 29) := ⟨⟨by decide +kernel, by decide +kernel⟩, List.mem_of_getElem? (i := 740) (by decide +kernel), List.mem_of_getElem? (i := 893) (by decide +kernel), List.mem_of_getElem? (i := 894) (by decide +kernel)⟩
theorem lw_p29 : lw_okq (⟨"NumberArenaModel", "allRooms", "()I"⟩, 29) := ⟨⟨by decide +kernel, by decide +kernel⟩, List.mem_of_getElem? (i := 740) (by decide +kernel), List.mem_of_getElem? (i := 901) (by decide +kernel), List.mem_of_getElem? (i := 902) (by decide +kernel)⟩
theorem lw_p30 : lw_okq (⟨"NumberArenaModel", "sum", "(III)V"⟩, 29) := ⟨⟨by decide +kernel, by decide +kernel⟩, List.mem_of_getElem? (i := 740) (by decide +kernel), List.mem_of_getElem? (i := 913) (by decide +kernel), List.mem_of_getElem? (i := 914) (by decide +kernel)⟩
theorem lw_p31 : lw_okq (⟨"NumberArenaModel", "comes", "(II)I"⟩, 29) := ⟨⟨by decide +kernel, by decide +kernel⟩, List.mem_of_getElem? (i := 740) (by decide +kernel), List.mem_of_getElem? (i := 918) (by decide +kernel), List.mem_of_getElem? (i := 919) (by decide +kernel)⟩
def lw_privs_2 : List (MethodName × Nat) := [(⟨"NumberArena$Prover", "put", "(I)Z"⟩, 3), (⟨"NumberArena$Prover", "writeFactors", "(II)Z"⟩, 3), (⟨"NumberArena$Prover", "findFactors", "(II)I"⟩, 3), (⟨"NumberArena$Prover", "leastWitness", "(III)I"⟩, 3), (⟨"NumberArena$Prover", "isWitness", "(IIII)Z"⟩, 3), (⟨"NumberArenaModel", "take", "(I)Z"⟩, 29), (⟨"NumberArenaModel", "end", "()I"⟩, 29), (⟨"NumberArenaModel", "slide", "()V"⟩, 29), (⟨"NumberArenaModel", "isLive", "(I)Z"⟩, 29), (⟨"NumberArenaModel", "put", "(III)V"⟩, 29), (⟨"NumberArenaModel", "fix", "(II)V"⟩, 29), (⟨"NumberArenaModel", "at", "(II)I"⟩, 29), (⟨"NumberArenaModel", "bits", "(I)I"⟩, 29), (⟨"NumberArenaModel", "allRooms", "()I"⟩, 29), (⟨"NumberArenaModel", "sum", "(III)V"⟩, 29), (⟨"NumberArenaModel", "comes", "(II)I"⟩, 29)]
theorem lw_r2 : ∀ q ∈ lw_privs_2, lw_okq q := List.forall_mem_cons.mpr ⟨lw_p16, List.forall_mem_cons.mpr ⟨lw_p17, List.forall_mem_cons.mpr ⟨lw_p18, List.forall_mem_cons.mpr ⟨lw_p19, List.forall_mem_cons.mpr ⟨lw_p20, List.forall_mem_cons.mpr ⟨lw_p21, List.forall_mem_cons.mpr ⟨lw_p22, List.forall_mem_cons.mpr ⟨lw_p23, List.forall_mem_cons.mpr ⟨lw_p24, List.forall_mem_cons.mpr ⟨lw_p25, List.forall_mem_cons.mpr ⟨lw_p26, List.forall_mem_cons.mpr ⟨lw_p27, List.forall_mem_cons.mpr ⟨lw_p28, List.forall_mem_cons.mpr ⟨lw_p29, List.forall_mem_cons.mpr ⟨lw_p30, List.forall_mem_cons.mpr ⟨lw_p31, fun _ h => absurd h List.not_mem_nil⟩⟩⟩⟩⟩⟩⟩⟩⟩⟩⟩⟩⟩⟩⟩⟩
theorem lw_p32 : lw_okq (⟨"NumberArenaModel", "gets", "(III)V"⟩, 29) := ⟨⟨by decide +kernel, by decide +kernel⟩, List.mem_of_getElem? (i := 740) (by decide +kernel), List.mem_of_getElem? (i := 922) (by decide +kernel), List.mem_of_getElem? (i := 923) (by decide +kernel)⟩
theorem lw_p33 : lw_okq (⟨"NumberArenaModel", "copy", "(II)V"⟩, 29) := ⟨⟨by decide +kernel, by decide +kernel⟩, List.mem_of_getElem? (i := 740) (by decide +kernel), List.mem_of_getElem? (i := 926) (by decide +kernel), List.mem_of_getElem? (i := 927) (by decide +kernel)⟩
theorem lw_p34 : lw_okq (⟨"NumberArenaModel", "compared", "(II)I"⟩, 29) := ⟨⟨by decide +kernel, by decide +kernel⟩, List.mem_of_getElem? (i := 740) (by decide +kernel), List.mem_of_getElem? (i := 934) (by decide +kernel), List.mem_of_getElem? (i := 935) (by decide +kernel)⟩
theorem lw_p35 : lw_okq (⟨"NumberArenaModel", "difference", "(III)V"⟩, 29) := ⟨⟨by decide +kernel, by decide +kernel⟩, List.mem_of_getElem? (i := 740) (by decide +kernel), List.mem_of_getElem? (i := 938) (by decide +kernel), List.mem_of_getElem? (i := 939) (by decide +kernel)⟩
theorem lw_p36 : lw_okq (⟨"NumberArenaModel", "product", "(III)V"⟩, 29) := ⟨⟨by decide +kernel, by decide +kernel⟩, List.mem_of_getElem? (i := 740) (by decide +kernel), List.mem_of_getElem? (i := 946) (by decide +kernel), List.mem_of_getElem? (i := 947) (by decide +kernel)⟩
theorem lw_p37 : lw_okq (⟨"NumberArenaModel", "divide", "(IIII)V"⟩, 29) := ⟨⟨by decide +kernel, by decide +kernel⟩, List.mem_of_getElem? (i := 740) (by decide +kernel), List.mem_of_getElem? (i := 955) (by decide +kernel), List.mem_of_getElem? (i := 956) (by decide +kernel)⟩
theorem lw_p38 : lw_okq (⟨"NumberArenaModel", "power", "(IIII)V"⟩, 29) := ⟨⟨by decide +kernel, by decide +kernel⟩, List.mem_of_getElem? (i := 740) (by decide +kernel), List.mem_of_getElem? (i := 963) (by decide +kernel), List.mem_of_getElem? (i := 964) (by decide +kernel)⟩
theorem lw_p39 : lw_okq (⟨"NumberArenaModel", "small", "(II)V"⟩, 29) := ⟨⟨by decide +kernel, by decide +kernel⟩, List.mem_of_getElem? (i := 740) (by decide +kernel), List.mem_of_getElem? (i := 967) (by decide +kernel), List.mem_of_getElem? (i := 968) (by decide +kernel)⟩
theorem lw_p40 : lw_okq (⟨"NumberArenaModel", "bit", "(II)I"⟩, 29) := ⟨⟨by decide +kernel, by decide +kernel⟩, List.mem_of_getElem? (i := 740) (by decide +kernel), List.mem_of_getElem? (i := 971) (by decide +kernel), List.mem_of_getElem? (i := 972) (by decide +kernel)⟩
theorem lw_p41 : lw_okq (⟨"NumberArenaModel", "shifted", "(III)V"⟩, 29) := ⟨⟨by decide +kernel, by decide +kernel⟩, List.mem_of_getElem? (i := 740) (by decide +kernel), List.mem_of_getElem? (i := 987) (by decide +kernel), List.mem_of_getElem? (i := 988) (by decide +kernel)⟩
theorem lw_p42 : lw_okq (⟨"NumberArenaModel", "isOne", "(I)Z"⟩, 29) := ⟨⟨by decide +kernel, by decide +kernel⟩, List.mem_of_getElem? (i := 740) (by decide +kernel), List.mem_of_getElem? (i := 999) (by decide +kernel), List.mem_of_getElem? (i := 1000) (by decide +kernel)⟩
theorem lw_p43 : lw_okq (⟨"NumberArenaModel", "isRow", "()Z"⟩, 29) := ⟨⟨by decide +kernel, by decide +kernel⟩, List.mem_of_getElem? (i := 740) (by decide +kernel), List.mem_of_getElem? (i := 1046) (by decide +kernel), List.mem_of_getElem? (i := 1047) (by decide +kernel)⟩
theorem lw_p44 : lw_okq (⟨"NumberArenaModel", "opens", "(II)Z"⟩, 29) := ⟨⟨by decide +kernel, by decide +kernel⟩, List.mem_of_getElem? (i := 740) (by decide +kernel), List.mem_of_getElem? (i := 1050) (by decide +kernel), List.mem_of_getElem? (i := 1051) (by decide +kernel)⟩
theorem lw_p45 : lw_okq (⟨"NumberArenaModel", "passes", "()Z"⟩, 29) := ⟨⟨by decide +kernel, by decide +kernel⟩, List.mem_of_getElem? (i := 740) (by decide +kernel), List.mem_of_getElem? (i := 1054) (by decide +kernel), List.mem_of_getElem? (i := 1055) (by decide +kernel)⟩
theorem lw_p46 : lw_okq (⟨"NumberArenaModel", "isTwo", "(I)Z"⟩, 29) := ⟨⟨by decide +kernel, by decide +kernel⟩, List.mem_of_getElem? (i := 740) (by decide +kernel), List.mem_of_getElem? (i := 1058) (by decide +kernel), List.mem_of_getElem? (i := 1059) (by decide +kernel)⟩
theorem lw_p47 : lw_okq (⟨"NumberArenaModel", "load", "(II)V"⟩, 29) := ⟨⟨by decide +kernel, by decide +kernel⟩, List.mem_of_getElem? (i := 740) (by decide +kernel), List.mem_of_getElem? (i := 1062) (by decide +kernel), List.mem_of_getElem? (i := 1063) (by decide +kernel)⟩
def lw_privs_3 : List (MethodName × Nat) := [(⟨"NumberArenaModel", "gets", "(III)V"⟩, 29), (⟨"NumberArenaModel", "copy", "(II)V"⟩, 29), (⟨"NumberArenaModel", "compared", "(II)I"⟩, 29), (⟨"NumberArenaModel", "difference", "(III)V"⟩, 29), (⟨"NumberArenaModel", "product", "(III)V"⟩, 29), (⟨"NumberArenaModel", "divide", "(IIII)V"⟩, 29), (⟨"NumberArenaModel", "power", "(IIII)V"⟩, 29), (⟨"NumberArenaModel", "small", "(II)V"⟩, 29), (⟨"NumberArenaModel", "bit", "(II)I"⟩, 29), (⟨"NumberArenaModel", "shifted", "(III)V"⟩, 29), (⟨"NumberArenaModel", "isOne", "(I)Z"⟩, 29), (⟨"NumberArenaModel", "isRow", "()Z"⟩, 29), (⟨"NumberArenaModel", "opens", "(II)Z"⟩, 29), (⟨"NumberArenaModel", "passes", "()Z"⟩, 29), (⟨"NumberArenaModel", "isTwo", "(I)Z"⟩, 29), (⟨"NumberArenaModel", "load", "(II)V"⟩, 29)]
theorem lw_r3 : ∀ q ∈ lw_privs_3, lw_okq q := List.forall_mem_cons.mpr ⟨lw_p32, List.forall_mem_cons.mpr ⟨lw_p33, List.forall_mem_cons.mpr ⟨lw_p34, List.forall_mem_cons.mpr ⟨lw_p35, List.forall_mem_cons.mpr ⟨lw_p36, List.forall_mem_cons.mpr ⟨lw_p37, List.forall_mem_cons.mpr ⟨lw_p38, List.forall_mem_cons.mpr ⟨lw_p39, List.forall_mem_cons.mpr ⟨lw_p40, List.forall_mem_cons.mpr ⟨lw_p41, List.forall_mem_cons.mpr ⟨lw_p42, List.forall_mem_cons.mpr ⟨lw_p43, List.forall_mem_cons.mpr ⟨lw_p44, List.forall_mem_cons.mpr ⟨lw_p45, List.forall_mem_cons.mpr ⟨lw_p46, List.forall_mem_cons.mpr ⟨lw_p47, fun _ h => absurd h List.not_mem_nil⟩⟩⟩⟩⟩⟩⟩⟩⟩⟩⟩⟩⟩⟩⟩⟩
theorem lw_p48 : lw_okq (⟨"NumberArenaModel", "isGood", "(I)Z"⟩, 29) := ⟨⟨by decide +kernel, by decide +kernel⟩, List.mem_of_getElem? (i := 740) (by decide +kernel), List.mem_of_getElem? (i := 1066) (by decide +kernel), List.mem_of_getElem? (i := 1067) (by decide +kernel)⟩
theorem lw_p49 : lw_okq (⟨"NumberArenaModel", "certificate", "(II)V"⟩, 29) := ⟨⟨by decide +kernel, by decide +kernel⟩, List.mem_of_getElem? (i := 740) (by decide +kernel), List.mem_of_getElem? (i := 1077) (by decide +kernel), List.mem_of_getElem? (i := 1078) (by decide +kernel)⟩
theorem lw_p50 : lw_okq (⟨"NumberArenaModel", "writesNumber", "(I)V"⟩, 29) := ⟨⟨by decide +kernel, by decide +kernel⟩, List.mem_of_getElem? (i := 740) (by decide +kernel), List.mem_of_getElem? (i := 1081) (by decide +kernel), List.mem_of_getElem? (i := 1082) (by decide +kernel)⟩
theorem lw_p51 : lw_okq (⟨"NumberArenaModel", "writes", "(I)V"⟩, 29) := ⟨⟨by decide +kernel, by decide +kernel⟩, List.mem_of_getElem? (i := 740) (by decide +kernel), List.mem_of_getElem? (i := 1085) (by decide +kernel), List.mem_of_getElem? (i := 1086) (by decide +kernel)⟩
def lw_privs_4 : List (MethodName × Nat) := [(⟨"NumberArenaModel", "isGood", "(I)Z"⟩, 29), (⟨"NumberArenaModel", "certificate", "(II)V"⟩, 29), (⟨"NumberArenaModel", "writesNumber", "(I)V"⟩, 29), (⟨"NumberArenaModel", "writes", "(I)V"⟩, 29)]
theorem lw_r4 : ∀ q ∈ lw_privs_4, lw_okq q := List.forall_mem_cons.mpr ⟨lw_p48, List.forall_mem_cons.mpr ⟨lw_p49, List.forall_mem_cons.mpr ⟨lw_p50, List.forall_mem_cons.mpr ⟨lw_p51, fun _ h => absurd h List.not_mem_nil⟩⟩⟩⟩
def lw_privs : List (MethodName × Nat) := lw_privs_1 ++ (lw_privs_2 ++ (lw_privs_3 ++ (lw_privs_4)))
def lw_tbl : List Cond := k2_sels lw_privs ++ tables_1
theorem lw_privs_ok : ∀ q ∈ lw_privs, lw_okq q := by
  show ∀ q ∈ lw_privs_1 ++ (lw_privs_2 ++ (lw_privs_3 ++ (lw_privs_4))), lw_okq q
  exact List.forall_mem_append.mpr ⟨lw_r1, List.forall_mem_append.mpr ⟨lw_r2, List.forall_mem_append.mpr ⟨lw_r3, lw_r4⟩⟩⟩
end
section
/-! ===== BEGIN printed: names, fields, word lists, decode rows ===== -/
def RX0 : String := "NumberArena$Calculator"
def TX0 : u_T := fun k => match k with
  | 0 => ("NumberArena$Calculator", "quotient", "LNumberArena$Row;", true)
  | 1 => ("NumberArena$Calculator", "rest", "LNumberArena$Row;", true)
  | 2 => ("NumberArena$Calculator", "result", "LNumberArena$Row;", true)
  | 3 => ("NumberArena$Calculator", "dividend", "LNumberArena$Row;", true)
  | 4 => ("NumberArena$Calculator", "divisor", "LNumberArena$Row;", true)
  | 5 => ("NumberArena$Calculator", "wide", "LNumberArena$Row;", true)
  | _ => ("NumberArena$Calculator", "other", "LNumberArena$Row;", true)
def tyX0 : Nat → FieldType := fun k => match k with
  | 0 => .object "NumberArena$Row"
  | 1 => .object "NumberArena$Row"
  | 2 => .object "NumberArena$Row"
  | 3 => .object "NumberArena$Row"
  | 4 => .object "NumberArena$Row"
  | 5 => .object "NumberArena$Row"
  | _ => .object "NumberArena$Row"
abbrev wsX00 : List Cond := u_ws RX0 TX0 7
theorem nmX0 : ∀ a, a < 7 → ∀ b, b < 7 → a ≠ b → (TX0 a).2.1 ≠ (TX0 b).2.1 := by decide +kernel
theorem tyX0_ok : ∀ k, k < 7 → parseFieldDescriptor (TX0 k).2.2.1 = some (tyX0 k) := by decide +kernel
abbrev cX0_init : ByteArray := prog_2_method_1_code
def yX0_init : MethodName := ⟨RX0, "<init>", "()V"⟩
abbrev cX0_order : ByteArray := prog_2_method_2_code
def yX0_order : MethodName := ⟨RX0, "order", "(LNumberArena$Row;LNumberArena$Row;)I"⟩
abbrev cX0_sum : ByteArray := prog_2_method_3_code
def yX0_sum : MethodName := ⟨RX0, "sum", "(LNumberArena$Row;LNumberArena$Row;LNumberArena$Row;)V"⟩
abbrev cX0_difference : ByteArray := prog_2_method_4_code
def yX0_difference : MethodName := ⟨RX0, "difference", "(LNumberArena$Row;LNumberArena$Row;LNumberArena$Row;)V"⟩
abbrev cX0_product : ByteArray := prog_2_method_5_code
def yX0_product : MethodName := ⟨RX0, "product", "(LNumberArena$Row;LNumberArena$Row;LNumberArena$Row;)V"⟩
abbrev cX0_shiftUp : ByteArray := prog_2_method_6_code
def yX0_shiftUp : MethodName := ⟨RX0, "shiftUp", "(LNumberArena$Row;LNumberArena$Row;I)V"⟩
abbrev cX0_shiftDown : ByteArray := prog_2_method_7_code
def yX0_shiftDown : MethodName := ⟨RX0, "shiftDown", "(LNumberArena$Row;LNumberArena$Row;I)V"⟩
abbrev cX0_divide : ByteArray := prog_2_method_8_code
def yX0_divide : MethodName := ⟨RX0, "divide", "(LNumberArena$Row;LNumberArena$Row;)V"⟩
abbrev cX0_guessDigit : ByteArray := prog_2_method_9_code
def yX0_guessDigit : MethodName := ⟨RX0, "guessDigit", "(I)I"⟩
abbrev cX0_subtractMultiple : ByteArray := prog_2_method_10_code
def yX0_subtractMultiple : MethodName := ⟨RX0, "subtractMultiple", "(II)Z"⟩
abbrev cX0_addBack : ByteArray := prog_2_method_11_code
def yX0_addBack : MethodName := ⟨RX0, "addBack", "(I)V"⟩
abbrev cX0_raise : ByteArray := prog_2_method_12_code
def yX0_raise : MethodName := ⟨RX0, "raise", "(LNumberArena$Row;LNumberArena$Row;LNumberArena$Row;)V"⟩
abbrev cX0_commonDivisor : ByteArray := prog_2_method_13_code
def yX0_commonDivisor : MethodName := ⟨RX0, "commonDivisor", "(LNumberArena$Row;LNumberArena$Row;)V"⟩
abbrev cX0_squareRoot : ByteArray := prog_2_method_14_code
def yX0_squareRoot : MethodName := ⟨RX0, "squareRoot", "(LNumberArena$Row;)V"⟩
abbrev cX0_jacobiSymbol : ByteArray := prog_2_method_15_code
def yX0_jacobiSymbol : MethodName := ⟨RX0, "jacobiSymbol", "(LNumberArena$Row;LNumberArena$Row;)I"⟩
def RX1 : String := "NumberArena$Cells"
def TX1 : u_T := fun k => match k with
  | 0 => ("NumberArena$Cells", "handles", "I", true)
  | 1 => ("NumberArena$Cells", "limbs", "[I", true)
  | 2 => ("NumberArena$Cells", "places", "[I", true)
  | 3 => ("NumberArena$Cells", "rooms", "[I", true)
  | 4 => ("NumberArena$Cells", "lengths", "[I", true)
  | 5 => ("NumberArena$Cells", "taken", "I", false)
  | _ => ("NumberArena$Cells", "slides", "I", false)
def tyX1 : Nat → FieldType := fun k => match k with
  | 0 => .int
  | 1 => .array .int
  | 2 => .array .int
  | 3 => .array .int
  | 4 => .array .int
  | 5 => .int
  | _ => .int
abbrev wsX10 : List Cond := u_ws RX1 TX1 7
theorem nmX1 : ∀ a, a < 7 → ∀ b, b < 7 → a ≠ b → (TX1 a).2.1 ≠ (TX1 b).2.1 := by decide +kernel
theorem tyX1_ok : ∀ k, k < 7 → parseFieldDescriptor (TX1 k).2.2.1 = some (tyX1 k) := by decide +kernel
abbrev cX1_init : ByteArray := prog_3_method_1_code
def yX1_init : MethodName := ⟨RX1, "<init>", "(II)V"⟩
abbrev cX1_isLive : ByteArray := prog_3_method_2_code
def yX1_isLive : MethodName := ⟨RX1, "isLive", "(I)Z"⟩
abbrev cX1_areLive : ByteArray := prog_3_method_3_code
def yX1_areLive : MethodName := ⟨RX1, "areLive", "(III)Z"⟩
abbrev cX1_leastFree : ByteArray := prog_3_method_4_code
def yX1_leastFree : MethodName := ⟨RX1, "leastFree", "()I"⟩
abbrev cX1_liveHandles : ByteArray := prog_3_method_5_code
def yX1_liveHandles : MethodName := ⟨RX1, "liveHandles", "()I"⟩
abbrev cX1_free : ByteArray := prog_3_method_6_code
def yX1_free : MethodName := ⟨RX1, "free", "(I)V"⟩
abbrev cX1_usedCells : ByteArray := prog_3_method_7_code
def yX1_usedCells : MethodName := ⟨RX1, "usedCells", "()I"⟩
abbrev cX1_highestEnd : ByteArray := prog_3_method_8_code
def yX1_highestEnd : MethodName := ⟨RX1, "highestEnd", "()I"⟩
abbrev cX1_hasSpace : ByteArray := prog_3_method_9_code
def yX1_hasSpace : MethodName := ⟨RX1, "hasSpace", "(I)Z"⟩
abbrev cX1_limbIn : ByteArray := prog_3_method_10_code
def yX1_limbIn : MethodName := ⟨RX1, "limbIn", "(I)I"⟩
abbrev cX1_limbOf : ByteArray := prog_3_method_11_code
def yX1_limbOf : MethodName := ⟨RX1, "limbOf", "(II)I"⟩
abbrev cX1_writeLimb : ByteArray := prog_3_method_12_code
def yX1_writeLimb : MethodName := ⟨RX1, "writeLimb", "(III)I"⟩
abbrev cX1_read : ByteArray := prog_3_method_13_code
def yX1_read : MethodName := ⟨RX1, "read", "(ILNumberArena$Row;)V"⟩
abbrev cX1_takeAhead : ByteArray := prog_3_method_14_code
def yX1_takeAhead : MethodName := ⟨RX1, "takeAhead", "(I)Z"⟩
abbrev cX1_take : ByteArray := prog_3_method_15_code
def yX1_take : MethodName := ⟨RX1, "take", "(I)I"⟩
abbrev cX1_dropTaken : ByteArray := prog_3_method_16_code
def yX1_dropTaken : MethodName := ⟨RX1, "dropTaken", "()V"⟩
abbrev cX1_slideTogether : ByteArray := prog_3_method_17_code
def yX1_slideTogether : MethodName := ⟨RX1, "slideTogether", "()V"⟩
abbrev cX1_lowestRunFrom : ByteArray := prog_3_method_18_code
def yX1_lowestRunFrom : MethodName := ⟨RX1, "lowestRunFrom", "(I)I"⟩
abbrev cX1_giveRun : ByteArray := prog_3_method_19_code
def yX1_giveRun : MethodName := ⟨RX1, "giveRun", "(IILNumberArena$Row;)Z"⟩
abbrev cX1_come : ByteArray := prog_3_method_20_code
def yX1_come : MethodName := ⟨RX1, "come", "(ILNumberArena$Row;)I"⟩
abbrev cX1_runFor : ByteArray := prog_3_method_21_code
def yX1_runFor : MethodName := ⟨RX1, "runFor", "(II)I"⟩
abbrev cX1_settle : ByteArray := prog_3_method_22_code
def yX1_settle : MethodName := ⟨RX1, "settle", "(IILNumberArena$Row;)V"⟩
def RX2 : String := "NumberArena$Certificate"
def TX2 : u_T := fun k => match k with
  | 0 => ("NumberArena$Certificate", "words", "[I", true)
  | 1 => ("NumberArena$Certificate", "count", "I", false)
  | 2 => ("NumberArena$Certificate", "starts", "[I", true)
  | 3 => ("NumberArena$Certificate", "ends", "[I", true)
  | 4 => ("NumberArena$Certificate", "nodes", "I", false)
  | 5 => ("NumberArena$Certificate", "p", "LNumberArena$Row;", true)
  | 6 => ("NumberArena$Certificate", "witness", "LNumberArena$Row;", true)
  | 7 => ("NumberArena$Certificate", "q", "LNumberArena$Row;", true)
  | 8 => ("NumberArena$Certificate", "previous", "LNumberArena$Row;", true)
  | 9 => ("NumberArena$Certificate", "total", "LNumberArena$Row;", true)
  | _ => ("NumberArena$Certificate", "spare", "LNumberArena$Row;", true)
def tyX2 : Nat → FieldType := fun k => match k with
  | 0 => .array .int
  | 1 => .int
  | 2 => .array .int
  | 3 => .array .int
  | 4 => .int
  | 5 => .object "NumberArena$Row"
  | 6 => .object "NumberArena$Row"
  | 7 => .object "NumberArena$Row"
  | 8 => .object "NumberArena$Row"
  | 9 => .object "NumberArena$Row"
  | _ => .object "NumberArena$Row"
abbrev wsX20 : List Cond := u_ws RX2 TX2 11
theorem nmX2 : ∀ a, a < 11 → ∀ b, b < 11 → a ≠ b → (TX2 a).2.1 ≠ (TX2 b).2.1 := by decide +kernel
theorem tyX2_ok : ∀ k, k < 11 → parseFieldDescriptor (TX2 k).2.2.1 = some (tyX2 k) := by decide +kernel
abbrev cX2_init : ByteArray := prog_4_method_1_code
def yX2_init : MethodName := ⟨RX2, "<init>", "(I)V"⟩
abbrev cX2_append : ByteArray := prog_4_method_2_code
def yX2_append : MethodName := ⟨RX2, "append", "(I)Z"⟩
abbrev cX2_wordAt : ByteArray := prog_4_method_3_code
def yX2_wordAt : MethodName := ⟨RX2, "wordAt", "(I)I"⟩
abbrev cX2_copyWords : ByteArray := prog_4_method_4_code
def yX2_copyWords : MethodName := ⟨RX2, "copyWords", "([II)V"⟩
abbrev cX2_isOneNode : ByteArray := prog_4_method_5_code
def yX2_isOneNode : MethodName := ⟨RX2, "isOneNode", "()Z"⟩
abbrev cX2_endOfNode : ByteArray := prog_4_method_6_code
def yX2_endOfNode : MethodName := ⟨RX2, "endOfNode", "(II)I"⟩
abbrev cX2_endOfFactors : ByteArray := prog_4_method_7_code
def yX2_endOfFactors : MethodName := ⟨RX2, "endOfFactors", "(II)I"⟩
abbrev cX2_endOfNumber : ByteArray := prog_4_method_8_code
def yX2_endOfNumber : MethodName := ⟨RX2, "endOfNumber", "(I)I"⟩
abbrev cX2_isTwo : ByteArray := prog_4_method_9_code
def yX2_isTwo : MethodName := ⟨RX2, "isTwo", "(I)Z"⟩
abbrev cX2_readNumber : ByteArray := prog_4_method_10_code
def yX2_readNumber : MethodName := ⟨RX2, "readNumber", "(ILNumberArena$Row;)I"⟩
abbrev cX2_isGoodFor : ByteArray := prog_4_method_11_code
def yX2_isGoodFor : MethodName := ⟨RX2, "isGoodFor", "(LNumberArena$Row;LNumberArena$Calculator;)Z"⟩
abbrev cX2_factorsFit : ByteArray := prog_4_method_12_code
def yX2_factorsFit : MethodName := ⟨RX2, "factorsFit", "(I)Z"⟩
abbrev cX2_multiplyTotal : ByteArray := prog_4_method_13_code
def yX2_multiplyTotal : MethodName := ⟨RX2, "multiplyTotal", "(I)Z"⟩
abbrev cX2_witnessHolds : ByteArray := prog_4_method_14_code
def yX2_witnessHolds : MethodName := ⟨RX2, "witnessHolds", "(ILNumberArena$Calculator;)Z"⟩
def RX3 : String := "NumberArena$Digits"
def TX3 : u_T := fun k => match k with
  | 0 => ("NumberArena$Digits", "bytes", "[I", true)
  | _ => ("NumberArena$Digits", "count", "I", false)
def tyX3 : Nat → FieldType := fun k => match k with
  | 0 => .array .int
  | _ => .int
abbrev wsX30 : List Cond := u_ws RX3 TX3 2
theorem nmX3 : ∀ a, a < 2 → ∀ b, b < 2 → a ≠ b → (TX3 a).2.1 ≠ (TX3 b).2.1 := by decide +kernel
theorem tyX3_ok : ∀ k, k < 2 → parseFieldDescriptor (TX3 k).2.2.1 = some (tyX3 k) := by decide +kernel
abbrev cX3_init : ByteArray := prog_5_method_1_code
def yX3_init : MethodName := ⟨RX3, "<init>", "()V"⟩
abbrev cX3_write : ByteArray := prog_5_method_2_code
def yX3_write : MethodName := ⟨RX3, "write", "(LNumberArena$Row;I)V"⟩
abbrev cX3_byteAt : ByteArray := prog_5_method_3_code
def yX3_byteAt : MethodName := ⟨RX3, "byteAt", "(I)I"⟩
abbrev cX3_characterOf : ByteArray := prog_5_method_4_code
def yX3_characterOf : MethodName := ⟨RX3, "characterOf", "(I)I"⟩
def RX4 : String := "NumberArena$Prover"
def TX4 : u_T := fun k => match k with
  | 0 => ("NumberArena$Prover", "draft", "[I", true)
  | 1 => ("NumberArena$Prover", "count", "I", false)
  | _ => ("NumberArena$Prover", "factors", "[I", true)
def tyX4 : Nat → FieldType := fun k => match k with
  | 0 => .array .int
  | 1 => .int
  | _ => .array .int
abbrev wsX40 : List Cond := u_ws RX4 TX4 3
theorem nmX4 : ∀ a, a < 3 → ∀ b, b < 3 → a ≠ b → (TX4 a).2.1 ≠ (TX4 b).2.1 := by decide +kernel
theorem tyX4_ok : ∀ k, k < 3 → parseFieldDescriptor (TX4 k).2.2.1 = some (tyX4 k) := by decide +kernel
abbrev cX4_init : ByteArray := prog_6_method_1_code
def yX4_init : MethodName := ⟨RX4, "<init>", "(I)V"⟩
abbrev cX4_isPrime : ByteArray := prog_6_method_2_code
def yX4_isPrime : MethodName := ⟨RX4, "isPrime", "(I)Z"⟩
abbrev cX4_leastFactor : ByteArray := prog_6_method_3_code
def yX4_leastFactor : MethodName := ⟨RX4, "leastFactor", "(II)I"⟩
abbrev cX4_exponentOf : ByteArray := prog_6_method_4_code
def yX4_exponentOf : MethodName := ⟨RX4, "exponentOf", "(II)I"⟩
abbrev cX4_write : ByteArray := prog_6_method_5_code
def yX4_write : MethodName := ⟨RX4, "write", "(I)Z"⟩
abbrev cX4_writeNode : ByteArray := prog_6_method_6_code
def yX4_writeNode : MethodName := ⟨RX4, "writeNode", "(II)Z"⟩
abbrev cX4_writeFactors : ByteArray := prog_6_method_7_code
def yX4_writeFactors : MethodName := ⟨RX4, "writeFactors", "(II)Z"⟩
abbrev cX4_findFactors : ByteArray := prog_6_method_8_code
def yX4_findFactors : MethodName := ⟨RX4, "findFactors", "(II)I"⟩
abbrev cX4_leastWitness : ByteArray := prog_6_method_9_code
def yX4_leastWitness : MethodName := ⟨RX4, "leastWitness", "(III)I"⟩
abbrev cX4_isWitness : ByteArray := prog_6_method_10_code
def yX4_isWitness : MethodName := ⟨RX4, "isWitness", "(IIII)Z"⟩
abbrev cX4_powerModulo : ByteArray := prog_6_method_11_code
def yX4_powerModulo : MethodName := ⟨RX4, "powerModulo", "(III)I"⟩
abbrev cX4_putNumber : ByteArray := prog_6_method_12_code
def yX4_putNumber : MethodName := ⟨RX4, "putNumber", "(I)Z"⟩
abbrev cX4_put : ByteArray := prog_6_method_13_code
def yX4_put : MethodName := ⟨RX4, "put", "(I)Z"⟩
def RX5 : String := "NumberArena$Row"
def TX5 : u_T := fun k => match k with
  | 0 => ("NumberArena$Row", "limbs", "[I", true)
  | _ => ("NumberArena$Row", "length", "I", false)
def tyX5 : Nat → FieldType := fun k => match k with
  | 0 => .array .int
  | _ => .int
abbrev wsX50 : List Cond := u_ws RX5 TX5 2
theorem nmX5 : ∀ a, a < 2 → ∀ b, b < 2 → a ≠ b → (TX5 a).2.1 ≠ (TX5 b).2.1 := by decide +kernel
theorem tyX5_ok : ∀ k, k < 2 → parseFieldDescriptor (TX5 k).2.2.1 = some (tyX5 k) := by decide +kernel
abbrev cX5_init : ByteArray := prog_7_method_1_code
def yX5_init : MethodName := ⟨RX5, "<init>", "()V"⟩
abbrev cX5_limbAt : ByteArray := prog_7_method_2_code
def yX5_limbAt : MethodName := ⟨RX5, "limbAt", "(I)I"⟩
abbrev cX5_trim : ByteArray := prog_7_method_3_code
def yX5_trim : MethodName := ⟨RX5, "trim", "(I)V"⟩
abbrev cX5_copy : ByteArray := prog_7_method_4_code
def yX5_copy : MethodName := ⟨RX5, "copy", "(LNumberArena$Row;)V"⟩
abbrev cX5_become : ByteArray := prog_7_method_5_code
def yX5_become : MethodName := ⟨RX5, "become", "(I)V"⟩
abbrev cX5_isOne : ByteArray := prog_7_method_6_code
def yX5_isOne : MethodName := ⟨RX5, "isOne", "()Z"⟩
abbrev cX5_bits : ByteArray := prog_7_method_7_code
def yX5_bits : MethodName := ⟨RX5, "bits", "()I"⟩
abbrev cX5_hasBit : ByteArray := prog_7_method_8_code
def yX5_hasBit : MethodName := ⟨RX5, "hasBit", "(I)Z"⟩
abbrev cX5_trailingZeros : ByteArray := prog_7_method_9_code
def yX5_trailingZeros : MethodName := ⟨RX5, "trailingZeros", "()I"⟩
abbrev cX5_bitsOf : ByteArray := prog_7_method_10_code
def yX5_bitsOf : MethodName := ⟨RX5, "bitsOf", "(I)I"⟩
abbrev cX5_timesPlus : ByteArray := prog_7_method_11_code
def yX5_timesPlus : MethodName := ⟨RX5, "timesPlus", "(II)V"⟩
abbrev cX5_divideBy : ByteArray := prog_7_method_12_code
def yX5_divideBy : MethodName := ⟨RX5, "divideBy", "(I)I"⟩
def RX6 : String := "NumberArena$Tape"
def TX6 : u_T := fun k => match k with
  | 0 => ("NumberArena$Tape", "bytes", "[I", true)
  | _ => ("NumberArena$Tape", "count", "I", false)
def tyX6 : Nat → FieldType := fun k => match k with
  | 0 => .array .int
  | _ => .int
abbrev wsX60 : List Cond := u_ws RX6 TX6 2
theorem nmX6 : ∀ a, a < 2 → ∀ b, b < 2 → a ≠ b → (TX6 a).2.1 ≠ (TX6 b).2.1 := by decide +kernel
theorem tyX6_ok : ∀ k, k < 2 → parseFieldDescriptor (TX6 k).2.2.1 = some (tyX6 k) := by decide +kernel
abbrev cX6_init : ByteArray := prog_8_method_1_code
def yX6_init : MethodName := ⟨RX6, "<init>", "()V"⟩
abbrev cX6_hasSpace : ByteArray := prog_8_method_2_code
def yX6_hasSpace : MethodName := ⟨RX6, "hasSpace", "(I)Z"⟩
abbrev cX6_putBytesOf : ByteArray := prog_8_method_3_code
def yX6_putBytesOf : MethodName := ⟨RX6, "putBytesOf", "(I)V"⟩
abbrev cX6_digitsAhead : ByteArray := prog_8_method_4_code
def yX6_digitsAhead : MethodName := ⟨RX6, "digitsAhead", "(I)I"⟩
abbrev cX6_readNumber : ByteArray := prog_8_method_5_code
def yX6_readNumber : MethodName := ⟨RX6, "readNumber", "(LNumberArena$Row;I)V"⟩
abbrev cX6_digitOf : ByteArray := prog_8_method_6_code
def yX6_digitOf : MethodName := ⟨RX6, "digitOf", "(I)I"⟩
def RX7 : String := "NumberArena"
def TX7 : u_T := fun k => match k with
  | 0 => ("NumberArena", "cells", "LNumberArena$Cells;", true)
  | 1 => ("NumberArena", "calculator", "LNumberArena$Calculator;", true)
  | 2 => ("NumberArena", "tape", "LNumberArena$Tape;", true)
  | 3 => ("NumberArena", "digits", "LNumberArena$Digits;", true)
  | 4 => ("NumberArena", "certificate", "LNumberArena$Certificate;", true)
  | 5 => ("NumberArena", "prover", "LNumberArena$Prover;", true)
  | 6 => ("NumberArena", "first", "LNumberArena$Row;", true)
  | 7 => ("NumberArena", "second", "LNumberArena$Row;", true)
  | 8 => ("NumberArena", "third", "LNumberArena$Row;", true)
  | _ => ("NumberArena", "faultPlace", "I", false)
def tyX7 : Nat → FieldType := fun k => match k with
  | 0 => .object "NumberArena$Cells"
  | 1 => .object "NumberArena$Calculator"
  | 2 => .object "NumberArena$Tape"
  | 3 => .object "NumberArena$Digits"
  | 4 => .object "NumberArena$Certificate"
  | 5 => .object "NumberArena$Prover"
  | 6 => .object "NumberArena$Row"
  | 7 => .object "NumberArena$Row"
  | 8 => .object "NumberArena$Row"
  | _ => .int
abbrev wsX70 : List Cond := u_ws RX7 TX7 10
theorem nmX7 : ∀ a, a < 10 → ∀ b, b < 10 → a ≠ b → (TX7 a).2.1 ≠ (TX7 b).2.1 := by decide +kernel
theorem tyX7_ok : ∀ k, k < 10 → parseFieldDescriptor (TX7 k).2.2.1 = some (tyX7 k) := by decide +kernel
abbrev cX7_init : ByteArray := prog_1_method_1_code
def yX7_init : MethodName := ⟨RX7, "<init>", "(III)V"⟩
abbrev cX7_nearest : ByteArray := prog_1_method_2_code
def yX7_nearest : MethodName := ⟨RX7, "nearest", "(III)I"⟩
abbrev cX7_isRoom : ByteArray := prog_1_method_3_code
def yX7_isRoom : MethodName := ⟨RX7, "isRoom", "(I)Z"⟩
abbrev cX7_isLimb : ByteArray := prog_1_method_4_code
def yX7_isLimb : MethodName := ⟨RX7, "isLimb", "(I)Z"⟩
abbrev cX7_isBase : ByteArray := prog_1_method_5_code
def yX7_isBase : MethodName := ⟨RX7, "isBase", "(I)Z"⟩
abbrev cX7_alloc : ByteArray := prog_1_method_6_code
def yX7_alloc : MethodName := ⟨RX7, "alloc", "(I)I"⟩
abbrev cX7_release : ByteArray := prog_1_method_7_code
def yX7_release : MethodName := ⟨RX7, "release", "(I)I"⟩
abbrev cX7_resize : ByteArray := prog_1_method_8_code
def yX7_resize : MethodName := ⟨RX7, "resize", "(II)I"⟩
abbrev cX7_setLimb : ByteArray := prog_1_method_9_code
def yX7_setLimb : MethodName := ⟨RX7, "setLimb", "(III)I"⟩
abbrev cX7_limb : ByteArray := prog_1_method_10_code
def yX7_limb : MethodName := ⟨RX7, "limb", "(II)I"⟩
abbrev cX7_look : ByteArray := prog_1_method_11_code
def yX7_look : MethodName := ⟨RX7, "look", "(II)I"⟩
abbrev cX7_about : ByteArray := prog_1_method_12_code
def yX7_about : MethodName := ⟨RX7, "about", "(I)I"⟩
abbrev cX7_cell : ByteArray := prog_1_method_13_code
def yX7_cell : MethodName := ⟨RX7, "cell", "(I)I"⟩
abbrev cX7_add : ByteArray := prog_1_method_14_code
def yX7_add : MethodName := ⟨RX7, "add", "(III)I"⟩
abbrev cX7_sub : ByteArray := prog_1_method_15_code
def yX7_sub : MethodName := ⟨RX7, "sub", "(III)I"⟩
abbrev cX7_mul : ByteArray := prog_1_method_16_code
def yX7_mul : MethodName := ⟨RX7, "mul", "(III)I"⟩
abbrev cX7_divmod : ByteArray := prog_1_method_17_code
def yX7_divmod : MethodName := ⟨RX7, "divmod", "(IIII)I"⟩
abbrev cX7_isLiveOrNone : ByteArray := prog_1_method_18_code
def yX7_isLiveOrNone : MethodName := ⟨RX7, "isLiveOrNone", "(I)Z"⟩
abbrev cX7_bringBoth : ByteArray := prog_1_method_19_code
def yX7_bringBoth : MethodName := ⟨RX7, "bringBoth", "(II)I"⟩
abbrev cX7_powmod : ByteArray := prog_1_method_20_code
def yX7_powmod : MethodName := ⟨RX7, "powmod", "(IIII)I"⟩
abbrev cX7_gcd : ByteArray := prog_1_method_21_code
def yX7_gcd : MethodName := ⟨RX7, "gcd", "(III)I"⟩
abbrev cX7_root : ByteArray := prog_1_method_22_code
def yX7_root : MethodName := ⟨RX7, "root", "(II)I"⟩
abbrev cX7_shift : ByteArray := prog_1_method_23_code
def yX7_shift : MethodName := ⟨RX7, "shift", "(III)I"⟩
abbrev cX7_compare : ByteArray := prog_1_method_24_code
def yX7_compare : MethodName := ⟨RX7, "compare", "(II)I"⟩
abbrev cX7_jacobi : ByteArray := prog_1_method_25_code
def yX7_jacobi : MethodName := ⟨RX7, "jacobi", "(II)I"⟩
abbrev cX7_feed : ByteArray := prog_1_method_26_code
def yX7_feed : MethodName := ⟨RX7, "feed", "(IIIII)I"⟩
abbrev cX7_end : ByteArray := prog_1_method_27_code
def yX7_end : MethodName := ⟨RX7, "end", "(I)Z"⟩
abbrev cX7_number : ByteArray := prog_1_method_28_code
def yX7_number : MethodName := ⟨RX7, "number", "(II)I"⟩
abbrev cX7_fault : ByteArray := prog_1_method_29_code
def yX7_fault : MethodName := ⟨RX7, "fault", "()I"⟩
abbrev cX7_text : ByteArray := prog_1_method_30_code
def yX7_text : MethodName := ⟨RX7, "text", "(II)I"⟩
abbrev cX7_out : ByteArray := prog_1_method_31_code
def yX7_out : MethodName := ⟨RX7, "out", "(I)I"⟩
abbrev cX7_word : ByteArray := prog_1_method_32_code
def yX7_word : MethodName := ⟨RX7, "word", "(I)I"⟩
abbrev cX7_told : ByteArray := prog_1_method_33_code
def yX7_told : MethodName := ⟨RX7, "told", "(I)I"⟩
abbrev cX7_clear : ByteArray := prog_1_method_34_code
def yX7_clear : MethodName := ⟨RX7, "clear", "()I"⟩
abbrev cX7_check : ByteArray := prog_1_method_35_code
def yX7_check : MethodName := ⟨RX7, "check", "(I)I"⟩
abbrev cX7_prove : ByteArray := prog_1_method_36_code
def yX7_prove : MethodName := ⟨RX7, "prove", "(I)I"⟩
def RX8 : String := "NumberArenaModel"
def TX8 : u_T := fun k => match k with
  | 0 => ("NumberArenaModel", "handles", "I", true)
  | 1 => ("NumberArenaModel", "cells", "I", true)
  | 2 => ("NumberArenaModel", "wordMost", "I", true)
  | 3 => ("NumberArenaModel", "big", "[I", true)
  | 4 => ("NumberArenaModel", "len", "[I", true)
  | 5 => ("NumberArenaModel", "live", "[Z", true)
  | 6 => ("NumberArenaModel", "room", "[I", true)
  | 7 => ("NumberArenaModel", "place", "[I", true)
  | 8 => ("NumberArenaModel", "tPlace", "[I", true)
  | 9 => ("NumberArenaModel", "tRoom", "[I", true)
  | 10 => ("NumberArenaModel", "taken", "I", false)
  | 11 => ("NumberArenaModel", "slides", "I", false)
  | 12 => ("NumberArenaModel", "tape", "[I", true)
  | 13 => ("NumberArenaModel", "out", "[I", true)
  | 14 => ("NumberArenaModel", "taped", "I", false)
  | 15 => ("NumberArenaModel", "outs", "I", false)
  | 16 => ("NumberArenaModel", "faultAt", "I", false)
  | 17 => ("NumberArenaModel", "word", "[I", true)
  | 18 => ("NumberArenaModel", "words", "I", false)
  | 19 => ("NumberArenaModel", "nodes", "I", false)
  | 20 => ("NumberArenaModel", "next", "I", false)
  | 21 => ("NumberArenaModel", "nP", "[I", true)
  | 22 => ("NumberArenaModel", "nW", "[I", true)
  | 23 => ("NumberArenaModel", "nParent", "[I", true)
  | 24 => ("NumberArenaModel", "nTimes", "[I", true)
  | 25 => ("NumberArenaModel", "nLeft", "[I", true)
  | 26 => ("NumberArenaModel", "made", "[I", true)
  | 27 => ("NumberArenaModel", "makes", "I", false)
  | _ => ("NumberArenaModel", "isDeep", "Z", false)
def tyX8 : Nat → FieldType := fun k => match k with
  | 0 => .int
  | 1 => .int
  | 2 => .int
  | 3 => .array .int
  | 4 => .array .int
  | 5 => .array .boolean
  | 6 => .array .int
  | 7 => .array .int
  | 8 => .array .int
  | 9 => .array .int
  | 10 => .int
  | 11 => .int
  | 12 => .array .int
  | 13 => .array .int
  | 14 => .int
  | 15 => .int
  | 16 => .int
  | 17 => .array .int
  | 18 => .int
  | 19 => .int
  | 20 => .int
  | 21 => .array .int
  | 22 => .array .int
  | 23 => .array .int
  | 24 => .array .int
  | 25 => .array .int
  | 26 => .array .int
  | 27 => .int
  | _ => .boolean
abbrev wsX80 : List Cond := u_ws RX8 TX8 29
theorem nmX8 : ∀ a, a < 29 → ∀ b, b < 29 → a ≠ b → (TX8 a).2.1 ≠ (TX8 b).2.1 := by decide +kernel
theorem tyX8_ok : ∀ k, k < 29 → parseFieldDescriptor (TX8 k).2.2.1 = some (tyX8 k) := by decide +kernel
abbrev cX8_init : ByteArray := prog_10_method_1_code
def yX8_init : MethodName := ⟨RX8, "<init>", "(III)V"⟩
abbrev cX8_near : ByteArray := prog_10_method_2_code
def yX8_near : MethodName := ⟨RX8, "near", "(III)I"⟩
abbrev cX8_isIn : ByteArray := prog_10_method_3_code
def yX8_isIn : MethodName := ⟨RX8, "isIn", "(III)Z"⟩
abbrev cX8_at : ByteArray := prog_10_method_4_code
def yX8_at : MethodName := ⟨RX8, "at", "(II)I"⟩
abbrev cX8_put : ByteArray := prog_10_method_5_code
def yX8_put : MethodName := ⟨RX8, "put", "(III)V"⟩
abbrev cX8_fix : ByteArray := prog_10_method_6_code
def yX8_fix : MethodName := ⟨RX8, "fix", "(II)V"⟩
abbrev cX8_copy : ByteArray := prog_10_method_7_code
def yX8_copy : MethodName := ⟨RX8, "copy", "(II)V"⟩
abbrev cX8_small : ByteArray := prog_10_method_8_code
def yX8_small : MethodName := ⟨RX8, "small", "(II)V"⟩
abbrev cX8_compared : ByteArray := prog_10_method_9_code
def yX8_compared : MethodName := ⟨RX8, "compared", "(II)I"⟩
abbrev cX8_isOne : ByteArray := prog_10_method_10_code
def yX8_isOne : MethodName := ⟨RX8, "isOne", "(I)Z"⟩
abbrev cX8_sum : ByteArray := prog_10_method_11_code
def yX8_sum : MethodName := ⟨RX8, "sum", "(III)V"⟩
abbrev cX8_difference : ByteArray := prog_10_method_12_code
def yX8_difference : MethodName := ⟨RX8, "difference", "(III)V"⟩
abbrev cX8_product : ByteArray := prog_10_method_13_code
def yX8_product : MethodName := ⟨RX8, "product", "(III)V"⟩
abbrev cX8_divide : ByteArray := prog_10_method_14_code
def yX8_divide : MethodName := ⟨RX8, "divide", "(IIII)V"⟩
abbrev cX8_bits : ByteArray := prog_10_method_15_code
def yX8_bits : MethodName := ⟨RX8, "bits", "(I)I"⟩
abbrev cX8_bit : ByteArray := prog_10_method_16_code
def yX8_bit : MethodName := ⟨RX8, "bit", "(II)I"⟩
abbrev cX8_power : ByteArray := prog_10_method_17_code
def yX8_power : MethodName := ⟨RX8, "power", "(IIII)V"⟩
abbrev cX8_end : ByteArray := prog_10_method_18_code
def yX8_end : MethodName := ⟨RX8, "end", "()I"⟩
abbrev cX8_slide : ByteArray := prog_10_method_19_code
def yX8_slide : MethodName := ⟨RX8, "slide", "()V"⟩
abbrev cX8_take : ByteArray := prog_10_method_20_code
def yX8_take : MethodName := ⟨RX8, "take", "(I)Z"⟩
abbrev cX8_gets : ByteArray := prog_10_method_21_code
def yX8_gets : MethodName := ⟨RX8, "gets", "(III)V"⟩
abbrev cX8_isLive : ByteArray := prog_10_method_22_code
def yX8_isLive : MethodName := ⟨RX8, "isLive", "(I)Z"⟩
abbrev cX8_comes : ByteArray := prog_10_method_23_code
def yX8_comes : MethodName := ⟨RX8, "comes", "(II)I"⟩
abbrev cX8_alloc : ByteArray := prog_10_method_24_code
def yX8_alloc : MethodName := ⟨RX8, "alloc", "(I)I"⟩
abbrev cX8_release : ByteArray := prog_10_method_25_code
def yX8_release : MethodName := ⟨RX8, "release", "(I)I"⟩
abbrev cX8_resize : ByteArray := prog_10_method_26_code
def yX8_resize : MethodName := ⟨RX8, "resize", "(II)I"⟩
abbrev cX8_setLimb : ByteArray := prog_10_method_27_code
def yX8_setLimb : MethodName := ⟨RX8, "setLimb", "(III)I"⟩
abbrev cX8_limb : ByteArray := prog_10_method_28_code
def yX8_limb : MethodName := ⟨RX8, "limb", "(II)I"⟩
abbrev cX8_look : ByteArray := prog_10_method_29_code
def yX8_look : MethodName := ⟨RX8, "look", "(II)I"⟩
abbrev cX8_allRooms : ByteArray := prog_10_method_30_code
def yX8_allRooms : MethodName := ⟨RX8, "allRooms", "()I"⟩
abbrev cX8_about : ByteArray := prog_10_method_31_code
def yX8_about : MethodName := ⟨RX8, "about", "(I)I"⟩
abbrev cX8_cell : ByteArray := prog_10_method_32_code
def yX8_cell : MethodName := ⟨RX8, "cell", "(I)I"⟩
abbrev cX8_add : ByteArray := prog_10_method_33_code
def yX8_add : MethodName := ⟨RX8, "add", "(III)I"⟩
abbrev cX8_sub : ByteArray := prog_10_method_34_code
def yX8_sub : MethodName := ⟨RX8, "sub", "(III)I"⟩
abbrev cX8_mul : ByteArray := prog_10_method_35_code
def yX8_mul : MethodName := ⟨RX8, "mul", "(III)I"⟩
abbrev cX8_divmod : ByteArray := prog_10_method_36_code
def yX8_divmod : MethodName := ⟨RX8, "divmod", "(IIII)I"⟩
abbrev cX8_powmod : ByteArray := prog_10_method_37_code
def yX8_powmod : MethodName := ⟨RX8, "powmod", "(IIII)I"⟩
abbrev cX8_gcd : ByteArray := prog_10_method_38_code
def yX8_gcd : MethodName := ⟨RX8, "gcd", "(III)I"⟩
abbrev cX8_root : ByteArray := prog_10_method_39_code
def yX8_root : MethodName := ⟨RX8, "root", "(II)I"⟩
abbrev cX8_shifted : ByteArray := prog_10_method_40_code
def yX8_shifted : MethodName := ⟨RX8, "shifted", "(III)V"⟩
abbrev cX8_shift : ByteArray := prog_10_method_41_code
def yX8_shift : MethodName := ⟨RX8, "shift", "(III)I"⟩
abbrev cX8_compare : ByteArray := prog_10_method_42_code
def yX8_compare : MethodName := ⟨RX8, "compare", "(II)I"⟩
abbrev cX8_jacobi : ByteArray := prog_10_method_43_code
def yX8_jacobi : MethodName := ⟨RX8, "jacobi", "(II)I"⟩
abbrev cX8_feed : ByteArray := prog_10_method_44_code
def yX8_feed : MethodName := ⟨RX8, "feed", "(IIIII)I"⟩
abbrev cX8_end_ : ByteArray := prog_10_method_45_code
def yX8_end_ : MethodName := ⟨RX8, "end", "(I)Z"⟩
abbrev cX8_digit : ByteArray := prog_10_method_46_code
def yX8_digit : MethodName := ⟨RX8, "digit", "(I)I"⟩
abbrev cX8_number : ByteArray := prog_10_method_47_code
def yX8_number : MethodName := ⟨RX8, "number", "(II)I"⟩
abbrev cX8_fault : ByteArray := prog_10_method_48_code
def yX8_fault : MethodName := ⟨RX8, "fault", "()I"⟩
abbrev cX8_text : ByteArray := prog_10_method_49_code
def yX8_text : MethodName := ⟨RX8, "text", "(II)I"⟩
abbrev cX8_out : ByteArray := prog_10_method_50_code
def yX8_out : MethodName := ⟨RX8, "out", "(I)I"⟩
abbrev cX8_word : ByteArray := prog_10_method_51_code
def yX8_word : MethodName := ⟨RX8, "word", "(I)I"⟩
abbrev cX8_told : ByteArray := prog_10_method_52_code
def yX8_told : MethodName := ⟨RX8, "told", "(I)I"⟩
abbrev cX8_clear : ByteArray := prog_10_method_53_code
def yX8_clear : MethodName := ⟨RX8, "clear", "()I"⟩
abbrev cX8_passes : ByteArray := prog_10_method_54_code
def yX8_passes : MethodName := ⟨RX8, "passes", "()Z"⟩
abbrev cX8_isTwo : ByteArray := prog_10_method_55_code
def yX8_isTwo : MethodName := ⟨RX8, "isTwo", "(I)Z"⟩
abbrev cX8_opens : ByteArray := prog_10_method_56_code
def yX8_opens : MethodName := ⟨RX8, "opens", "(II)Z"⟩
abbrev cX8_isRow : ByteArray := prog_10_method_57_code
def yX8_isRow : MethodName := ⟨RX8, "isRow", "()Z"⟩
abbrev cX8_load : ByteArray := prog_10_method_58_code
def yX8_load : MethodName := ⟨RX8, "load", "(II)V"⟩
abbrev cX8_isGood : ByteArray := prog_10_method_59_code
def yX8_isGood : MethodName := ⟨RX8, "isGood", "(I)Z"⟩
abbrev cX8_check : ByteArray := prog_10_method_60_code
def yX8_check : MethodName := ⟨RX8, "check", "(I)I"⟩
abbrev cX8_isPrime : ByteArray := prog_10_method_61_code
def yX8_isPrime : MethodName := ⟨RX8, "isPrime", "(I)Z"⟩
abbrev cX8_powers : ByteArray := prog_10_method_62_code
def yX8_powers : MethodName := ⟨RX8, "powers", "(III)I"⟩
abbrev cX8_writes : ByteArray := prog_10_method_63_code
def yX8_writes : MethodName := ⟨RX8, "writes", "(I)V"⟩
abbrev cX8_writesNumber : ByteArray := prog_10_method_64_code
def yX8_writesNumber : MethodName := ⟨RX8, "writesNumber", "(I)V"⟩
abbrev cX8_does : ByteArray := prog_10_method_65_code
def yX8_does : MethodName := ⟨RX8, "does", "(II)Z"⟩
abbrev cX8_certificate : ByteArray := prog_10_method_66_code
def yX8_certificate : MethodName := ⟨RX8, "certificate", "(II)V"⟩
abbrev cX8_prove : ByteArray := prog_10_method_67_code
def yX8_prove : MethodName := ⟨RX8, "prove", "(I)I"⟩
def RJ6 : String := "java/lang/Integer"
def TJ6 : u_T := fun k => match k with
  | _ => ("", "", "", false)
def tyJ6 : Nat → FieldType := fun k => match k with
  | _ => .int
abbrev wsJ60 : List Cond := u_ws RJ6 TJ6 0
theorem nmJ6 : ∀ a, a < 0 → ∀ b, b < 0 → a ≠ b → (TJ6 a).2.1 ≠ (TJ6 b).2.1 := by decide +kernel
theorem tyJ6_ok : ∀ k, k < 0 → parseFieldDescriptor (TJ6 k).2.2.1 = some (tyJ6 k) := by decide +kernel
abbrev cJ6_numberOfLeadingZeros_0f7a4 : ByteArray := prog_11_method_47_code
def yJ6_numberOfLeadingZeros_0f7a4 : MethodName := ⟨RJ6, "numberOfLeadingZeros", "(I)I"⟩
abbrev cJ6_numberOfTrailingZeros_0f7a4 : ByteArray := prog_11_method_48_code
def yJ6_numberOfTrailingZeros_0f7a4 : MethodName := ⟨RJ6, "numberOfTrailingZeros", "(I)I"⟩
def RJ9 : String := "java/lang/Math"
def TJ9 : u_T := fun k => match k with
  | _ => ("", "", "", false)
def tyJ9 : Nat → FieldType := fun k => match k with
  | _ => .int
abbrev wsJ90 : List Cond := u_ws RJ9 TJ9 0
theorem nmJ9 : ∀ a, a < 0 → ∀ b, b < 0 → a ≠ b → (TJ9 a).2.1 ≠ (TJ9 b).2.1 := by decide +kernel
theorem tyJ9_ok : ∀ k, k < 0 → parseFieldDescriptor (TJ9 k).2.2.1 = some (tyJ9 k) := by decide +kernel
abbrev cJ9_max_7cf53 : ByteArray := prog_12_method_65_code
def yJ9_max_7cf53 : MethodName := ⟨RJ9, "max", "(II)I"⟩
abbrev cJ9_min_7cf53 : ByteArray := prog_12_method_69_code
def yJ9_min_7cf53 : MethodName := ⟨RJ9, "min", "(II)I"⟩
def RJ10 : String := "java/lang/System"
def TJ10 : u_T := fun k => match k with
  | _ => ("", "", "", false)
def tyJ10 : Nat → FieldType := fun k => match k with
  | _ => .int
abbrev wsJ100 : List Cond := u_ws RJ10 TJ10 0
theorem nmJ10 : ∀ a, a < 0 → ∀ b, b < 0 → a ≠ b → (TJ10 a).2.1 ≠ (TJ10 b).2.1 := by decide +kernel
theorem tyJ10_ok : ∀ k, k < 0 → parseFieldDescriptor (TJ10 k).2.2.1 = some (tyJ10 k) := by decide +kernel
def RJ7 : String := "java/util/Arrays"
def TJ7 : u_T := fun k => match k with
  | _ => ("", "", "", false)
def tyJ7 : Nat → FieldType := fun k => match k with
  | _ => .int
abbrev wsJ70 : List Cond := u_ws RJ7 TJ7 0
theorem nmJ7 : ∀ a, a < 0 → ∀ b, b < 0 → a ≠ b → (TJ7 a).2.1 ≠ (TJ7 b).2.1 := by decide +kernel
theorem tyJ7_ok : ∀ k, k < 0 → parseFieldDescriptor (TJ7 k).2.2.1 = some (tyJ7 k) := by decide +kernel
abbrev cJ7_rangeCheck_23922 : ByteArray := prog_14_method_30_code
def yJ7_rangeCheck_23922 : MethodName := ⟨RJ7, "rangeCheck", "(III)V"⟩
abbrev cJ7_fill_fda19 : ByteArray := prog_14_method_104_code
def yJ7_fill_fda19 : MethodName := ⟨RJ7, "fill", "([IIII)V"⟩
def RL : String := "NumberArenaLaw"
abbrev cL_cell : ByteArray := method_2_code
def yL_cell : MethodName := ⟨RL, "cell", "([II)I"⟩
abbrev cL_law : ByteArray := code
def yL_law : MethodName := ⟨RL, "law", "([I)Z"⟩
abbrev vwCl : List vw_C := [(RX0, TX0, 7), (RX1, TX1, 7), (RX2, TX2, 11), (RX3, TX3, 2), (RX4, TX4, 3), (RX5, TX5, 2), (RX6, TX6, 2), (RX7, TX7, 10), (RX8, TX8, 29)]
end
section
/-! ===== the good words of the tables, and where each stands ===== -/
def BIG : List Jvm.Cond := lw_tbl.filter goodWord
theorem big_in : ∀ w ∈ BIG, w ∈ lw_tbl := fun w h => (List.mem_filter.mp h).1
theorem big_gd : ∀ w ∈ BIG, goodWord w = true := fun w h => (List.mem_filter.mp h).2
theorem bigAt {w : Jvm.Cond} (i : Nat) (h : lw_tbl[i]? = some w) (hg : goodWord w = true) : w ∈ BIG := List.mem_filter.mpr ⟨List.mem_of_getElem? h, hg⟩
theorem bigAll (ws : List Jvm.Cond) (ps : List Nat) (h : ws.map some = ps.map (fun i => lw_tbl[i]?)) (hg : ws.all goodWord = true) : ∀ w ∈ ws, w ∈ BIG := by
  intro w hw
  obtain ⟨j, hj⟩ := List.getElem?_of_mem hw
  have h1 : (ws.map some)[j]? = some (some w) := by rw [List.getElem?_map, hj]; rfl
  rw [h, List.getElem?_map] at h1
  cases hp : ps[j]? with
  | none => rw [hp] at h1; cases h1
  | some i =>
    rw [hp] at h1
    exact bigAt i (Option.some.inj h1) (List.all_eq_true.mp hg w hw)
theorem big_same : GoodIn BIG BIG := fun w h => ⟨h, good_of_word (big_gd w h)⟩
theorem bigU0 : ∀ w ∈ wsX00, w ∈ BIG := bigAll _ [158, 160, 162, 164, 166, 168, 170] (by decide +kernel) (by decide +kernel)
theorem bigU1 : ∀ w ∈ wsX10, w ∈ BIG := bigAll _ [102, 104, 106, 108, 110, 112, 114] (by decide +kernel) (by decide +kernel)
theorem bigU2 : ∀ w ∈ wsX20, w ∈ BIG := bigAll _ [222, 224, 226, 228, 230, 232, 234, 236, 238, 240, 242] (by decide +kernel) (by decide +kernel)
theorem bigU3 : ∀ w ∈ wsX30, w ∈ BIG := bigAll _ [196, 198] (by decide +kernel) (by decide +kernel)
theorem bigU4 : ∀ w ∈ wsX40, w ∈ BIG := bigAll _ [256, 258, 260] (by decide +kernel) (by decide +kernel)
theorem bigU5 : ∀ w ∈ wsX50, w ∈ BIG := bigAll _ [141, 143] (by decide +kernel) (by decide +kernel)
theorem bigU6 : ∀ w ∈ wsX60, w ∈ BIG := bigAll _ [182, 184] (by decide +kernel) (by decide +kernel)
theorem bigU7 : ∀ w ∈ wsX70, w ∈ BIG := bigAll _ [275, 277, 279, 281, 283, 285, 287, 289, 291, 293] (by decide +kernel) (by decide +kernel)
theorem bigU8 : ∀ w ∈ wsX80, w ∈ BIG := bigAll _ [829, 831, 833, 835, 837, 839, 841, 843, 845, 847, 849, 851, 853, 855, 857, 859, 861, 863, 865, 867, 869, 871, 873, 875, 877, 879, 881, 883, 885] (by decide +kernel) (by decide +kernel)
def fdX0 : List (Nat × Nat × Nat × Nat × Nat) := [(40, 5, 0, 2, 0), (36, 5, 1, 0, 0), (12, 0, 0, 4, 7), (18, 0, 1, 4, 9), (21, 0, 2, 4, 11), (24, 0, 3, 4, 13), (27, 0, 4, 4, 15), (30, 0, 5, 4, 17), (33, 0, 6, 4, 19)]
def icX0 : List (Nat × Int) := []
def lcX0 : List (Nat × Int) := []
def fpX0 : List Nat := [131, 134, 146, 149, 151, 154, 155, 156, 157]
def ipX0 : List Nat := []
def lpX0 : List Nat := []
theorem mlX0_44 : Jvm.Cond.methodLink RX0 44 yJ9_max_7cf53 ∈ BIG := bigAt 441 (by decide +kernel) (by decide +kernel)
theorem mlX0_50 : Jvm.Cond.methodLink RX0 50 yX5_limbAt ∈ BIG := bigAt 442 (by decide +kernel) (by decide +kernel)
theorem mlX0_54 : Jvm.Cond.methodLink RX0 54 yX5_trim ∈ BIG := bigAt 446 (by decide +kernel) (by decide +kernel)
theorem mlX0_58 : Jvm.Cond.methodLink RX0 58 yJ9_min_7cf53 ∈ BIG := bigAt 476 (by decide +kernel) (by decide +kernel)
theorem mlX0_67 : Jvm.Cond.methodLink RX0 67 yX0_order ∈ BIG := bigAt 489 (by decide +kernel) (by decide +kernel)
theorem mlX0_71 : Jvm.Cond.methodLink RX0 71 yX5_copy ∈ BIG := bigAt 490 (by decide +kernel) (by decide +kernel)
theorem mlX0_75 : Jvm.Cond.methodLink RX0 75 yX5_bitsOf ∈ BIG := bigAt 495 (by decide +kernel) (by decide +kernel)
theorem mlX0_78 : Jvm.Cond.methodLink RX0 78 yX0_shiftUp ∈ BIG := bigAt 496 (by decide +kernel) (by decide +kernel)
theorem mlX0_61 : Jvm.Cond.methodLink RX0 61 yJ7_fill_fda19 ∈ BIG := bigAt 499 (by decide +kernel) (by decide +kernel)
theorem mlX0_82 : Jvm.Cond.methodLink RX0 82 yX0_guessDigit ∈ BIG := bigAt 500 (by decide +kernel) (by decide +kernel)
theorem mlX0_85 : Jvm.Cond.methodLink RX0 85 yX0_subtractMultiple ∈ BIG := bigAt 504 (by decide +kernel) (by decide +kernel)
theorem mlX0_89 : Jvm.Cond.methodLink RX0 89 yX0_addBack ∈ BIG := bigAt 508 (by decide +kernel) (by decide +kernel)
theorem mlX0_92 : Jvm.Cond.methodLink RX0 92 yX0_shiftDown ∈ BIG := bigAt 512 (by decide +kernel) (by decide +kernel)
theorem mlX0_95 : Jvm.Cond.methodLink RX0 95 yX0_divide ∈ BIG := bigAt 530 (by decide +kernel) (by decide +kernel)
theorem mlX0_99 : Jvm.Cond.methodLink RX0 99 yX5_become ∈ BIG := bigAt 531 (by decide +kernel) (by decide +kernel)
theorem mlX0_102 : Jvm.Cond.methodLink RX0 102 yX5_bits ∈ BIG := bigAt 536 (by decide +kernel) (by decide +kernel)
theorem mlX0_106 : Jvm.Cond.methodLink RX0 106 yX5_hasBit ∈ BIG := bigAt 537 (by decide +kernel) (by decide +kernel)
theorem mlX0_110 : Jvm.Cond.methodLink RX0 110 yX0_product ∈ BIG := bigAt 542 (by decide +kernel) (by decide +kernel)
theorem mlX0_114 : Jvm.Cond.methodLink RX0 114 yX0_sum ∈ BIG := bigAt 559 (by decide +kernel) (by decide +kernel)
theorem mlX0_117 : Jvm.Cond.methodLink RX0 117 yX5_trailingZeros ∈ BIG := bigAt 578 (by decide +kernel) (by decide +kernel)
theorem mlX0_120 : Jvm.Cond.methodLink RX0 120 yX5_isOne ∈ BIG := bigAt 585 (by decide +kernel) (by decide +kernel)
def fdX1 : List (Nat × Nat × Nat × Nat × Nat) := [(9, 1, 0, 3, 0), (15, 1, 1, 4, 2), (19, 1, 2, 4, 3), (22, 1, 3, 4, 4), (25, 1, 4, 4, 5), (58, 1, 5, 0, 0), (70, 1, 6, 0, 0), (42, 5, 0, 2, 0), (51, 5, 1, 0, 0)]
def icX1 : List (Nat × Int) := []
def lcX1 : List (Nat × Int) := []
def fpX1 : List Nat := [89, 91, 93, 95, 97, 99, 101, 133, 139]
def ipX1 : List Nat := []
def lpX1 : List Nat := []
theorem mlX1_54 : Jvm.Cond.methodLink RX1 54 yX1_take ∈ BIG := bigAt 315 (by decide +kernel) (by decide +kernel)
theorem mlX1_61 : Jvm.Cond.methodLink RX1 61 yX1_hasSpace ∈ BIG := bigAt 319 (by decide +kernel) (by decide +kernel)
theorem mlX1_38 : Jvm.Cond.methodLink RX1 38 yX1_highestEnd ∈ BIG := bigAt 323 (by decide +kernel) (by decide +kernel)
theorem mlX1_32 : Jvm.Cond.methodLink RX1 32 yJ9_max_7cf53 ∈ BIG := bigAt 327 (by decide +kernel) (by decide +kernel)
theorem mlX1_64 : Jvm.Cond.methodLink RX1 64 yX1_slideTogether ∈ BIG := bigAt 328 (by decide +kernel) (by decide +kernel)
theorem mlX1_73 : Jvm.Cond.methodLink RX1 73 yX1_lowestRunFrom ∈ BIG := bigAt 332 (by decide +kernel) (by decide +kernel)
theorem mlX1_45 : Jvm.Cond.methodLink RX1 45 arraycopyName ∈ BIG := bigAt 336 (by decide +kernel) (by decide +kernel)
theorem mlX1_67 : Jvm.Cond.methodLink RX1 67 yX1_dropTaken ∈ BIG := bigAt 339 (by decide +kernel) (by decide +kernel)
theorem mlX1_76 : Jvm.Cond.methodLink RX1 76 yX1_settle ∈ BIG := bigAt 343 (by decide +kernel) (by decide +kernel)
theorem mlX1_83 : Jvm.Cond.methodLink RX1 83 yJ9_min_7cf53 ∈ BIG := bigAt 347 (by decide +kernel) (by decide +kernel)
theorem mlX1_86 : Jvm.Cond.methodLink RX1 86 yJ7_fill_fda19 ∈ BIG := bigAt 348 (by decide +kernel) (by decide +kernel)
theorem mlX1_28 : Jvm.Cond.methodLink RX1 28 yX1_isLive ∈ BIG := bigAt 437 (by decide +kernel) (by decide +kernel)
theorem mlX1_80 : Jvm.Cond.methodLink RX1 80 yX1_runFor ∈ BIG := bigAt 451 (by decide +kernel) (by decide +kernel)
def fdX2 : List (Nat × Nat × Nat × Nat × Nat) := [(85, 5, 0, 2, 0), (82, 5, 1, 0, 0), (143, 0, 0, 4, 7), (132, 0, 2, 4, 11), (33, 2, 0, 4, 44), (43, 2, 1, 0, 0), (37, 2, 2, 4, 45), (40, 2, 3, 4, 46), (59, 2, 4, 0, 0), (12, 2, 5, 4, 27), (18, 2, 6, 4, 29), (21, 2, 7, 4, 31), (24, 2, 8, 4, 33), (27, 2, 9, 4, 35), (30, 2, 10, 4, 37)]
def icX2 : List (Nat × Int) := []
def lcX2 : List (Nat × Int) := []
def fpX2 : List Nat := [132, 138, 147, 152, 209, 211, 213, 214, 215, 216, 217, 218, 219, 220, 221]
def ipX2 : List Nat := []
def lpX2 : List Nat := []
theorem mlX2_62 : Jvm.Cond.methodLink RX2 62 yX2_endOfNode ∈ BIG := bigAt 683 (by decide +kernel) (by decide +kernel)
theorem mlX2_65 : Jvm.Cond.methodLink RX2 65 yX2_endOfNumber ∈ BIG := bigAt 687 (by decide +kernel) (by decide +kernel)
theorem mlX2_76 : Jvm.Cond.methodLink RX2 76 yX2_wordAt ∈ BIG := bigAt 691 (by decide +kernel) (by decide +kernel)
theorem mlX2_69 : Jvm.Cond.methodLink RX2 69 yX2_isTwo ∈ BIG := bigAt 692 (by decide +kernel) (by decide +kernel)
theorem mlX2_73 : Jvm.Cond.methodLink RX2 73 yX2_endOfFactors ∈ BIG := bigAt 696 (by decide +kernel) (by decide +kernel)
theorem mlX2_88 : Jvm.Cond.methodLink RX2 88 yX2_readNumber ∈ BIG := bigAt 706 (by decide +kernel) (by decide +kernel)
theorem mlX2_47 : Jvm.Cond.methodLink RX2 47 yJ9_min_7cf53 ∈ BIG := bigAt 710 (by decide +kernel) (by decide +kernel)
theorem mlX2_79 : Jvm.Cond.methodLink RX2 79 yJ9_max_7cf53 ∈ BIG := bigAt 711 (by decide +kernel) (by decide +kernel)
theorem mlX2_92 : Jvm.Cond.methodLink RX2 92 yX0_order ∈ BIG := bigAt 712 (by decide +kernel) (by decide +kernel)
theorem mlX2_98 : Jvm.Cond.methodLink RX2 98 yX2_factorsFit ∈ BIG := bigAt 713 (by decide +kernel) (by decide +kernel)
theorem mlX2_105 : Jvm.Cond.methodLink RX2 105 yX5_become ∈ BIG := bigAt 717 (by decide +kernel) (by decide +kernel)
theorem mlX2_109 : Jvm.Cond.methodLink RX2 109 yX5_trim ∈ BIG := bigAt 718 (by decide +kernel) (by decide +kernel)
theorem mlX2_112 : Jvm.Cond.methodLink RX2 112 yX2_multiplyTotal ∈ BIG := bigAt 719 (by decide +kernel) (by decide +kernel)
theorem mlX2_123 : Jvm.Cond.methodLink RX2 123 yX0_product ∈ BIG := bigAt 723 (by decide +kernel) (by decide +kernel)
theorem mlX2_115 : Jvm.Cond.methodLink RX2 115 yX5_copy ∈ BIG := bigAt 724 (by decide +kernel) (by decide +kernel)
theorem mlX2_119 : Jvm.Cond.methodLink RX2 119 yX0_sum ∈ BIG := bigAt 725 (by decide +kernel) (by decide +kernel)
theorem mlX2_101 : Jvm.Cond.methodLink RX2 101 yX2_witnessHolds ∈ BIG := bigAt 726 (by decide +kernel) (by decide +kernel)
theorem mlX2_126 : Jvm.Cond.methodLink RX2 126 yX0_difference ∈ BIG := bigAt 730 (by decide +kernel) (by decide +kernel)
theorem mlX2_129 : Jvm.Cond.methodLink RX2 129 yX0_raise ∈ BIG := bigAt 731 (by decide +kernel) (by decide +kernel)
theorem mlX2_135 : Jvm.Cond.methodLink RX2 135 yX5_isOne ∈ BIG := bigAt 732 (by decide +kernel) (by decide +kernel)
theorem mlX2_139 : Jvm.Cond.methodLink RX2 139 yX0_divide ∈ BIG := bigAt 733 (by decide +kernel) (by decide +kernel)
theorem mlX2_53 : Jvm.Cond.methodLink RX2 53 arraycopyName ∈ BIG := bigAt 787 (by decide +kernel) (by decide +kernel)
def fdX3 : List (Nat × Nat × Nat × Nat × Nat) := [(28, 5, 1, 0, 0), (9, 3, 0, 4, 42), (15, 3, 1, 0, 0)]
def icX3 : List (Nat × Int) := []
def lcX3 : List (Nat × Int) := []
def fpX3 : List Nat := [136, 193, 194]
def ipX3 : List Nat := []
def lpX3 : List Nat := []
theorem mlX3_19 : Jvm.Cond.methodLink RX3 19 yX5_divideBy ∈ BIG := bigAt 640 (by decide +kernel) (by decide +kernel)
theorem mlX3_25 : Jvm.Cond.methodLink RX3 25 yX3_characterOf ∈ BIG := bigAt 644 (by decide +kernel) (by decide +kernel)
def fdX4 : List (Nat × Nat × Nat × Nat × Nat) := [(15, 4, 0, 4, 48), (27, 4, 1, 0, 0), (11, 4, 2, 4, 49)]
def icX4 : List (Nat × Int) := []
def lcX4 : List (Nat × Int) := []
def fpX4 : List Nat := [251, 253, 255]
def ipX4 : List Nat := []
def lpX4 : List Nat := []
theorem mlX4_18 : Jvm.Cond.methodLink RX4 18 yX4_leastFactor ∈ BIG := bigAt 741 (by decide +kernel) (by decide +kernel)
theorem mlX4_22 : Jvm.Cond.methodLink RX4 22 yJ9_max_7cf53 ∈ BIG := bigAt 744 (by decide +kernel) (by decide +kernel)
theorem mlX4_31 : Jvm.Cond.methodLink RX4 31 yX4_writeNode ∈ BIG := bigAt 749 (by decide +kernel) (by decide +kernel)
theorem mlX4_35 : Jvm.Cond.methodLink RX4 35 yX4_putNumber ∈ BIG := bigAt 753 (by decide +kernel) (by decide +kernel)
theorem mlX4_49 : Jvm.Cond.methodLink RX4 49 yX4_put ∈ BIG := bigAt 757 (by decide +kernel) (by decide +kernel)
theorem mlX4_39 : Jvm.Cond.methodLink RX4 39 yX4_writeFactors ∈ BIG := bigAt 761 (by decide +kernel) (by decide +kernel)
theorem mlX4_42 : Jvm.Cond.methodLink RX4 42 yX4_findFactors ∈ BIG := bigAt 765 (by decide +kernel) (by decide +kernel)
theorem mlX4_52 : Jvm.Cond.methodLink RX4 52 yX4_exponentOf ∈ BIG := bigAt 769 (by decide +kernel) (by decide +kernel)
theorem mlX4_45 : Jvm.Cond.methodLink RX4 45 yX4_leastWitness ∈ BIG := bigAt 772 (by decide +kernel) (by decide +kernel)
theorem mlX4_55 : Jvm.Cond.methodLink RX4 55 yX4_isWitness ∈ BIG := bigAt 776 (by decide +kernel) (by decide +kernel)
theorem mlX4_59 : Jvm.Cond.methodLink RX4 59 yX4_powerModulo ∈ BIG := bigAt 780 (by decide +kernel) (by decide +kernel)
def fdX5 : List (Nat × Nat × Nat × Nat × Nat) := [(9, 5, 0, 2, 0), (15, 5, 1, 0, 0)]
def icX5 : List (Nat × Int) := []
def lcX5 : List (Nat × Int) := []
def fpX5 : List Nat := [130, 135]
def ipX5 : List Nat := []
def lpX5 : List Nat := []
theorem mlX5_29 : Jvm.Cond.methodLink RX5 29 yX5_bitsOf ∈ BIG := bigAt 401 (by decide +kernel) (by decide +kernel)
theorem mlX5_41 : Jvm.Cond.methodLink RX5 41 yJ6_numberOfLeadingZeros_0f7a4 ∈ BIG := bigAt 404 (by decide +kernel) (by decide +kernel)
theorem mlX5_19 : Jvm.Cond.methodLink RX5 19 arraycopyName ∈ BIG := bigAt 494 (by decide +kernel) (by decide +kernel)
theorem mlX5_25 : Jvm.Cond.methodLink RX5 25 yX5_trim ∈ BIG := bigAt 535 (by decide +kernel) (by decide +kernel)
theorem mlX5_33 : Jvm.Cond.methodLink RX5 33 yX5_limbAt ∈ BIG := bigAt 541 (by decide +kernel) (by decide +kernel)
theorem mlX5_36 : Jvm.Cond.methodLink RX5 36 yJ6_numberOfTrailingZeros_0f7a4 ∈ BIG := bigAt 582 (by decide +kernel) (by decide +kernel)
def fdX6 : List (Nat × Nat × Nat × Nat × Nat) := [(29, 5, 1, 0, 0), (9, 6, 0, 4, 40), (15, 6, 1, 0, 0)]
def icX6 : List (Nat × Int) := []
def lcX6 : List (Nat × Int) := []
def fpX6 : List Nat := [137, 179, 180]
def ipX6 : List Nat := []
def lpX6 : List Nat := []
theorem mlX6_19 : Jvm.Cond.methodLink RX6 19 yX6_digitOf ∈ BIG := bigAt 616 (by decide +kernel) (by decide +kernel)
theorem mlX6_23 : Jvm.Cond.methodLink RX6 23 yX5_trim ∈ BIG := bigAt 623 (by decide +kernel) (by decide +kernel)
theorem mlX6_32 : Jvm.Cond.methodLink RX6 32 yX5_timesPlus ∈ BIG := bigAt 624 (by decide +kernel) (by decide +kernel)
def fdX7 : List (Nat × Nat × Nat × Nat × Nat) := [(147, 1, 0, 3, 0), (150, 1, 1, 4, 2), (126, 1, 2, 4, 3), (110, 1, 3, 4, 4), (106, 1, 4, 4, 5), (138, 1, 6, 0, 0), (202, 5, 1, 0, 0), (196, 0, 0, 4, 7), (199, 0, 1, 4, 9), (218, 0, 2, 4, 11), (156, 6, 1, 0, 0), (257, 3, 1, 0, 0), (153, 2, 0, 4, 44), (144, 2, 1, 0, 0), (284, 4, 0, 4, 48), (287, 4, 1, 0, 0), (18, 7, 0, 4, 1), (25, 7, 1, 4, 6), (32, 7, 2, 4, 39), (39, 7, 3, 4, 41), (48, 7, 4, 4, 43), (55, 7, 5, 4, 47), (62, 7, 6, 4, 21), (66, 7, 7, 4, 23), (69, 7, 8, 4, 25), (72, 7, 9, 0, 0)]
def icX7 : List (Nat × Int) := []
def lcX7 : List (Nat × Int) := []
def fpX7 : List Nat := [90, 92, 94, 96, 98, 100, 140, 148, 150, 153, 181, 195, 210, 212, 252, 254, 265, 266, 267, 268, 269, 270, 271, 272, 273, 274]
def ipX7 : List Nat := []
def lpX7 : List Nat := []
theorem mlX7_7 : Jvm.Cond.methodLink RX7 7 yX7_nearest ∈ BIG := bigAt 74 (by decide +kernel) (by decide +kernel)
theorem mlX7_76 : Jvm.Cond.methodLink RX7 76 yJ9_min_7cf53 ∈ BIG := bigAt 77 (by decide +kernel) (by decide +kernel)
theorem mlX7_82 : Jvm.Cond.methodLink RX7 82 yJ9_max_7cf53 ∈ BIG := bigAt 80 (by decide +kernel) (by decide +kernel)
theorem mlX7_15 : Jvm.Cond.methodLink RX7 15 yX1_init ∈ BIG := bigAt 85 (by decide +kernel) (by decide +kernel)
theorem mlX7_45 : Jvm.Cond.methodLink RX7 45 yX2_init ∈ BIG := bigAt 203 (by decide +kernel) (by decide +kernel)
theorem mlX7_54 : Jvm.Cond.methodLink RX7 54 yX4_init ∈ BIG := bigAt 247 (by decide +kernel) (by decide +kernel)
theorem mlX7_85 : Jvm.Cond.methodLink RX7 85 yX7_isRoom ∈ BIG := bigAt 300 (by decide +kernel) (by decide +kernel)
theorem mlX7_89 : Jvm.Cond.methodLink RX7 89 yX1_leastFree ∈ BIG := bigAt 303 (by decide +kernel) (by decide +kernel)
theorem mlX7_93 : Jvm.Cond.methodLink RX7 93 yX5_trim ∈ BIG := bigAt 307 (by decide +kernel) (by decide +kernel)
theorem mlX7_96 : Jvm.Cond.methodLink RX7 96 yX1_giveRun ∈ BIG := bigAt 311 (by decide +kernel) (by decide +kernel)
theorem mlX7_100 : Jvm.Cond.methodLink RX7 100 yX1_isLive ∈ BIG := bigAt 358 (by decide +kernel) (by decide +kernel)
theorem mlX7_103 : Jvm.Cond.methodLink RX7 103 yX1_free ∈ BIG := bigAt 362 (by decide +kernel) (by decide +kernel)
theorem mlX7_113 : Jvm.Cond.methodLink RX7 113 yX1_read ∈ BIG := bigAt 370 (by decide +kernel) (by decide +kernel)
theorem mlX7_117 : Jvm.Cond.methodLink RX7 117 yX7_isLimb ∈ BIG := bigAt 378 (by decide +kernel) (by decide +kernel)
theorem mlX7_120 : Jvm.Cond.methodLink RX7 120 yX1_writeLimb ∈ BIG := bigAt 381 (by decide +kernel) (by decide +kernel)
theorem mlX7_123 : Jvm.Cond.methodLink RX7 123 yX1_limbOf ∈ BIG := bigAt 389 (by decide +kernel) (by decide +kernel)
theorem mlX7_129 : Jvm.Cond.methodLink RX7 129 yX5_bits ∈ BIG := bigAt 397 (by decide +kernel) (by decide +kernel)
theorem mlX7_132 : Jvm.Cond.methodLink RX7 132 yX1_usedCells ∈ BIG := bigAt 412 (by decide +kernel) (by decide +kernel)
theorem mlX7_135 : Jvm.Cond.methodLink RX7 135 yX1_highestEnd ∈ BIG := bigAt 416 (by decide +kernel) (by decide +kernel)
theorem mlX7_141 : Jvm.Cond.methodLink RX7 141 yX1_liveHandles ∈ BIG := bigAt 417 (by decide +kernel) (by decide +kernel)
theorem mlX7_157 : Jvm.Cond.methodLink RX7 157 yX1_limbIn ∈ BIG := bigAt 425 (by decide +kernel) (by decide +kernel)
theorem mlX7_161 : Jvm.Cond.methodLink RX7 161 yX1_areLive ∈ BIG := bigAt 433 (by decide +kernel) (by decide +kernel)
theorem mlX7_165 : Jvm.Cond.methodLink RX7 165 yX0_sum ∈ BIG := bigAt 438 (by decide +kernel) (by decide +kernel)
theorem mlX7_169 : Jvm.Cond.methodLink RX7 169 yX1_come ∈ BIG := bigAt 447 (by decide +kernel) (by decide +kernel)
theorem mlX7_173 : Jvm.Cond.methodLink RX7 173 yX0_order ∈ BIG := bigAt 459 (by decide +kernel) (by decide +kernel)
theorem mlX7_177 : Jvm.Cond.methodLink RX7 177 yX0_difference ∈ BIG := bigAt 462 (by decide +kernel) (by decide +kernel)
theorem mlX7_180 : Jvm.Cond.methodLink RX7 180 yX1_takeAhead ∈ BIG := bigAt 469 (by decide +kernel) (by decide +kernel)
theorem mlX7_183 : Jvm.Cond.methodLink RX7 183 yX0_product ∈ BIG := bigAt 473 (by decide +kernel) (by decide +kernel)
theorem mlX7_186 : Jvm.Cond.methodLink RX7 186 yX7_isLiveOrNone ∈ BIG := bigAt 481 (by decide +kernel) (by decide +kernel)
theorem mlX7_189 : Jvm.Cond.methodLink RX7 189 yX0_divide ∈ BIG := bigAt 485 (by decide +kernel) (by decide +kernel)
theorem mlX7_193 : Jvm.Cond.methodLink RX7 193 yX7_bringBoth ∈ BIG := bigAt 515 (by decide +kernel) (by decide +kernel)
theorem mlX7_205 : Jvm.Cond.methodLink RX7 205 yX1_runFor ∈ BIG := bigAt 519 (by decide +kernel) (by decide +kernel)
theorem mlX7_208 : Jvm.Cond.methodLink RX7 208 yX1_settle ∈ BIG := bigAt 520 (by decide +kernel) (by decide +kernel)
theorem mlX7_212 : Jvm.Cond.methodLink RX7 212 yX1_dropTaken ∈ BIG := bigAt 521 (by decide +kernel) (by decide +kernel)
theorem mlX7_215 : Jvm.Cond.methodLink RX7 215 yX0_raise ∈ BIG := bigAt 526 (by decide +kernel) (by decide +kernel)
theorem mlX7_221 : Jvm.Cond.methodLink RX7 221 yX0_commonDivisor ∈ BIG := bigAt 547 (by decide +kernel) (by decide +kernel)
theorem mlX7_224 : Jvm.Cond.methodLink RX7 224 yX0_squareRoot ∈ BIG := bigAt 555 (by decide +kernel) (by decide +kernel)
theorem mlX7_228 : Jvm.Cond.methodLink RX7 228 yX0_shiftDown ∈ BIG := bigAt 564 (by decide +kernel) (by decide +kernel)
theorem mlX7_232 : Jvm.Cond.methodLink RX7 232 yX0_shiftUp ∈ BIG := bigAt 565 (by decide +kernel) (by decide +kernel)
theorem mlX7_235 : Jvm.Cond.methodLink RX7 235 yX0_jacobiSymbol ∈ BIG := bigAt 574 (by decide +kernel) (by decide +kernel)
theorem mlX7_238 : Jvm.Cond.methodLink RX7 238 yX6_hasSpace ∈ BIG := bigAt 593 (by decide +kernel) (by decide +kernel)
theorem mlX7_241 : Jvm.Cond.methodLink RX7 241 yX6_putBytesOf ∈ BIG := bigAt 597 (by decide +kernel) (by decide +kernel)
theorem mlX7_244 : Jvm.Cond.methodLink RX7 244 yX7_isBase ∈ BIG := bigAt 609 (by decide +kernel) (by decide +kernel)
theorem mlX7_247 : Jvm.Cond.methodLink RX7 247 yX6_digitsAhead ∈ BIG := bigAt 612 (by decide +kernel) (by decide +kernel)
theorem mlX7_250 : Jvm.Cond.methodLink RX7 250 yX6_readNumber ∈ BIG := bigAt 619 (by decide +kernel) (by decide +kernel)
theorem mlX7_254 : Jvm.Cond.methodLink RX7 254 yX3_write ∈ BIG := bigAt 636 (by decide +kernel) (by decide +kernel)
theorem mlX7_258 : Jvm.Cond.methodLink RX7 258 yX3_byteAt ∈ BIG := bigAt 651 (by decide +kernel) (by decide +kernel)
theorem mlX7_261 : Jvm.Cond.methodLink RX7 261 yX2_append ∈ BIG := bigAt 659 (by decide +kernel) (by decide +kernel)
theorem mlX7_264 : Jvm.Cond.methodLink RX7 264 yX2_wordAt ∈ BIG := bigAt 667 (by decide +kernel) (by decide +kernel)
theorem mlX7_267 : Jvm.Cond.methodLink RX7 267 yX2_isOneNode ∈ BIG := bigAt 679 (by decide +kernel) (by decide +kernel)
theorem mlX7_271 : Jvm.Cond.methodLink RX7 271 yX1_slideTogether ∈ BIG := bigAt 700 (by decide +kernel) (by decide +kernel)
theorem mlX7_274 : Jvm.Cond.methodLink RX7 274 yX1_hasSpace ∈ BIG := bigAt 701 (by decide +kernel) (by decide +kernel)
theorem mlX7_275 : Jvm.Cond.methodLink RX7 275 yX2_isGoodFor ∈ BIG := bigAt 702 (by decide +kernel) (by decide +kernel)
theorem mlX7_279 : Jvm.Cond.methodLink RX7 279 yX4_isPrime ∈ BIG := bigAt 738 (by decide +kernel) (by decide +kernel)
theorem mlX7_282 : Jvm.Cond.methodLink RX7 282 yX4_write ∈ BIG := bigAt 745 (by decide +kernel) (by decide +kernel)
theorem mlX7_288 : Jvm.Cond.methodLink RX7 288 yX2_copyWords ∈ BIG := bigAt 783 (by decide +kernel) (by decide +kernel)
def fdX8 : List (Nat × Nat × Nat × Nat × Nat) := [(67, 8, 0, 3, 0), (70, 8, 1, 3, 0), (73, 8, 2, 3, 0), (7, 8, 3, 4, 51), (13, 8, 4, 4, 52), (16, 8, 5, 4, 53), (20, 8, 6, 4, 54), (23, 8, 7, 4, 55), (26, 8, 8, 4, 56), (29, 8, 9, 4, 57), (114, 8, 10, 0, 0), (117, 8, 11, 0, 0), (32, 8, 12, 4, 58), (35, 8, 13, 4, 59), (147, 8, 14, 0, 0), (171, 8, 15, 0, 0), (38, 8, 16, 0, 0), (42, 8, 17, 4, 60), (144, 8, 18, 0, 0), (177, 8, 19, 0, 0), (174, 8, 20, 0, 0), (45, 8, 21, 4, 61), (48, 8, 22, 4, 62), (51, 8, 23, 4, 63), (54, 8, 24, 4, 64), (57, 8, 25, 4, 65), (60, 8, 26, 4, 66), (200, 8, 27, 0, 0), (210, 8, 28, 1, 0)]
def icX8 : List (Nat × Int) := [(84, 32768)]
def lcX8 : List (Nat × Int) := [(89, 32768)]
def fpX8 : List Nat := [800, 801, 802, 803, 804, 805, 806, 807, 808, 809, 810, 811, 812, 813, 814, 815, 816, 817, 818, 819, 820, 821, 822, 823, 824, 825, 826, 827, 828]
def ipX8 : List Nat := [968]
def lpX8 : List Nat := [1001]
theorem mlX8_63 : Jvm.Cond.methodLink RX8 63 yX8_near ∈ BIG := bigAt 797 (by decide +kernel) (by decide +kernel)
theorem mlX8_127 : Jvm.Cond.methodLink RX8 127 yX8_isIn ∈ BIG := bigAt 893 (by decide +kernel) (by decide +kernel)
theorem mlX8_131 : Jvm.Cond.methodLink RX8 131 yX8_take ∈ BIG := bigAt 896 (by decide +kernel) (by decide +kernel)
theorem mlX8_120 : Jvm.Cond.methodLink RX8 120 yX8_end ∈ BIG := bigAt 900 (by decide +kernel) (by decide +kernel)
theorem mlX8_124 : Jvm.Cond.methodLink RX8 124 yX8_slide ∈ BIG := bigAt 904 (by decide +kernel) (by decide +kernel)
theorem mlX8_138 : Jvm.Cond.methodLink RX8 138 yX8_isLive ∈ BIG := bigAt 912 (by decide +kernel) (by decide +kernel)
theorem mlX8_80 : Jvm.Cond.methodLink RX8 80 yX8_put ∈ BIG := bigAt 924 (by decide +kernel) (by decide +kernel)
theorem mlX8_85 : Jvm.Cond.methodLink RX8 85 yX8_fix ∈ BIG := bigAt 928 (by decide +kernel) (by decide +kernel)
theorem mlX8_76 : Jvm.Cond.methodLink RX8 76 yX8_at ∈ BIG := bigAt 936 (by decide +kernel) (by decide +kernel)
theorem mlX8_104 : Jvm.Cond.methodLink RX8 104 yX8_bits ∈ BIG := bigAt 944 (by decide +kernel) (by decide +kernel)
theorem mlX8_141 : Jvm.Cond.methodLink RX8 141 yX8_allRooms ∈ BIG := bigAt 952 (by decide +kernel) (by decide +kernel)
theorem mlX8_150 : Jvm.Cond.methodLink RX8 150 yX8_sum ∈ BIG := bigAt 964 (by decide +kernel) (by decide +kernel)
theorem mlX8_153 : Jvm.Cond.methodLink RX8 153 yX8_comes ∈ BIG := bigAt 969 (by decide +kernel) (by decide +kernel)
theorem mlX8_135 : Jvm.Cond.methodLink RX8 135 yX8_gets ∈ BIG := bigAt 973 (by decide +kernel) (by decide +kernel)
theorem mlX8_101 : Jvm.Cond.methodLink RX8 101 yX8_copy ∈ BIG := bigAt 977 (by decide +kernel) (by decide +kernel)
theorem mlX8_91 : Jvm.Cond.methodLink RX8 91 yX8_compared ∈ BIG := bigAt 985 (by decide +kernel) (by decide +kernel)
theorem mlX8_156 : Jvm.Cond.methodLink RX8 156 yX8_difference ∈ BIG := bigAt 989 (by decide +kernel) (by decide +kernel)
theorem mlX8_108 : Jvm.Cond.methodLink RX8 108 yX8_product ∈ BIG := bigAt 997 (by decide +kernel) (by decide +kernel)
theorem mlX8_97 : Jvm.Cond.methodLink RX8 97 yX8_divide ∈ BIG := bigAt 1006 (by decide +kernel) (by decide +kernel)
theorem mlX8_159 : Jvm.Cond.methodLink RX8 159 yX8_power ∈ BIG := bigAt 1014 (by decide +kernel) (by decide +kernel)
theorem mlX8_94 : Jvm.Cond.methodLink RX8 94 yX8_small ∈ BIG := bigAt 1018 (by decide +kernel) (by decide +kernel)
theorem mlX8_111 : Jvm.Cond.methodLink RX8 111 yX8_bit ∈ BIG := bigAt 1022 (by decide +kernel) (by decide +kernel)
theorem mlX8_162 : Jvm.Cond.methodLink RX8 162 yX8_shifted ∈ BIG := bigAt 1038 (by decide +kernel) (by decide +kernel)
theorem mlX8_165 : Jvm.Cond.methodLink RX8 165 yX8_isOne ∈ BIG := bigAt 1050 (by decide +kernel) (by decide +kernel)
theorem mlX8_168 : Jvm.Cond.methodLink RX8 168 yX8_digit ∈ BIG := bigAt 1066 (by decide +kernel) (by decide +kernel)
theorem mlX8_194 : Jvm.Cond.methodLink RX8 194 yX8_isRow ∈ BIG := bigAt 1097 (by decide +kernel) (by decide +kernel)
theorem mlX8_187 : Jvm.Cond.methodLink RX8 187 yX8_opens ∈ BIG := bigAt 1101 (by decide +kernel) (by decide +kernel)
theorem mlX8_180 : Jvm.Cond.methodLink RX8 180 yX8_passes ∈ BIG := bigAt 1105 (by decide +kernel) (by decide +kernel)
theorem mlX8_184 : Jvm.Cond.methodLink RX8 184 yX8_isTwo ∈ BIG := bigAt 1109 (by decide +kernel) (by decide +kernel)
theorem mlX8_191 : Jvm.Cond.methodLink RX8 191 yX8_load ∈ BIG := bigAt 1113 (by decide +kernel) (by decide +kernel)
theorem mlX8_197 : Jvm.Cond.methodLink RX8 197 yX8_isGood ∈ BIG := bigAt 1117 (by decide +kernel) (by decide +kernel)
theorem mlX8_223 : Jvm.Cond.methodLink RX8 223 yX8_isPrime ∈ BIG := bigAt 1125 (by decide +kernel) (by decide +kernel)
theorem mlX8_220 : Jvm.Cond.methodLink RX8 220 yX8_certificate ∈ BIG := bigAt 1128 (by decide +kernel) (by decide +kernel)
theorem mlX8_214 : Jvm.Cond.methodLink RX8 214 yX8_writesNumber ∈ BIG := bigAt 1132 (by decide +kernel) (by decide +kernel)
theorem mlX8_203 : Jvm.Cond.methodLink RX8 203 yX8_writes ∈ BIG := bigAt 1136 (by decide +kernel) (by decide +kernel)
theorem mlX8_217 : Jvm.Cond.methodLink RX8 217 yX8_does ∈ BIG := bigAt 1140 (by decide +kernel) (by decide +kernel)
theorem mlX8_207 : Jvm.Cond.methodLink RX8 207 yX8_powers ∈ BIG := bigAt 1143 (by decide +kernel) (by decide +kernel)
def fdL : List (Nat × Nat × Nat × Nat × Nat) := []
def icL : List (Nat × Int) := []
def lcL : List (Nat × Int) := []
def fpL : List Nat := []
def ipL : List Nat := []
def lpL : List Nat := []
theorem mlL_15 : Jvm.Cond.methodLink RL 15 yX7_init ∈ BIG := bigAt 68 (by decide +kernel) (by decide +kernel)
theorem mlL_21 : Jvm.Cond.methodLink RL 21 yX7_alloc ∈ BIG := bigAt 296 (by decide +kernel) (by decide +kernel)
theorem mlL_26 : Jvm.Cond.methodLink RL 26 yX7_release ∈ BIG := bigAt 354 (by decide +kernel) (by decide +kernel)
theorem mlL_30 : Jvm.Cond.methodLink RL 30 yX7_resize ∈ BIG := bigAt 366 (by decide +kernel) (by decide +kernel)
theorem mlL_35 : Jvm.Cond.methodLink RL 35 yX7_setLimb ∈ BIG := bigAt 374 (by decide +kernel) (by decide +kernel)
theorem mlL_40 : Jvm.Cond.methodLink RL 40 yX7_limb ∈ BIG := bigAt 385 (by decide +kernel) (by decide +kernel)
theorem mlL_44 : Jvm.Cond.methodLink RL 44 yX7_look ∈ BIG := bigAt 393 (by decide +kernel) (by decide +kernel)
theorem mlL_48 : Jvm.Cond.methodLink RL 48 yX7_about ∈ BIG := bigAt 408 (by decide +kernel) (by decide +kernel)
theorem mlL_52 : Jvm.Cond.methodLink RL 52 yX7_cell ∈ BIG := bigAt 421 (by decide +kernel) (by decide +kernel)
theorem mlL_55 : Jvm.Cond.methodLink RL 55 yX7_add ∈ BIG := bigAt 429 (by decide +kernel) (by decide +kernel)
theorem mlL_59 : Jvm.Cond.methodLink RL 59 yX7_sub ∈ BIG := bigAt 455 (by decide +kernel) (by decide +kernel)
theorem mlL_63 : Jvm.Cond.methodLink RL 63 yX7_mul ∈ BIG := bigAt 465 (by decide +kernel) (by decide +kernel)
theorem mlL_67 : Jvm.Cond.methodLink RL 67 yX7_divmod ∈ BIG := bigAt 477 (by decide +kernel) (by decide +kernel)
theorem mlL_72 : Jvm.Cond.methodLink RL 72 yX7_powmod ∈ BIG := bigAt 522 (by decide +kernel) (by decide +kernel)
theorem mlL_76 : Jvm.Cond.methodLink RL 76 yX7_gcd ∈ BIG := bigAt 543 (by decide +kernel) (by decide +kernel)
theorem mlL_80 : Jvm.Cond.methodLink RL 80 yX7_root ∈ BIG := bigAt 551 (by decide +kernel) (by decide +kernel)
theorem mlL_84 : Jvm.Cond.methodLink RL 84 yX7_shift ∈ BIG := bigAt 560 (by decide +kernel) (by decide +kernel)
theorem mlL_88 : Jvm.Cond.methodLink RL 88 yX7_compare ∈ BIG := bigAt 566 (by decide +kernel) (by decide +kernel)
theorem mlL_92 : Jvm.Cond.methodLink RL 92 yX7_jacobi ∈ BIG := bigAt 570 (by decide +kernel) (by decide +kernel)
theorem mlL_96 : Jvm.Cond.methodLink RL 96 yX7_feed ∈ BIG := bigAt 589 (by decide +kernel) (by decide +kernel)
theorem mlL_101 : Jvm.Cond.methodLink RL 101 yX7_end ∈ BIG := bigAt 601 (by decide +kernel) (by decide +kernel)
theorem mlL_106 : Jvm.Cond.methodLink RL 106 yX7_number ∈ BIG := bigAt 605 (by decide +kernel) (by decide +kernel)
theorem mlL_110 : Jvm.Cond.methodLink RL 110 yX7_fault ∈ BIG := bigAt 628 (by decide +kernel) (by decide +kernel)
theorem mlL_115 : Jvm.Cond.methodLink RL 115 yX7_text ∈ BIG := bigAt 632 (by decide +kernel) (by decide +kernel)
theorem mlL_119 : Jvm.Cond.methodLink RL 119 yX7_out ∈ BIG := bigAt 647 (by decide +kernel) (by decide +kernel)
theorem mlL_123 : Jvm.Cond.methodLink RL 123 yX7_word ∈ BIG := bigAt 655 (by decide +kernel) (by decide +kernel)
theorem mlL_127 : Jvm.Cond.methodLink RL 127 yX7_told ∈ BIG := bigAt 663 (by decide +kernel) (by decide +kernel)
theorem mlL_131 : Jvm.Cond.methodLink RL 131 yX7_clear ∈ BIG := bigAt 671 (by decide +kernel) (by decide +kernel)
theorem mlL_135 : Jvm.Cond.methodLink RL 135 yX7_check ∈ BIG := bigAt 675 (by decide +kernel) (by decide +kernel)
theorem mlL_139 : Jvm.Cond.methodLink RL 139 yX7_prove ∈ BIG := bigAt 734 (by decide +kernel) (by decide +kernel)
theorem mlL_9 : Jvm.Cond.methodLink RL 9 yL_cell ∈ BIG := bigAt 788 (by decide +kernel) (by decide +kernel)
theorem mlL_20 : Jvm.Cond.methodLink RL 20 yX8_init ∈ BIG := bigAt 793 (by decide +kernel) (by decide +kernel)
theorem mlL_25 : Jvm.Cond.methodLink RL 25 yX8_alloc ∈ BIG := bigAt 889 (by decide +kernel) (by decide +kernel)
theorem mlL_29 : Jvm.Cond.methodLink RL 29 yX8_release ∈ BIG := bigAt 908 (by decide +kernel) (by decide +kernel)
theorem mlL_34 : Jvm.Cond.methodLink RL 34 yX8_resize ∈ BIG := bigAt 916 (by decide +kernel) (by decide +kernel)
theorem mlL_39 : Jvm.Cond.methodLink RL 39 yX8_setLimb ∈ BIG := bigAt 920 (by decide +kernel) (by decide +kernel)
theorem mlL_43 : Jvm.Cond.methodLink RL 43 yX8_limb ∈ BIG := bigAt 932 (by decide +kernel) (by decide +kernel)
theorem mlL_47 : Jvm.Cond.methodLink RL 47 yX8_look ∈ BIG := bigAt 940 (by decide +kernel) (by decide +kernel)
theorem mlL_51 : Jvm.Cond.methodLink RL 51 yX8_about ∈ BIG := bigAt 948 (by decide +kernel) (by decide +kernel)
theorem mlL_54 : Jvm.Cond.methodLink RL 54 yX8_cell ∈ BIG := bigAt 956 (by decide +kernel) (by decide +kernel)
theorem mlL_58 : Jvm.Cond.methodLink RL 58 yX8_add ∈ BIG := bigAt 960 (by decide +kernel) (by decide +kernel)
theorem mlL_62 : Jvm.Cond.methodLink RL 62 yX8_sub ∈ BIG := bigAt 981 (by decide +kernel) (by decide +kernel)
theorem mlL_66 : Jvm.Cond.methodLink RL 66 yX8_mul ∈ BIG := bigAt 993 (by decide +kernel) (by decide +kernel)
theorem mlL_71 : Jvm.Cond.methodLink RL 71 yX8_divmod ∈ BIG := bigAt 1002 (by decide +kernel) (by decide +kernel)
theorem mlL_75 : Jvm.Cond.methodLink RL 75 yX8_powmod ∈ BIG := bigAt 1010 (by decide +kernel) (by decide +kernel)
theorem mlL_79 : Jvm.Cond.methodLink RL 79 yX8_gcd ∈ BIG := bigAt 1026 (by decide +kernel) (by decide +kernel)
theorem mlL_83 : Jvm.Cond.methodLink RL 83 yX8_root ∈ BIG := bigAt 1030 (by decide +kernel) (by decide +kernel)
theorem mlL_87 : Jvm.Cond.methodLink RL 87 yX8_shift ∈ BIG := bigAt 1034 (by decide +kernel) (by decide +kernel)
theorem mlL_91 : Jvm.Cond.methodLink RL 91 yX8_compare ∈ BIG := bigAt 1042 (by decide +kernel) (by decide +kernel)
theorem mlL_95 : Jvm.Cond.methodLink RL 95 yX8_jacobi ∈ BIG := bigAt 1046 (by decide +kernel) (by decide +kernel)
theorem mlL_100 : Jvm.Cond.methodLink RL 100 yX8_feed ∈ BIG := bigAt 1054 (by decide +kernel) (by decide +kernel)
theorem mlL_105 : Jvm.Cond.methodLink RL 105 yX8_end_ ∈ BIG := bigAt 1058 (by decide +kernel) (by decide +kernel)
theorem mlL_109 : Jvm.Cond.methodLink RL 109 yX8_number ∈ BIG := bigAt 1062 (by decide +kernel) (by decide +kernel)
theorem mlL_114 : Jvm.Cond.methodLink RL 114 yX8_fault ∈ BIG := bigAt 1069 (by decide +kernel) (by decide +kernel)
theorem mlL_118 : Jvm.Cond.methodLink RL 118 yX8_text ∈ BIG := bigAt 1073 (by decide +kernel) (by decide +kernel)
theorem mlL_122 : Jvm.Cond.methodLink RL 122 yX8_out ∈ BIG := bigAt 1077 (by decide +kernel) (by decide +kernel)
theorem mlL_126 : Jvm.Cond.methodLink RL 126 yX8_word ∈ BIG := bigAt 1081 (by decide +kernel) (by decide +kernel)
theorem mlL_130 : Jvm.Cond.methodLink RL 130 yX8_told ∈ BIG := bigAt 1085 (by decide +kernel) (by decide +kernel)
theorem mlL_134 : Jvm.Cond.methodLink RL 134 yX8_clear ∈ BIG := bigAt 1089 (by decide +kernel) (by decide +kernel)
theorem mlL_138 : Jvm.Cond.methodLink RL 138 yX8_check ∈ BIG := bigAt 1093 (by decide +kernel) (by decide +kernel)
theorem mlL_142 : Jvm.Cond.methodLink RL 142 yX8_prove ∈ BIG := bigAt 1121 (by decide +kernel) (by decide +kernel)
def fdJ6 : List (Nat × Nat × Nat × Nat × Nat) := []
def icJ6 : List (Nat × Int) := [(264, 65536)]
def lcJ6 : List (Nat × Int) := []
def fpJ6 : List Nat := []
def ipJ6 : List Nat := [407]
def lpJ6 : List Nat := []
def fdJ9 : List (Nat × Nat × Nat × Nat × Nat) := []
def icJ9 : List (Nat × Int) := []
def lcJ9 : List (Nat × Int) := []
def fpJ9 : List Nat := []
def ipJ9 : List Nat := []
def lpJ9 : List Nat := []
def fdJ10 : List (Nat × Nat × Nat × Nat × Nat) := []
def icJ10 : List (Nat × Int) := []
def lcJ10 : List (Nat × Int) := []
def fpJ10 : List Nat := []
def ipJ10 : List Nat := []
def lpJ10 : List Nat := []
def fdJ7 : List (Nat × Nat × Nat × Nat × Nat) := []
def icJ7 : List (Nat × Int) := []
def lcJ7 : List (Nat × Int) := []
def fpJ7 : List Nat := []
def ipJ7 : List Nat := []
def lpJ7 : List Nat := []
theorem mlJ7_13 : Jvm.Cond.methodLink RJ7 13 yJ7_rangeCheck_23922 ∈ BIG := bigAt 351 (by decide +kernel) (by decide +kernel)
theorem cw_yX0_init : Jvm.Cond.code yX0_init cX0_init 1 none ∈ BIG := bigAt 122 (by decide +kernel) (by decide +kernel)
theorem iw_yX0_init : Jvm.Cond.instanceMethod yX0_init ∈ BIG := bigAt 121 (by decide +kernel) (by decide +kernel)
theorem cw_yX0_order : Jvm.Cond.code yX0_order cX0_order 3 (some .int) ∈ BIG := bigAt 461 (by decide +kernel) (by decide +kernel)
theorem sw_yX0_order : Jvm.Cond.static yX0_order ∈ BIG := bigAt 460 (by decide +kernel) (by decide +kernel)
theorem cw_yX0_sum : Jvm.Cond.code yX0_sum cX0_sum 7 none ∈ BIG := bigAt 440 (by decide +kernel) (by decide +kernel)
theorem sw_yX0_sum : Jvm.Cond.static yX0_sum ∈ BIG := bigAt 439 (by decide +kernel) (by decide +kernel)
theorem cw_yX0_difference : Jvm.Cond.code yX0_difference cX0_difference 7 none ∈ BIG := bigAt 464 (by decide +kernel) (by decide +kernel)
theorem sw_yX0_difference : Jvm.Cond.static yX0_difference ∈ BIG := bigAt 463 (by decide +kernel) (by decide +kernel)
theorem cw_yX0_product : Jvm.Cond.code yX0_product cX0_product 11 none ∈ BIG := bigAt 475 (by decide +kernel) (by decide +kernel)
theorem sw_yX0_product : Jvm.Cond.static yX0_product ∈ BIG := bigAt 474 (by decide +kernel) (by decide +kernel)
theorem cw_yX0_shiftUp : Jvm.Cond.code yX0_shiftUp cX0_shiftUp 8 none ∈ BIG := bigAt 498 (by decide +kernel) (by decide +kernel)
theorem sw_yX0_shiftUp : Jvm.Cond.static yX0_shiftUp ∈ BIG := bigAt 497 (by decide +kernel) (by decide +kernel)
theorem cw_yX0_shiftDown : Jvm.Cond.code yX0_shiftDown cX0_shiftDown 8 none ∈ BIG := bigAt 514 (by decide +kernel) (by decide +kernel)
theorem sw_yX0_shiftDown : Jvm.Cond.static yX0_shiftDown ∈ BIG := bigAt 513 (by decide +kernel) (by decide +kernel)
theorem cw_yX0_divide : Jvm.Cond.code yX0_divide cX0_divide 8 none ∈ BIG := bigAt 488 (by decide +kernel) (by decide +kernel)
theorem iw_yX0_divide : Jvm.Cond.instanceMethod yX0_divide ∈ BIG := bigAt 486 (by decide +kernel) (by decide +kernel)
theorem vw_yX0_divide : Jvm.Cond.selects RX0 yX0_divide yX0_divide ∈ BIG := bigAt 487 (by decide +kernel) (by decide +kernel)
theorem cw_yX0_guessDigit : Jvm.Cond.code yX0_guessDigit cX0_guessDigit 10 (some .int) ∈ BIG := bigAt 503 (by decide +kernel) (by decide +kernel)
theorem iw_yX0_guessDigit : Jvm.Cond.instanceMethod yX0_guessDigit ∈ BIG := bigAt 502 (by decide +kernel) (by decide +kernel)
theorem vw_yX0_guessDigit : Jvm.Cond.selects RX0 yX0_guessDigit yX0_guessDigit ∈ BIG := bigAt 2 (by decide +kernel) (by decide +kernel)
theorem cw_yX0_subtractMultiple : Jvm.Cond.code yX0_subtractMultiple cX0_subtractMultiple 9 (some .boolean) ∈ BIG := bigAt 507 (by decide +kernel) (by decide +kernel)
theorem iw_yX0_subtractMultiple : Jvm.Cond.instanceMethod yX0_subtractMultiple ∈ BIG := bigAt 506 (by decide +kernel) (by decide +kernel)
theorem vw_yX0_subtractMultiple : Jvm.Cond.selects RX0 yX0_subtractMultiple yX0_subtractMultiple ∈ BIG := bigAt 3 (by decide +kernel) (by decide +kernel)
theorem cw_yX0_addBack : Jvm.Cond.code yX0_addBack cX0_addBack 6 none ∈ BIG := bigAt 511 (by decide +kernel) (by decide +kernel)
theorem iw_yX0_addBack : Jvm.Cond.instanceMethod yX0_addBack ∈ BIG := bigAt 510 (by decide +kernel) (by decide +kernel)
theorem vw_yX0_addBack : Jvm.Cond.selects RX0 yX0_addBack yX0_addBack ∈ BIG := bigAt 4 (by decide +kernel) (by decide +kernel)
theorem cw_yX0_raise : Jvm.Cond.code yX0_raise cX0_raise 7 none ∈ BIG := bigAt 529 (by decide +kernel) (by decide +kernel)
theorem iw_yX0_raise : Jvm.Cond.instanceMethod yX0_raise ∈ BIG := bigAt 527 (by decide +kernel) (by decide +kernel)
theorem vw_yX0_raise : Jvm.Cond.selects RX0 yX0_raise yX0_raise ∈ BIG := bigAt 528 (by decide +kernel) (by decide +kernel)
theorem cw_yX0_commonDivisor : Jvm.Cond.code yX0_commonDivisor cX0_commonDivisor 4 none ∈ BIG := bigAt 550 (by decide +kernel) (by decide +kernel)
theorem iw_yX0_commonDivisor : Jvm.Cond.instanceMethod yX0_commonDivisor ∈ BIG := bigAt 548 (by decide +kernel) (by decide +kernel)
theorem vw_yX0_commonDivisor : Jvm.Cond.selects RX0 yX0_commonDivisor yX0_commonDivisor ∈ BIG := bigAt 549 (by decide +kernel) (by decide +kernel)
theorem cw_yX0_squareRoot : Jvm.Cond.code yX0_squareRoot cX0_squareRoot 3 none ∈ BIG := bigAt 558 (by decide +kernel) (by decide +kernel)
theorem iw_yX0_squareRoot : Jvm.Cond.instanceMethod yX0_squareRoot ∈ BIG := bigAt 556 (by decide +kernel) (by decide +kernel)
theorem vw_yX0_squareRoot : Jvm.Cond.selects RX0 yX0_squareRoot yX0_squareRoot ∈ BIG := bigAt 557 (by decide +kernel) (by decide +kernel)
theorem cw_yX0_jacobiSymbol : Jvm.Cond.code yX0_jacobiSymbol cX0_jacobiSymbol 7 (some .int) ∈ BIG := bigAt 577 (by decide +kernel) (by decide +kernel)
theorem iw_yX0_jacobiSymbol : Jvm.Cond.instanceMethod yX0_jacobiSymbol ∈ BIG := bigAt 575 (by decide +kernel) (by decide +kernel)
theorem vw_yX0_jacobiSymbol : Jvm.Cond.selects RX0 yX0_jacobiSymbol yX0_jacobiSymbol ∈ BIG := bigAt 576 (by decide +kernel) (by decide +kernel)
theorem cw_yX1_init : Jvm.Cond.code yX1_init cX1_init 3 none ∈ BIG := bigAt 87 (by decide +kernel) (by decide +kernel)
theorem iw_yX1_init : Jvm.Cond.instanceMethod yX1_init ∈ BIG := bigAt 86 (by decide +kernel) (by decide +kernel)
theorem cw_yX1_isLive : Jvm.Cond.code yX1_isLive cX1_isLive 2 (some .boolean) ∈ BIG := bigAt 361 (by decide +kernel) (by decide +kernel)
theorem iw_yX1_isLive : Jvm.Cond.instanceMethod yX1_isLive ∈ BIG := bigAt 359 (by decide +kernel) (by decide +kernel)
theorem vw_yX1_isLive : Jvm.Cond.selects RX1 yX1_isLive yX1_isLive ∈ BIG := bigAt 360 (by decide +kernel) (by decide +kernel)
theorem cw_yX1_areLive : Jvm.Cond.code yX1_areLive cX1_areLive 4 (some .boolean) ∈ BIG := bigAt 436 (by decide +kernel) (by decide +kernel)
theorem iw_yX1_areLive : Jvm.Cond.instanceMethod yX1_areLive ∈ BIG := bigAt 434 (by decide +kernel) (by decide +kernel)
theorem vw_yX1_areLive : Jvm.Cond.selects RX1 yX1_areLive yX1_areLive ∈ BIG := bigAt 435 (by decide +kernel) (by decide +kernel)
theorem cw_yX1_leastFree : Jvm.Cond.code yX1_leastFree cX1_leastFree 2 (some .int) ∈ BIG := bigAt 306 (by decide +kernel) (by decide +kernel)
theorem iw_yX1_leastFree : Jvm.Cond.instanceMethod yX1_leastFree ∈ BIG := bigAt 304 (by decide +kernel) (by decide +kernel)
theorem vw_yX1_leastFree : Jvm.Cond.selects RX1 yX1_leastFree yX1_leastFree ∈ BIG := bigAt 305 (by decide +kernel) (by decide +kernel)
theorem cw_yX1_liveHandles : Jvm.Cond.code yX1_liveHandles cX1_liveHandles 3 (some .int) ∈ BIG := bigAt 420 (by decide +kernel) (by decide +kernel)
theorem iw_yX1_liveHandles : Jvm.Cond.instanceMethod yX1_liveHandles ∈ BIG := bigAt 418 (by decide +kernel) (by decide +kernel)
theorem vw_yX1_liveHandles : Jvm.Cond.selects RX1 yX1_liveHandles yX1_liveHandles ∈ BIG := bigAt 419 (by decide +kernel) (by decide +kernel)
theorem cw_yX1_free : Jvm.Cond.code yX1_free cX1_free 2 none ∈ BIG := bigAt 365 (by decide +kernel) (by decide +kernel)
theorem iw_yX1_free : Jvm.Cond.instanceMethod yX1_free ∈ BIG := bigAt 363 (by decide +kernel) (by decide +kernel)
theorem vw_yX1_free : Jvm.Cond.selects RX1 yX1_free yX1_free ∈ BIG := bigAt 364 (by decide +kernel) (by decide +kernel)
theorem cw_yX1_usedCells : Jvm.Cond.code yX1_usedCells cX1_usedCells 3 (some .int) ∈ BIG := bigAt 415 (by decide +kernel) (by decide +kernel)
theorem iw_yX1_usedCells : Jvm.Cond.instanceMethod yX1_usedCells ∈ BIG := bigAt 413 (by decide +kernel) (by decide +kernel)
theorem vw_yX1_usedCells : Jvm.Cond.selects RX1 yX1_usedCells yX1_usedCells ∈ BIG := bigAt 414 (by decide +kernel) (by decide +kernel)
theorem cw_yX1_highestEnd : Jvm.Cond.code yX1_highestEnd cX1_highestEnd 3 (some .int) ∈ BIG := bigAt 326 (by decide +kernel) (by decide +kernel)
theorem iw_yX1_highestEnd : Jvm.Cond.instanceMethod yX1_highestEnd ∈ BIG := bigAt 324 (by decide +kernel) (by decide +kernel)
theorem vw_yX1_highestEnd : Jvm.Cond.selects RX1 yX1_highestEnd yX1_highestEnd ∈ BIG := bigAt 325 (by decide +kernel) (by decide +kernel)
theorem cw_yX1_hasSpace : Jvm.Cond.code yX1_hasSpace cX1_hasSpace 2 (some .boolean) ∈ BIG := bigAt 322 (by decide +kernel) (by decide +kernel)
theorem iw_yX1_hasSpace : Jvm.Cond.instanceMethod yX1_hasSpace ∈ BIG := bigAt 320 (by decide +kernel) (by decide +kernel)
theorem vw_yX1_hasSpace : Jvm.Cond.selects RX1 yX1_hasSpace yX1_hasSpace ∈ BIG := bigAt 321 (by decide +kernel) (by decide +kernel)
theorem cw_yX1_limbIn : Jvm.Cond.code yX1_limbIn cX1_limbIn 3 (some .int) ∈ BIG := bigAt 428 (by decide +kernel) (by decide +kernel)
theorem iw_yX1_limbIn : Jvm.Cond.instanceMethod yX1_limbIn ∈ BIG := bigAt 426 (by decide +kernel) (by decide +kernel)
theorem vw_yX1_limbIn : Jvm.Cond.selects RX1 yX1_limbIn yX1_limbIn ∈ BIG := bigAt 427 (by decide +kernel) (by decide +kernel)
theorem cw_yX1_limbOf : Jvm.Cond.code yX1_limbOf cX1_limbOf 3 (some .int) ∈ BIG := bigAt 392 (by decide +kernel) (by decide +kernel)
theorem iw_yX1_limbOf : Jvm.Cond.instanceMethod yX1_limbOf ∈ BIG := bigAt 390 (by decide +kernel) (by decide +kernel)
theorem vw_yX1_limbOf : Jvm.Cond.selects RX1 yX1_limbOf yX1_limbOf ∈ BIG := bigAt 391 (by decide +kernel) (by decide +kernel)
theorem cw_yX1_writeLimb : Jvm.Cond.code yX1_writeLimb cX1_writeLimb 5 (some .int) ∈ BIG := bigAt 384 (by decide +kernel) (by decide +kernel)
theorem iw_yX1_writeLimb : Jvm.Cond.instanceMethod yX1_writeLimb ∈ BIG := bigAt 382 (by decide +kernel) (by decide +kernel)
theorem vw_yX1_writeLimb : Jvm.Cond.selects RX1 yX1_writeLimb yX1_writeLimb ∈ BIG := bigAt 383 (by decide +kernel) (by decide +kernel)
theorem cw_yX1_read : Jvm.Cond.code yX1_read cX1_read 3 none ∈ BIG := bigAt 373 (by decide +kernel) (by decide +kernel)
theorem iw_yX1_read : Jvm.Cond.instanceMethod yX1_read ∈ BIG := bigAt 371 (by decide +kernel) (by decide +kernel)
theorem vw_yX1_read : Jvm.Cond.selects RX1 yX1_read yX1_read ∈ BIG := bigAt 372 (by decide +kernel) (by decide +kernel)
theorem cw_yX1_takeAhead : Jvm.Cond.code yX1_takeAhead cX1_takeAhead 2 (some .boolean) ∈ BIG := bigAt 472 (by decide +kernel) (by decide +kernel)
theorem iw_yX1_takeAhead : Jvm.Cond.instanceMethod yX1_takeAhead ∈ BIG := bigAt 470 (by decide +kernel) (by decide +kernel)
theorem vw_yX1_takeAhead : Jvm.Cond.selects RX1 yX1_takeAhead yX1_takeAhead ∈ BIG := bigAt 471 (by decide +kernel) (by decide +kernel)
theorem cw_yX1_take : Jvm.Cond.code yX1_take cX1_take 3 (some .int) ∈ BIG := bigAt 318 (by decide +kernel) (by decide +kernel)
theorem iw_yX1_take : Jvm.Cond.instanceMethod yX1_take ∈ BIG := bigAt 316 (by decide +kernel) (by decide +kernel)
theorem vw_yX1_take : Jvm.Cond.selects RX1 yX1_take yX1_take ∈ BIG := bigAt 317 (by decide +kernel) (by decide +kernel)
theorem cw_yX1_dropTaken : Jvm.Cond.code yX1_dropTaken cX1_dropTaken 2 none ∈ BIG := bigAt 342 (by decide +kernel) (by decide +kernel)
theorem iw_yX1_dropTaken : Jvm.Cond.instanceMethod yX1_dropTaken ∈ BIG := bigAt 340 (by decide +kernel) (by decide +kernel)
theorem vw_yX1_dropTaken : Jvm.Cond.selects RX1 yX1_dropTaken yX1_dropTaken ∈ BIG := bigAt 341 (by decide +kernel) (by decide +kernel)
theorem cw_yX1_slideTogether : Jvm.Cond.code yX1_slideTogether cX1_slideTogether 4 none ∈ BIG := bigAt 331 (by decide +kernel) (by decide +kernel)
theorem iw_yX1_slideTogether : Jvm.Cond.instanceMethod yX1_slideTogether ∈ BIG := bigAt 329 (by decide +kernel) (by decide +kernel)
theorem vw_yX1_slideTogether : Jvm.Cond.selects RX1 yX1_slideTogether yX1_slideTogether ∈ BIG := bigAt 330 (by decide +kernel) (by decide +kernel)
theorem cw_yX1_lowestRunFrom : Jvm.Cond.code yX1_lowestRunFrom cX1_lowestRunFrom 5 (some .int) ∈ BIG := bigAt 335 (by decide +kernel) (by decide +kernel)
theorem iw_yX1_lowestRunFrom : Jvm.Cond.instanceMethod yX1_lowestRunFrom ∈ BIG := bigAt 334 (by decide +kernel) (by decide +kernel)
theorem vw_yX1_lowestRunFrom : Jvm.Cond.selects RX1 yX1_lowestRunFrom yX1_lowestRunFrom ∈ BIG := bigAt 0 (by decide +kernel) (by decide +kernel)
theorem cw_yX1_giveRun : Jvm.Cond.code yX1_giveRun cX1_giveRun 5 (some .boolean) ∈ BIG := bigAt 314 (by decide +kernel) (by decide +kernel)
theorem iw_yX1_giveRun : Jvm.Cond.instanceMethod yX1_giveRun ∈ BIG := bigAt 312 (by decide +kernel) (by decide +kernel)
theorem vw_yX1_giveRun : Jvm.Cond.selects RX1 yX1_giveRun yX1_giveRun ∈ BIG := bigAt 313 (by decide +kernel) (by decide +kernel)
theorem cw_yX1_come : Jvm.Cond.code yX1_come cX1_come 4 (some .int) ∈ BIG := bigAt 450 (by decide +kernel) (by decide +kernel)
theorem iw_yX1_come : Jvm.Cond.instanceMethod yX1_come ∈ BIG := bigAt 448 (by decide +kernel) (by decide +kernel)
theorem vw_yX1_come : Jvm.Cond.selects RX1 yX1_come yX1_come ∈ BIG := bigAt 449 (by decide +kernel) (by decide +kernel)
theorem cw_yX1_runFor : Jvm.Cond.code yX1_runFor cX1_runFor 3 (some .int) ∈ BIG := bigAt 454 (by decide +kernel) (by decide +kernel)
theorem iw_yX1_runFor : Jvm.Cond.instanceMethod yX1_runFor ∈ BIG := bigAt 452 (by decide +kernel) (by decide +kernel)
theorem vw_yX1_runFor : Jvm.Cond.selects RX1 yX1_runFor yX1_runFor ∈ BIG := bigAt 453 (by decide +kernel) (by decide +kernel)
theorem cw_yX1_settle : Jvm.Cond.code yX1_settle cX1_settle 5 none ∈ BIG := bigAt 346 (by decide +kernel) (by decide +kernel)
theorem iw_yX1_settle : Jvm.Cond.instanceMethod yX1_settle ∈ BIG := bigAt 344 (by decide +kernel) (by decide +kernel)
theorem vw_yX1_settle : Jvm.Cond.selects RX1 yX1_settle yX1_settle ∈ BIG := bigAt 345 (by decide +kernel) (by decide +kernel)
theorem cw_yX2_init : Jvm.Cond.code yX2_init cX2_init 2 none ∈ BIG := bigAt 205 (by decide +kernel) (by decide +kernel)
theorem iw_yX2_init : Jvm.Cond.instanceMethod yX2_init ∈ BIG := bigAt 204 (by decide +kernel) (by decide +kernel)
theorem cw_yX2_append : Jvm.Cond.code yX2_append cX2_append 2 (some .boolean) ∈ BIG := bigAt 662 (by decide +kernel) (by decide +kernel)
theorem iw_yX2_append : Jvm.Cond.instanceMethod yX2_append ∈ BIG := bigAt 660 (by decide +kernel) (by decide +kernel)
theorem vw_yX2_append : Jvm.Cond.selects RX2 yX2_append yX2_append ∈ BIG := bigAt 661 (by decide +kernel) (by decide +kernel)
theorem cw_yX2_wordAt : Jvm.Cond.code yX2_wordAt cX2_wordAt 2 (some .int) ∈ BIG := bigAt 670 (by decide +kernel) (by decide +kernel)
theorem iw_yX2_wordAt : Jvm.Cond.instanceMethod yX2_wordAt ∈ BIG := bigAt 668 (by decide +kernel) (by decide +kernel)
theorem vw_yX2_wordAt : Jvm.Cond.selects RX2 yX2_wordAt yX2_wordAt ∈ BIG := bigAt 669 (by decide +kernel) (by decide +kernel)
theorem cw_yX2_copyWords : Jvm.Cond.code yX2_copyWords cX2_copyWords 3 none ∈ BIG := bigAt 786 (by decide +kernel) (by decide +kernel)
theorem iw_yX2_copyWords : Jvm.Cond.instanceMethod yX2_copyWords ∈ BIG := bigAt 784 (by decide +kernel) (by decide +kernel)
theorem vw_yX2_copyWords : Jvm.Cond.selects RX2 yX2_copyWords yX2_copyWords ∈ BIG := bigAt 785 (by decide +kernel) (by decide +kernel)
theorem cw_yX2_isOneNode : Jvm.Cond.code yX2_isOneNode cX2_isOneNode 2 (some .boolean) ∈ BIG := bigAt 682 (by decide +kernel) (by decide +kernel)
theorem iw_yX2_isOneNode : Jvm.Cond.instanceMethod yX2_isOneNode ∈ BIG := bigAt 680 (by decide +kernel) (by decide +kernel)
theorem vw_yX2_isOneNode : Jvm.Cond.selects RX2 yX2_isOneNode yX2_isOneNode ∈ BIG := bigAt 681 (by decide +kernel) (by decide +kernel)
theorem cw_yX2_endOfNode : Jvm.Cond.code yX2_endOfNode cX2_endOfNode 4 (some .int) ∈ BIG := bigAt 686 (by decide +kernel) (by decide +kernel)
theorem iw_yX2_endOfNode : Jvm.Cond.instanceMethod yX2_endOfNode ∈ BIG := bigAt 685 (by decide +kernel) (by decide +kernel)
theorem vw_yX2_endOfNode : Jvm.Cond.selects RX2 yX2_endOfNode yX2_endOfNode ∈ BIG := bigAt 6 (by decide +kernel) (by decide +kernel)
theorem cw_yX2_endOfFactors : Jvm.Cond.code yX2_endOfFactors cX2_endOfFactors 8 (some .int) ∈ BIG := bigAt 699 (by decide +kernel) (by decide +kernel)
theorem iw_yX2_endOfFactors : Jvm.Cond.instanceMethod yX2_endOfFactors ∈ BIG := bigAt 698 (by decide +kernel) (by decide +kernel)
theorem vw_yX2_endOfFactors : Jvm.Cond.selects RX2 yX2_endOfFactors yX2_endOfFactors ∈ BIG := bigAt 9 (by decide +kernel) (by decide +kernel)
theorem cw_yX2_endOfNumber : Jvm.Cond.code yX2_endOfNumber cX2_endOfNumber 3 (some .int) ∈ BIG := bigAt 690 (by decide +kernel) (by decide +kernel)
theorem iw_yX2_endOfNumber : Jvm.Cond.instanceMethod yX2_endOfNumber ∈ BIG := bigAt 689 (by decide +kernel) (by decide +kernel)
theorem vw_yX2_endOfNumber : Jvm.Cond.selects RX2 yX2_endOfNumber yX2_endOfNumber ∈ BIG := bigAt 7 (by decide +kernel) (by decide +kernel)
theorem cw_yX2_isTwo : Jvm.Cond.code yX2_isTwo cX2_isTwo 2 (some .boolean) ∈ BIG := bigAt 695 (by decide +kernel) (by decide +kernel)
theorem iw_yX2_isTwo : Jvm.Cond.instanceMethod yX2_isTwo ∈ BIG := bigAt 694 (by decide +kernel) (by decide +kernel)
theorem vw_yX2_isTwo : Jvm.Cond.selects RX2 yX2_isTwo yX2_isTwo ∈ BIG := bigAt 8 (by decide +kernel) (by decide +kernel)
theorem cw_yX2_readNumber : Jvm.Cond.code yX2_readNumber cX2_readNumber 4 (some .int) ∈ BIG := bigAt 709 (by decide +kernel) (by decide +kernel)
theorem iw_yX2_readNumber : Jvm.Cond.instanceMethod yX2_readNumber ∈ BIG := bigAt 708 (by decide +kernel) (by decide +kernel)
theorem vw_yX2_readNumber : Jvm.Cond.selects RX2 yX2_readNumber yX2_readNumber ∈ BIG := bigAt 10 (by decide +kernel) (by decide +kernel)
theorem cw_yX2_isGoodFor : Jvm.Cond.code yX2_isGoodFor cX2_isGoodFor 4 (some .boolean) ∈ BIG := bigAt 705 (by decide +kernel) (by decide +kernel)
theorem iw_yX2_isGoodFor : Jvm.Cond.instanceMethod yX2_isGoodFor ∈ BIG := bigAt 703 (by decide +kernel) (by decide +kernel)
theorem vw_yX2_isGoodFor : Jvm.Cond.selects RX2 yX2_isGoodFor yX2_isGoodFor ∈ BIG := bigAt 704 (by decide +kernel) (by decide +kernel)
theorem cw_yX2_factorsFit : Jvm.Cond.code yX2_factorsFit cX2_factorsFit 7 (some .boolean) ∈ BIG := bigAt 716 (by decide +kernel) (by decide +kernel)
theorem iw_yX2_factorsFit : Jvm.Cond.instanceMethod yX2_factorsFit ∈ BIG := bigAt 715 (by decide +kernel) (by decide +kernel)
theorem vw_yX2_factorsFit : Jvm.Cond.selects RX2 yX2_factorsFit yX2_factorsFit ∈ BIG := bigAt 11 (by decide +kernel) (by decide +kernel)
theorem cw_yX2_multiplyTotal : Jvm.Cond.code yX2_multiplyTotal cX2_multiplyTotal 3 (some .boolean) ∈ BIG := bigAt 722 (by decide +kernel) (by decide +kernel)
theorem iw_yX2_multiplyTotal : Jvm.Cond.instanceMethod yX2_multiplyTotal ∈ BIG := bigAt 721 (by decide +kernel) (by decide +kernel)
theorem vw_yX2_multiplyTotal : Jvm.Cond.selects RX2 yX2_multiplyTotal yX2_multiplyTotal ∈ BIG := bigAt 12 (by decide +kernel) (by decide +kernel)
theorem cw_yX2_witnessHolds : Jvm.Cond.code yX2_witnessHolds cX2_witnessHolds 7 (some .boolean) ∈ BIG := bigAt 729 (by decide +kernel) (by decide +kernel)
theorem iw_yX2_witnessHolds : Jvm.Cond.instanceMethod yX2_witnessHolds ∈ BIG := bigAt 728 (by decide +kernel) (by decide +kernel)
theorem vw_yX2_witnessHolds : Jvm.Cond.selects RX2 yX2_witnessHolds yX2_witnessHolds ∈ BIG := bigAt 13 (by decide +kernel) (by decide +kernel)
theorem cw_yX3_init : Jvm.Cond.code yX3_init cX3_init 1 none ∈ BIG := bigAt 191 (by decide +kernel) (by decide +kernel)
theorem iw_yX3_init : Jvm.Cond.instanceMethod yX3_init ∈ BIG := bigAt 190 (by decide +kernel) (by decide +kernel)
theorem cw_yX3_write : Jvm.Cond.code yX3_write cX3_write 3 none ∈ BIG := bigAt 639 (by decide +kernel) (by decide +kernel)
theorem iw_yX3_write : Jvm.Cond.instanceMethod yX3_write ∈ BIG := bigAt 637 (by decide +kernel) (by decide +kernel)
theorem vw_yX3_write : Jvm.Cond.selects RX3 yX3_write yX3_write ∈ BIG := bigAt 638 (by decide +kernel) (by decide +kernel)
theorem cw_yX3_byteAt : Jvm.Cond.code yX3_byteAt cX3_byteAt 2 (some .int) ∈ BIG := bigAt 654 (by decide +kernel) (by decide +kernel)
theorem iw_yX3_byteAt : Jvm.Cond.instanceMethod yX3_byteAt ∈ BIG := bigAt 652 (by decide +kernel) (by decide +kernel)
theorem vw_yX3_byteAt : Jvm.Cond.selects RX3 yX3_byteAt yX3_byteAt ∈ BIG := bigAt 653 (by decide +kernel) (by decide +kernel)
theorem cw_yX3_characterOf : Jvm.Cond.code yX3_characterOf cX3_characterOf 1 (some .int) ∈ BIG := bigAt 646 (by decide +kernel) (by decide +kernel)
theorem sw_yX3_characterOf : Jvm.Cond.static yX3_characterOf ∈ BIG := bigAt 645 (by decide +kernel) (by decide +kernel)
theorem cw_yX4_init : Jvm.Cond.code yX4_init cX4_init 2 none ∈ BIG := bigAt 249 (by decide +kernel) (by decide +kernel)
theorem iw_yX4_init : Jvm.Cond.instanceMethod yX4_init ∈ BIG := bigAt 248 (by decide +kernel) (by decide +kernel)
theorem cw_yX4_isPrime : Jvm.Cond.code yX4_isPrime cX4_isPrime 1 (some .boolean) ∈ BIG := bigAt 740 (by decide +kernel) (by decide +kernel)
theorem sw_yX4_isPrime : Jvm.Cond.static yX4_isPrime ∈ BIG := bigAt 739 (by decide +kernel) (by decide +kernel)
theorem cw_yX4_leastFactor : Jvm.Cond.code yX4_leastFactor cX4_leastFactor 3 (some .int) ∈ BIG := bigAt 743 (by decide +kernel) (by decide +kernel)
theorem sw_yX4_leastFactor : Jvm.Cond.static yX4_leastFactor ∈ BIG := bigAt 742 (by decide +kernel) (by decide +kernel)
theorem cw_yX4_exponentOf : Jvm.Cond.code yX4_exponentOf cX4_exponentOf 4 (some .int) ∈ BIG := bigAt 771 (by decide +kernel) (by decide +kernel)
theorem sw_yX4_exponentOf : Jvm.Cond.static yX4_exponentOf ∈ BIG := bigAt 770 (by decide +kernel) (by decide +kernel)
theorem cw_yX4_write : Jvm.Cond.code yX4_write cX4_write 2 (some .boolean) ∈ BIG := bigAt 748 (by decide +kernel) (by decide +kernel)
theorem iw_yX4_write : Jvm.Cond.instanceMethod yX4_write ∈ BIG := bigAt 746 (by decide +kernel) (by decide +kernel)
theorem vw_yX4_write : Jvm.Cond.selects RX4 yX4_write yX4_write ∈ BIG := bigAt 747 (by decide +kernel) (by decide +kernel)
theorem cw_yX4_writeNode : Jvm.Cond.code yX4_writeNode cX4_writeNode 3 (some .boolean) ∈ BIG := bigAt 752 (by decide +kernel) (by decide +kernel)
theorem iw_yX4_writeNode : Jvm.Cond.instanceMethod yX4_writeNode ∈ BIG := bigAt 751 (by decide +kernel) (by decide +kernel)
theorem vw_yX4_writeNode : Jvm.Cond.selects RX4 yX4_writeNode yX4_writeNode ∈ BIG := bigAt 14 (by decide +kernel) (by decide +kernel)
theorem cw_yX4_writeFactors : Jvm.Cond.code yX4_writeFactors cX4_writeFactors 6 (some .boolean) ∈ BIG := bigAt 764 (by decide +kernel) (by decide +kernel)
theorem iw_yX4_writeFactors : Jvm.Cond.instanceMethod yX4_writeFactors ∈ BIG := bigAt 763 (by decide +kernel) (by decide +kernel)
theorem vw_yX4_writeFactors : Jvm.Cond.selects RX4 yX4_writeFactors yX4_writeFactors ∈ BIG := bigAt 17 (by decide +kernel) (by decide +kernel)
theorem cw_yX4_findFactors : Jvm.Cond.code yX4_findFactors cX4_findFactors 7 (some .int) ∈ BIG := bigAt 768 (by decide +kernel) (by decide +kernel)
theorem iw_yX4_findFactors : Jvm.Cond.instanceMethod yX4_findFactors ∈ BIG := bigAt 767 (by decide +kernel) (by decide +kernel)
theorem vw_yX4_findFactors : Jvm.Cond.selects RX4 yX4_findFactors yX4_findFactors ∈ BIG := bigAt 18 (by decide +kernel) (by decide +kernel)
theorem cw_yX4_leastWitness : Jvm.Cond.code yX4_leastWitness cX4_leastWitness 5 (some .int) ∈ BIG := bigAt 775 (by decide +kernel) (by decide +kernel)
theorem iw_yX4_leastWitness : Jvm.Cond.instanceMethod yX4_leastWitness ∈ BIG := bigAt 774 (by decide +kernel) (by decide +kernel)
theorem vw_yX4_leastWitness : Jvm.Cond.selects RX4 yX4_leastWitness yX4_leastWitness ∈ BIG := bigAt 19 (by decide +kernel) (by decide +kernel)
theorem cw_yX4_isWitness : Jvm.Cond.code yX4_isWitness cX4_isWitness 6 (some .boolean) ∈ BIG := bigAt 779 (by decide +kernel) (by decide +kernel)
theorem iw_yX4_isWitness : Jvm.Cond.instanceMethod yX4_isWitness ∈ BIG := bigAt 778 (by decide +kernel) (by decide +kernel)
theorem vw_yX4_isWitness : Jvm.Cond.selects RX4 yX4_isWitness yX4_isWitness ∈ BIG := bigAt 20 (by decide +kernel) (by decide +kernel)
theorem cw_yX4_powerModulo : Jvm.Cond.code yX4_powerModulo cX4_powerModulo 8 (some .int) ∈ BIG := bigAt 782 (by decide +kernel) (by decide +kernel)
theorem sw_yX4_powerModulo : Jvm.Cond.static yX4_powerModulo ∈ BIG := bigAt 781 (by decide +kernel) (by decide +kernel)
theorem cw_yX4_putNumber : Jvm.Cond.code yX4_putNumber cX4_putNumber 4 (some .boolean) ∈ BIG := bigAt 756 (by decide +kernel) (by decide +kernel)
theorem iw_yX4_putNumber : Jvm.Cond.instanceMethod yX4_putNumber ∈ BIG := bigAt 755 (by decide +kernel) (by decide +kernel)
theorem vw_yX4_putNumber : Jvm.Cond.selects RX4 yX4_putNumber yX4_putNumber ∈ BIG := bigAt 15 (by decide +kernel) (by decide +kernel)
theorem cw_yX4_put : Jvm.Cond.code yX4_put cX4_put 2 (some .boolean) ∈ BIG := bigAt 760 (by decide +kernel) (by decide +kernel)
theorem iw_yX4_put : Jvm.Cond.instanceMethod yX4_put ∈ BIG := bigAt 759 (by decide +kernel) (by decide +kernel)
theorem vw_yX4_put : Jvm.Cond.selects RX4 yX4_put yX4_put ∈ BIG := bigAt 16 (by decide +kernel) (by decide +kernel)
theorem cw_yX5_init : Jvm.Cond.code yX5_init cX5_init 1 none ∈ BIG := bigAt 128 (by decide +kernel) (by decide +kernel)
theorem iw_yX5_init : Jvm.Cond.instanceMethod yX5_init ∈ BIG := bigAt 127 (by decide +kernel) (by decide +kernel)
theorem cw_yX5_limbAt : Jvm.Cond.code yX5_limbAt cX5_limbAt 2 (some .int) ∈ BIG := bigAt 445 (by decide +kernel) (by decide +kernel)
theorem iw_yX5_limbAt : Jvm.Cond.instanceMethod yX5_limbAt ∈ BIG := bigAt 443 (by decide +kernel) (by decide +kernel)
theorem vw_yX5_limbAt : Jvm.Cond.selects RX5 yX5_limbAt yX5_limbAt ∈ BIG := bigAt 444 (by decide +kernel) (by decide +kernel)
theorem cw_yX5_trim : Jvm.Cond.code yX5_trim cX5_trim 2 none ∈ BIG := bigAt 310 (by decide +kernel) (by decide +kernel)
theorem iw_yX5_trim : Jvm.Cond.instanceMethod yX5_trim ∈ BIG := bigAt 308 (by decide +kernel) (by decide +kernel)
theorem vw_yX5_trim : Jvm.Cond.selects RX5 yX5_trim yX5_trim ∈ BIG := bigAt 309 (by decide +kernel) (by decide +kernel)
theorem cw_yX5_copy : Jvm.Cond.code yX5_copy cX5_copy 2 none ∈ BIG := bigAt 493 (by decide +kernel) (by decide +kernel)
theorem iw_yX5_copy : Jvm.Cond.instanceMethod yX5_copy ∈ BIG := bigAt 491 (by decide +kernel) (by decide +kernel)
theorem vw_yX5_copy : Jvm.Cond.selects RX5 yX5_copy yX5_copy ∈ BIG := bigAt 492 (by decide +kernel) (by decide +kernel)
theorem cw_yX5_become : Jvm.Cond.code yX5_become cX5_become 2 none ∈ BIG := bigAt 534 (by decide +kernel) (by decide +kernel)
theorem iw_yX5_become : Jvm.Cond.instanceMethod yX5_become ∈ BIG := bigAt 532 (by decide +kernel) (by decide +kernel)
theorem vw_yX5_become : Jvm.Cond.selects RX5 yX5_become yX5_become ∈ BIG := bigAt 533 (by decide +kernel) (by decide +kernel)
theorem cw_yX5_isOne : Jvm.Cond.code yX5_isOne cX5_isOne 1 (some .boolean) ∈ BIG := bigAt 588 (by decide +kernel) (by decide +kernel)
theorem iw_yX5_isOne : Jvm.Cond.instanceMethod yX5_isOne ∈ BIG := bigAt 586 (by decide +kernel) (by decide +kernel)
theorem vw_yX5_isOne : Jvm.Cond.selects RX5 yX5_isOne yX5_isOne ∈ BIG := bigAt 587 (by decide +kernel) (by decide +kernel)
theorem cw_yX5_bits : Jvm.Cond.code yX5_bits cX5_bits 1 (some .int) ∈ BIG := bigAt 400 (by decide +kernel) (by decide +kernel)
theorem iw_yX5_bits : Jvm.Cond.instanceMethod yX5_bits ∈ BIG := bigAt 398 (by decide +kernel) (by decide +kernel)
theorem vw_yX5_bits : Jvm.Cond.selects RX5 yX5_bits yX5_bits ∈ BIG := bigAt 399 (by decide +kernel) (by decide +kernel)
theorem cw_yX5_hasBit : Jvm.Cond.code yX5_hasBit cX5_hasBit 2 (some .boolean) ∈ BIG := bigAt 540 (by decide +kernel) (by decide +kernel)
theorem iw_yX5_hasBit : Jvm.Cond.instanceMethod yX5_hasBit ∈ BIG := bigAt 538 (by decide +kernel) (by decide +kernel)
theorem vw_yX5_hasBit : Jvm.Cond.selects RX5 yX5_hasBit yX5_hasBit ∈ BIG := bigAt 539 (by decide +kernel) (by decide +kernel)
theorem cw_yX5_trailingZeros : Jvm.Cond.code yX5_trailingZeros cX5_trailingZeros 2 (some .int) ∈ BIG := bigAt 581 (by decide +kernel) (by decide +kernel)
theorem iw_yX5_trailingZeros : Jvm.Cond.instanceMethod yX5_trailingZeros ∈ BIG := bigAt 579 (by decide +kernel) (by decide +kernel)
theorem vw_yX5_trailingZeros : Jvm.Cond.selects RX5 yX5_trailingZeros yX5_trailingZeros ∈ BIG := bigAt 580 (by decide +kernel) (by decide +kernel)
theorem cw_yX5_bitsOf : Jvm.Cond.code yX5_bitsOf cX5_bitsOf 1 (some .int) ∈ BIG := bigAt 403 (by decide +kernel) (by decide +kernel)
theorem sw_yX5_bitsOf : Jvm.Cond.static yX5_bitsOf ∈ BIG := bigAt 402 (by decide +kernel) (by decide +kernel)
theorem cw_yX5_timesPlus : Jvm.Cond.code yX5_timesPlus cX5_timesPlus 6 none ∈ BIG := bigAt 627 (by decide +kernel) (by decide +kernel)
theorem iw_yX5_timesPlus : Jvm.Cond.instanceMethod yX5_timesPlus ∈ BIG := bigAt 625 (by decide +kernel) (by decide +kernel)
theorem vw_yX5_timesPlus : Jvm.Cond.selects RX5 yX5_timesPlus yX5_timesPlus ∈ BIG := bigAt 626 (by decide +kernel) (by decide +kernel)
theorem cw_yX5_divideBy : Jvm.Cond.code yX5_divideBy cX5_divideBy 5 (some .int) ∈ BIG := bigAt 643 (by decide +kernel) (by decide +kernel)
theorem iw_yX5_divideBy : Jvm.Cond.instanceMethod yX5_divideBy ∈ BIG := bigAt 641 (by decide +kernel) (by decide +kernel)
theorem vw_yX5_divideBy : Jvm.Cond.selects RX5 yX5_divideBy yX5_divideBy ∈ BIG := bigAt 642 (by decide +kernel) (by decide +kernel)
theorem cw_yX6_init : Jvm.Cond.code yX6_init cX6_init 1 none ∈ BIG := bigAt 177 (by decide +kernel) (by decide +kernel)
theorem iw_yX6_init : Jvm.Cond.instanceMethod yX6_init ∈ BIG := bigAt 176 (by decide +kernel) (by decide +kernel)
theorem cw_yX6_hasSpace : Jvm.Cond.code yX6_hasSpace cX6_hasSpace 2 (some .boolean) ∈ BIG := bigAt 596 (by decide +kernel) (by decide +kernel)
theorem iw_yX6_hasSpace : Jvm.Cond.instanceMethod yX6_hasSpace ∈ BIG := bigAt 594 (by decide +kernel) (by decide +kernel)
theorem vw_yX6_hasSpace : Jvm.Cond.selects RX6 yX6_hasSpace yX6_hasSpace ∈ BIG := bigAt 595 (by decide +kernel) (by decide +kernel)
theorem cw_yX6_putBytesOf : Jvm.Cond.code yX6_putBytesOf cX6_putBytesOf 3 none ∈ BIG := bigAt 600 (by decide +kernel) (by decide +kernel)
theorem iw_yX6_putBytesOf : Jvm.Cond.instanceMethod yX6_putBytesOf ∈ BIG := bigAt 598 (by decide +kernel) (by decide +kernel)
theorem vw_yX6_putBytesOf : Jvm.Cond.selects RX6 yX6_putBytesOf yX6_putBytesOf ∈ BIG := bigAt 599 (by decide +kernel) (by decide +kernel)
theorem cw_yX6_digitsAhead : Jvm.Cond.code yX6_digitsAhead cX6_digitsAhead 3 (some .int) ∈ BIG := bigAt 615 (by decide +kernel) (by decide +kernel)
theorem iw_yX6_digitsAhead : Jvm.Cond.instanceMethod yX6_digitsAhead ∈ BIG := bigAt 613 (by decide +kernel) (by decide +kernel)
theorem vw_yX6_digitsAhead : Jvm.Cond.selects RX6 yX6_digitsAhead yX6_digitsAhead ∈ BIG := bigAt 614 (by decide +kernel) (by decide +kernel)
theorem cw_yX6_readNumber : Jvm.Cond.code yX6_readNumber cX6_readNumber 4 none ∈ BIG := bigAt 622 (by decide +kernel) (by decide +kernel)
theorem iw_yX6_readNumber : Jvm.Cond.instanceMethod yX6_readNumber ∈ BIG := bigAt 620 (by decide +kernel) (by decide +kernel)
theorem vw_yX6_readNumber : Jvm.Cond.selects RX6 yX6_readNumber yX6_readNumber ∈ BIG := bigAt 621 (by decide +kernel) (by decide +kernel)
theorem cw_yX6_digitOf : Jvm.Cond.code yX6_digitOf cX6_digitOf 1 (some .int) ∈ BIG := bigAt 618 (by decide +kernel) (by decide +kernel)
theorem sw_yX6_digitOf : Jvm.Cond.static yX6_digitOf ∈ BIG := bigAt 617 (by decide +kernel) (by decide +kernel)
theorem cw_yX7_init : Jvm.Cond.code yX7_init cX7_init 5 none ∈ BIG := bigAt 70 (by decide +kernel) (by decide +kernel)
theorem iw_yX7_init : Jvm.Cond.instanceMethod yX7_init ∈ BIG := bigAt 69 (by decide +kernel) (by decide +kernel)
theorem cw_yX7_nearest : Jvm.Cond.code yX7_nearest cX7_nearest 3 (some .int) ∈ BIG := bigAt 76 (by decide +kernel) (by decide +kernel)
theorem sw_yX7_nearest : Jvm.Cond.static yX7_nearest ∈ BIG := bigAt 75 (by decide +kernel) (by decide +kernel)
theorem cw_yX7_isRoom : Jvm.Cond.code yX7_isRoom cX7_isRoom 1 (some .boolean) ∈ BIG := bigAt 302 (by decide +kernel) (by decide +kernel)
theorem sw_yX7_isRoom : Jvm.Cond.static yX7_isRoom ∈ BIG := bigAt 301 (by decide +kernel) (by decide +kernel)
theorem cw_yX7_isLimb : Jvm.Cond.code yX7_isLimb cX7_isLimb 1 (some .boolean) ∈ BIG := bigAt 380 (by decide +kernel) (by decide +kernel)
theorem sw_yX7_isLimb : Jvm.Cond.static yX7_isLimb ∈ BIG := bigAt 379 (by decide +kernel) (by decide +kernel)
theorem cw_yX7_isBase : Jvm.Cond.code yX7_isBase cX7_isBase 1 (some .boolean) ∈ BIG := bigAt 611 (by decide +kernel) (by decide +kernel)
theorem sw_yX7_isBase : Jvm.Cond.static yX7_isBase ∈ BIG := bigAt 610 (by decide +kernel) (by decide +kernel)
theorem cw_yX7_alloc : Jvm.Cond.code yX7_alloc cX7_alloc 3 (some .int) ∈ BIG := bigAt 299 (by decide +kernel) (by decide +kernel)
theorem iw_yX7_alloc : Jvm.Cond.instanceMethod yX7_alloc ∈ BIG := bigAt 297 (by decide +kernel) (by decide +kernel)
theorem vw_yX7_alloc : Jvm.Cond.selects RX7 yX7_alloc yX7_alloc ∈ BIG := bigAt 298 (by decide +kernel) (by decide +kernel)
theorem cw_yX7_release : Jvm.Cond.code yX7_release cX7_release 2 (some .int) ∈ BIG := bigAt 357 (by decide +kernel) (by decide +kernel)
theorem iw_yX7_release : Jvm.Cond.instanceMethod yX7_release ∈ BIG := bigAt 355 (by decide +kernel) (by decide +kernel)
theorem vw_yX7_release : Jvm.Cond.selects RX7 yX7_release yX7_release ∈ BIG := bigAt 356 (by decide +kernel) (by decide +kernel)
theorem cw_yX7_resize : Jvm.Cond.code yX7_resize cX7_resize 3 (some .int) ∈ BIG := bigAt 369 (by decide +kernel) (by decide +kernel)
theorem iw_yX7_resize : Jvm.Cond.instanceMethod yX7_resize ∈ BIG := bigAt 367 (by decide +kernel) (by decide +kernel)
theorem vw_yX7_resize : Jvm.Cond.selects RX7 yX7_resize yX7_resize ∈ BIG := bigAt 368 (by decide +kernel) (by decide +kernel)
theorem cw_yX7_setLimb : Jvm.Cond.code yX7_setLimb cX7_setLimb 4 (some .int) ∈ BIG := bigAt 377 (by decide +kernel) (by decide +kernel)
theorem iw_yX7_setLimb : Jvm.Cond.instanceMethod yX7_setLimb ∈ BIG := bigAt 375 (by decide +kernel) (by decide +kernel)
theorem vw_yX7_setLimb : Jvm.Cond.selects RX7 yX7_setLimb yX7_setLimb ∈ BIG := bigAt 376 (by decide +kernel) (by decide +kernel)
theorem cw_yX7_limb : Jvm.Cond.code yX7_limb cX7_limb 3 (some .int) ∈ BIG := bigAt 388 (by decide +kernel) (by decide +kernel)
theorem iw_yX7_limb : Jvm.Cond.instanceMethod yX7_limb ∈ BIG := bigAt 386 (by decide +kernel) (by decide +kernel)
theorem vw_yX7_limb : Jvm.Cond.selects RX7 yX7_limb yX7_limb ∈ BIG := bigAt 387 (by decide +kernel) (by decide +kernel)
theorem cw_yX7_look : Jvm.Cond.code yX7_look cX7_look 3 (some .int) ∈ BIG := bigAt 396 (by decide +kernel) (by decide +kernel)
theorem iw_yX7_look : Jvm.Cond.instanceMethod yX7_look ∈ BIG := bigAt 394 (by decide +kernel) (by decide +kernel)
theorem vw_yX7_look : Jvm.Cond.selects RX7 yX7_look yX7_look ∈ BIG := bigAt 395 (by decide +kernel) (by decide +kernel)
theorem cw_yX7_about : Jvm.Cond.code yX7_about cX7_about 2 (some .int) ∈ BIG := bigAt 411 (by decide +kernel) (by decide +kernel)
theorem iw_yX7_about : Jvm.Cond.instanceMethod yX7_about ∈ BIG := bigAt 409 (by decide +kernel) (by decide +kernel)
theorem vw_yX7_about : Jvm.Cond.selects RX7 yX7_about yX7_about ∈ BIG := bigAt 410 (by decide +kernel) (by decide +kernel)
theorem cw_yX7_cell : Jvm.Cond.code yX7_cell cX7_cell 2 (some .int) ∈ BIG := bigAt 424 (by decide +kernel) (by decide +kernel)
theorem iw_yX7_cell : Jvm.Cond.instanceMethod yX7_cell ∈ BIG := bigAt 422 (by decide +kernel) (by decide +kernel)
theorem vw_yX7_cell : Jvm.Cond.selects RX7 yX7_cell yX7_cell ∈ BIG := bigAt 423 (by decide +kernel) (by decide +kernel)
theorem cw_yX7_add : Jvm.Cond.code yX7_add cX7_add 4 (some .int) ∈ BIG := bigAt 432 (by decide +kernel) (by decide +kernel)
theorem iw_yX7_add : Jvm.Cond.instanceMethod yX7_add ∈ BIG := bigAt 430 (by decide +kernel) (by decide +kernel)
theorem vw_yX7_add : Jvm.Cond.selects RX7 yX7_add yX7_add ∈ BIG := bigAt 431 (by decide +kernel) (by decide +kernel)
theorem cw_yX7_sub : Jvm.Cond.code yX7_sub cX7_sub 4 (some .int) ∈ BIG := bigAt 458 (by decide +kernel) (by decide +kernel)
theorem iw_yX7_sub : Jvm.Cond.instanceMethod yX7_sub ∈ BIG := bigAt 456 (by decide +kernel) (by decide +kernel)
theorem vw_yX7_sub : Jvm.Cond.selects RX7 yX7_sub yX7_sub ∈ BIG := bigAt 457 (by decide +kernel) (by decide +kernel)
theorem cw_yX7_mul : Jvm.Cond.code yX7_mul cX7_mul 6 (some .int) ∈ BIG := bigAt 468 (by decide +kernel) (by decide +kernel)
theorem iw_yX7_mul : Jvm.Cond.instanceMethod yX7_mul ∈ BIG := bigAt 466 (by decide +kernel) (by decide +kernel)
theorem vw_yX7_mul : Jvm.Cond.selects RX7 yX7_mul yX7_mul ∈ BIG := bigAt 467 (by decide +kernel) (by decide +kernel)
theorem cw_yX7_divmod : Jvm.Cond.code yX7_divmod cX7_divmod 7 (some .int) ∈ BIG := bigAt 480 (by decide +kernel) (by decide +kernel)
theorem iw_yX7_divmod : Jvm.Cond.instanceMethod yX7_divmod ∈ BIG := bigAt 478 (by decide +kernel) (by decide +kernel)
theorem vw_yX7_divmod : Jvm.Cond.selects RX7 yX7_divmod yX7_divmod ∈ BIG := bigAt 479 (by decide +kernel) (by decide +kernel)
theorem cw_yX7_isLiveOrNone : Jvm.Cond.code yX7_isLiveOrNone cX7_isLiveOrNone 2 (some .boolean) ∈ BIG := bigAt 484 (by decide +kernel) (by decide +kernel)
theorem iw_yX7_isLiveOrNone : Jvm.Cond.instanceMethod yX7_isLiveOrNone ∈ BIG := bigAt 483 (by decide +kernel) (by decide +kernel)
theorem vw_yX7_isLiveOrNone : Jvm.Cond.selects RX7 yX7_isLiveOrNone yX7_isLiveOrNone ∈ BIG := bigAt 1 (by decide +kernel) (by decide +kernel)
theorem cw_yX7_bringBoth : Jvm.Cond.code yX7_bringBoth cX7_bringBoth 7 (some .int) ∈ BIG := bigAt 518 (by decide +kernel) (by decide +kernel)
theorem iw_yX7_bringBoth : Jvm.Cond.instanceMethod yX7_bringBoth ∈ BIG := bigAt 517 (by decide +kernel) (by decide +kernel)
theorem vw_yX7_bringBoth : Jvm.Cond.selects RX7 yX7_bringBoth yX7_bringBoth ∈ BIG := bigAt 5 (by decide +kernel) (by decide +kernel)
theorem cw_yX7_powmod : Jvm.Cond.code yX7_powmod cX7_powmod 8 (some .int) ∈ BIG := bigAt 525 (by decide +kernel) (by decide +kernel)
theorem iw_yX7_powmod : Jvm.Cond.instanceMethod yX7_powmod ∈ BIG := bigAt 523 (by decide +kernel) (by decide +kernel)
theorem vw_yX7_powmod : Jvm.Cond.selects RX7 yX7_powmod yX7_powmod ∈ BIG := bigAt 524 (by decide +kernel) (by decide +kernel)
theorem cw_yX7_gcd : Jvm.Cond.code yX7_gcd cX7_gcd 4 (some .int) ∈ BIG := bigAt 546 (by decide +kernel) (by decide +kernel)
theorem iw_yX7_gcd : Jvm.Cond.instanceMethod yX7_gcd ∈ BIG := bigAt 544 (by decide +kernel) (by decide +kernel)
theorem vw_yX7_gcd : Jvm.Cond.selects RX7 yX7_gcd yX7_gcd ∈ BIG := bigAt 545 (by decide +kernel) (by decide +kernel)
theorem cw_yX7_root : Jvm.Cond.code yX7_root cX7_root 3 (some .int) ∈ BIG := bigAt 554 (by decide +kernel) (by decide +kernel)
theorem iw_yX7_root : Jvm.Cond.instanceMethod yX7_root ∈ BIG := bigAt 552 (by decide +kernel) (by decide +kernel)
theorem vw_yX7_root : Jvm.Cond.selects RX7 yX7_root yX7_root ∈ BIG := bigAt 553 (by decide +kernel) (by decide +kernel)
theorem cw_yX7_shift : Jvm.Cond.code yX7_shift cX7_shift 4 (some .int) ∈ BIG := bigAt 563 (by decide +kernel) (by decide +kernel)
theorem iw_yX7_shift : Jvm.Cond.instanceMethod yX7_shift ∈ BIG := bigAt 561 (by decide +kernel) (by decide +kernel)
theorem vw_yX7_shift : Jvm.Cond.selects RX7 yX7_shift yX7_shift ∈ BIG := bigAt 562 (by decide +kernel) (by decide +kernel)
theorem cw_yX7_compare : Jvm.Cond.code yX7_compare cX7_compare 3 (some .int) ∈ BIG := bigAt 569 (by decide +kernel) (by decide +kernel)
theorem iw_yX7_compare : Jvm.Cond.instanceMethod yX7_compare ∈ BIG := bigAt 567 (by decide +kernel) (by decide +kernel)
theorem vw_yX7_compare : Jvm.Cond.selects RX7 yX7_compare yX7_compare ∈ BIG := bigAt 568 (by decide +kernel) (by decide +kernel)
theorem cw_yX7_jacobi : Jvm.Cond.code yX7_jacobi cX7_jacobi 3 (some .int) ∈ BIG := bigAt 573 (by decide +kernel) (by decide +kernel)
theorem iw_yX7_jacobi : Jvm.Cond.instanceMethod yX7_jacobi ∈ BIG := bigAt 571 (by decide +kernel) (by decide +kernel)
theorem vw_yX7_jacobi : Jvm.Cond.selects RX7 yX7_jacobi yX7_jacobi ∈ BIG := bigAt 572 (by decide +kernel) (by decide +kernel)
theorem cw_yX7_feed : Jvm.Cond.code yX7_feed cX7_feed 6 (some .int) ∈ BIG := bigAt 592 (by decide +kernel) (by decide +kernel)
theorem iw_yX7_feed : Jvm.Cond.instanceMethod yX7_feed ∈ BIG := bigAt 590 (by decide +kernel) (by decide +kernel)
theorem vw_yX7_feed : Jvm.Cond.selects RX7 yX7_feed yX7_feed ∈ BIG := bigAt 591 (by decide +kernel) (by decide +kernel)
theorem cw_yX7_end : Jvm.Cond.code yX7_end cX7_end 2 (some .boolean) ∈ BIG := bigAt 604 (by decide +kernel) (by decide +kernel)
theorem iw_yX7_end : Jvm.Cond.instanceMethod yX7_end ∈ BIG := bigAt 602 (by decide +kernel) (by decide +kernel)
theorem vw_yX7_end : Jvm.Cond.selects RX7 yX7_end yX7_end ∈ BIG := bigAt 603 (by decide +kernel) (by decide +kernel)
theorem cw_yX7_number : Jvm.Cond.code yX7_number cX7_number 4 (some .int) ∈ BIG := bigAt 608 (by decide +kernel) (by decide +kernel)
theorem iw_yX7_number : Jvm.Cond.instanceMethod yX7_number ∈ BIG := bigAt 606 (by decide +kernel) (by decide +kernel)
theorem vw_yX7_number : Jvm.Cond.selects RX7 yX7_number yX7_number ∈ BIG := bigAt 607 (by decide +kernel) (by decide +kernel)
theorem cw_yX7_fault : Jvm.Cond.code yX7_fault cX7_fault 1 (some .int) ∈ BIG := bigAt 631 (by decide +kernel) (by decide +kernel)
theorem iw_yX7_fault : Jvm.Cond.instanceMethod yX7_fault ∈ BIG := bigAt 629 (by decide +kernel) (by decide +kernel)
theorem vw_yX7_fault : Jvm.Cond.selects RX7 yX7_fault yX7_fault ∈ BIG := bigAt 630 (by decide +kernel) (by decide +kernel)
theorem cw_yX7_text : Jvm.Cond.code yX7_text cX7_text 3 (some .int) ∈ BIG := bigAt 635 (by decide +kernel) (by decide +kernel)
theorem iw_yX7_text : Jvm.Cond.instanceMethod yX7_text ∈ BIG := bigAt 633 (by decide +kernel) (by decide +kernel)
theorem vw_yX7_text : Jvm.Cond.selects RX7 yX7_text yX7_text ∈ BIG := bigAt 634 (by decide +kernel) (by decide +kernel)
theorem cw_yX7_out : Jvm.Cond.code yX7_out cX7_out 2 (some .int) ∈ BIG := bigAt 650 (by decide +kernel) (by decide +kernel)
theorem iw_yX7_out : Jvm.Cond.instanceMethod yX7_out ∈ BIG := bigAt 648 (by decide +kernel) (by decide +kernel)
theorem vw_yX7_out : Jvm.Cond.selects RX7 yX7_out yX7_out ∈ BIG := bigAt 649 (by decide +kernel) (by decide +kernel)
theorem cw_yX7_word : Jvm.Cond.code yX7_word cX7_word 2 (some .int) ∈ BIG := bigAt 658 (by decide +kernel) (by decide +kernel)
theorem iw_yX7_word : Jvm.Cond.instanceMethod yX7_word ∈ BIG := bigAt 656 (by decide +kernel) (by decide +kernel)
theorem vw_yX7_word : Jvm.Cond.selects RX7 yX7_word yX7_word ∈ BIG := bigAt 657 (by decide +kernel) (by decide +kernel)
theorem cw_yX7_told : Jvm.Cond.code yX7_told cX7_told 2 (some .int) ∈ BIG := bigAt 666 (by decide +kernel) (by decide +kernel)
theorem iw_yX7_told : Jvm.Cond.instanceMethod yX7_told ∈ BIG := bigAt 664 (by decide +kernel) (by decide +kernel)
theorem vw_yX7_told : Jvm.Cond.selects RX7 yX7_told yX7_told ∈ BIG := bigAt 665 (by decide +kernel) (by decide +kernel)
theorem cw_yX7_clear : Jvm.Cond.code yX7_clear cX7_clear 2 (some .int) ∈ BIG := bigAt 674 (by decide +kernel) (by decide +kernel)
theorem iw_yX7_clear : Jvm.Cond.instanceMethod yX7_clear ∈ BIG := bigAt 672 (by decide +kernel) (by decide +kernel)
theorem vw_yX7_clear : Jvm.Cond.selects RX7 yX7_clear yX7_clear ∈ BIG := bigAt 673 (by decide +kernel) (by decide +kernel)
theorem cw_yX7_check : Jvm.Cond.code yX7_check cX7_check 3 (some .int) ∈ BIG := bigAt 678 (by decide +kernel) (by decide +kernel)
theorem iw_yX7_check : Jvm.Cond.instanceMethod yX7_check ∈ BIG := bigAt 676 (by decide +kernel) (by decide +kernel)
theorem vw_yX7_check : Jvm.Cond.selects RX7 yX7_check yX7_check ∈ BIG := bigAt 677 (by decide +kernel) (by decide +kernel)
theorem cw_yX7_prove : Jvm.Cond.code yX7_prove cX7_prove 3 (some .int) ∈ BIG := bigAt 737 (by decide +kernel) (by decide +kernel)
theorem iw_yX7_prove : Jvm.Cond.instanceMethod yX7_prove ∈ BIG := bigAt 735 (by decide +kernel) (by decide +kernel)
theorem vw_yX7_prove : Jvm.Cond.selects RX7 yX7_prove yX7_prove ∈ BIG := bigAt 736 (by decide +kernel) (by decide +kernel)
theorem cw_yX8_init : Jvm.Cond.code yX8_init cX8_init 4 none ∈ BIG := bigAt 795 (by decide +kernel) (by decide +kernel)
theorem iw_yX8_init : Jvm.Cond.instanceMethod yX8_init ∈ BIG := bigAt 794 (by decide +kernel) (by decide +kernel)
theorem cw_yX8_near : Jvm.Cond.code yX8_near cX8_near 3 (some .int) ∈ BIG := bigAt 799 (by decide +kernel) (by decide +kernel)
theorem sw_yX8_near : Jvm.Cond.static yX8_near ∈ BIG := bigAt 798 (by decide +kernel) (by decide +kernel)
theorem cw_yX8_isIn : Jvm.Cond.code yX8_isIn cX8_isIn 3 (some .boolean) ∈ BIG := bigAt 895 (by decide +kernel) (by decide +kernel)
theorem sw_yX8_isIn : Jvm.Cond.static yX8_isIn ∈ BIG := bigAt 894 (by decide +kernel) (by decide +kernel)
theorem cw_yX8_at : Jvm.Cond.code yX8_at cX8_at 3 (some .int) ∈ BIG := bigAt 939 (by decide +kernel) (by decide +kernel)
theorem iw_yX8_at : Jvm.Cond.instanceMethod yX8_at ∈ BIG := bigAt 938 (by decide +kernel) (by decide +kernel)
theorem vw_yX8_at : Jvm.Cond.selects RX8 yX8_at yX8_at ∈ BIG := bigAt 27 (by decide +kernel) (by decide +kernel)
theorem cw_yX8_put : Jvm.Cond.code yX8_put cX8_put 4 none ∈ BIG := bigAt 927 (by decide +kernel) (by decide +kernel)
theorem iw_yX8_put : Jvm.Cond.instanceMethod yX8_put ∈ BIG := bigAt 926 (by decide +kernel) (by decide +kernel)
theorem vw_yX8_put : Jvm.Cond.selects RX8 yX8_put yX8_put ∈ BIG := bigAt 25 (by decide +kernel) (by decide +kernel)
theorem cw_yX8_fix : Jvm.Cond.code yX8_fix cX8_fix 4 none ∈ BIG := bigAt 931 (by decide +kernel) (by decide +kernel)
theorem iw_yX8_fix : Jvm.Cond.instanceMethod yX8_fix ∈ BIG := bigAt 930 (by decide +kernel) (by decide +kernel)
theorem vw_yX8_fix : Jvm.Cond.selects RX8 yX8_fix yX8_fix ∈ BIG := bigAt 26 (by decide +kernel) (by decide +kernel)
theorem cw_yX8_copy : Jvm.Cond.code yX8_copy cX8_copy 4 none ∈ BIG := bigAt 980 (by decide +kernel) (by decide +kernel)
theorem iw_yX8_copy : Jvm.Cond.instanceMethod yX8_copy ∈ BIG := bigAt 979 (by decide +kernel) (by decide +kernel)
theorem vw_yX8_copy : Jvm.Cond.selects RX8 yX8_copy yX8_copy ∈ BIG := bigAt 33 (by decide +kernel) (by decide +kernel)
theorem cw_yX8_small : Jvm.Cond.code yX8_small cX8_small 3 none ∈ BIG := bigAt 1021 (by decide +kernel) (by decide +kernel)
theorem iw_yX8_small : Jvm.Cond.instanceMethod yX8_small ∈ BIG := bigAt 1020 (by decide +kernel) (by decide +kernel)
theorem vw_yX8_small : Jvm.Cond.selects RX8 yX8_small yX8_small ∈ BIG := bigAt 39 (by decide +kernel) (by decide +kernel)
theorem cw_yX8_compared : Jvm.Cond.code yX8_compared cX8_compared 4 (some .int) ∈ BIG := bigAt 988 (by decide +kernel) (by decide +kernel)
theorem iw_yX8_compared : Jvm.Cond.instanceMethod yX8_compared ∈ BIG := bigAt 987 (by decide +kernel) (by decide +kernel)
theorem vw_yX8_compared : Jvm.Cond.selects RX8 yX8_compared yX8_compared ∈ BIG := bigAt 34 (by decide +kernel) (by decide +kernel)
theorem cw_yX8_isOne : Jvm.Cond.code yX8_isOne cX8_isOne 2 (some .boolean) ∈ BIG := bigAt 1053 (by decide +kernel) (by decide +kernel)
theorem iw_yX8_isOne : Jvm.Cond.instanceMethod yX8_isOne ∈ BIG := bigAt 1052 (by decide +kernel) (by decide +kernel)
theorem vw_yX8_isOne : Jvm.Cond.selects RX8 yX8_isOne yX8_isOne ∈ BIG := bigAt 42 (by decide +kernel) (by decide +kernel)
theorem cw_yX8_sum : Jvm.Cond.code yX8_sum cX8_sum 8 none ∈ BIG := bigAt 967 (by decide +kernel) (by decide +kernel)
theorem iw_yX8_sum : Jvm.Cond.instanceMethod yX8_sum ∈ BIG := bigAt 966 (by decide +kernel) (by decide +kernel)
theorem vw_yX8_sum : Jvm.Cond.selects RX8 yX8_sum yX8_sum ∈ BIG := bigAt 30 (by decide +kernel) (by decide +kernel)
theorem cw_yX8_difference : Jvm.Cond.code yX8_difference cX8_difference 8 none ∈ BIG := bigAt 992 (by decide +kernel) (by decide +kernel)
theorem iw_yX8_difference : Jvm.Cond.instanceMethod yX8_difference ∈ BIG := bigAt 991 (by decide +kernel) (by decide +kernel)
theorem vw_yX8_difference : Jvm.Cond.selects RX8 yX8_difference yX8_difference ∈ BIG := bigAt 35 (by decide +kernel) (by decide +kernel)
theorem cw_yX8_product : Jvm.Cond.code yX8_product cX8_product 10 none ∈ BIG := bigAt 1000 (by decide +kernel) (by decide +kernel)
theorem iw_yX8_product : Jvm.Cond.instanceMethod yX8_product ∈ BIG := bigAt 999 (by decide +kernel) (by decide +kernel)
theorem vw_yX8_product : Jvm.Cond.selects RX8 yX8_product yX8_product ∈ BIG := bigAt 36 (by decide +kernel) (by decide +kernel)
theorem cw_yX8_divide : Jvm.Cond.code yX8_divide cX8_divide 20 none ∈ BIG := bigAt 1009 (by decide +kernel) (by decide +kernel)
theorem iw_yX8_divide : Jvm.Cond.instanceMethod yX8_divide ∈ BIG := bigAt 1008 (by decide +kernel) (by decide +kernel)
theorem vw_yX8_divide : Jvm.Cond.selects RX8 yX8_divide yX8_divide ∈ BIG := bigAt 37 (by decide +kernel) (by decide +kernel)
theorem cw_yX8_bits : Jvm.Cond.code yX8_bits cX8_bits 4 (some .int) ∈ BIG := bigAt 947 (by decide +kernel) (by decide +kernel)
theorem iw_yX8_bits : Jvm.Cond.instanceMethod yX8_bits ∈ BIG := bigAt 946 (by decide +kernel) (by decide +kernel)
theorem vw_yX8_bits : Jvm.Cond.selects RX8 yX8_bits yX8_bits ∈ BIG := bigAt 28 (by decide +kernel) (by decide +kernel)
theorem cw_yX8_bit : Jvm.Cond.code yX8_bit cX8_bit 3 (some .int) ∈ BIG := bigAt 1025 (by decide +kernel) (by decide +kernel)
theorem iw_yX8_bit : Jvm.Cond.instanceMethod yX8_bit ∈ BIG := bigAt 1024 (by decide +kernel) (by decide +kernel)
theorem vw_yX8_bit : Jvm.Cond.selects RX8 yX8_bit yX8_bit ∈ BIG := bigAt 40 (by decide +kernel) (by decide +kernel)
theorem cw_yX8_power : Jvm.Cond.code yX8_power cX8_power 6 none ∈ BIG := bigAt 1017 (by decide +kernel) (by decide +kernel)
theorem iw_yX8_power : Jvm.Cond.instanceMethod yX8_power ∈ BIG := bigAt 1016 (by decide +kernel) (by decide +kernel)
theorem vw_yX8_power : Jvm.Cond.selects RX8 yX8_power yX8_power ∈ BIG := bigAt 38 (by decide +kernel) (by decide +kernel)
theorem cw_yX8_end : Jvm.Cond.code yX8_end cX8_end 3 (some .int) ∈ BIG := bigAt 903 (by decide +kernel) (by decide +kernel)
theorem iw_yX8_end : Jvm.Cond.instanceMethod yX8_end ∈ BIG := bigAt 902 (by decide +kernel) (by decide +kernel)
theorem vw_yX8_end : Jvm.Cond.selects RX8 yX8_end yX8_end ∈ BIG := bigAt 22 (by decide +kernel) (by decide +kernel)
theorem cw_yX8_slide : Jvm.Cond.code yX8_slide cX8_slide 5 none ∈ BIG := bigAt 907 (by decide +kernel) (by decide +kernel)
theorem iw_yX8_slide : Jvm.Cond.instanceMethod yX8_slide ∈ BIG := bigAt 906 (by decide +kernel) (by decide +kernel)
theorem vw_yX8_slide : Jvm.Cond.selects RX8 yX8_slide yX8_slide ∈ BIG := bigAt 23 (by decide +kernel) (by decide +kernel)
theorem cw_yX8_take : Jvm.Cond.code yX8_take cX8_take 2 (some .boolean) ∈ BIG := bigAt 899 (by decide +kernel) (by decide +kernel)
theorem iw_yX8_take : Jvm.Cond.instanceMethod yX8_take ∈ BIG := bigAt 898 (by decide +kernel) (by decide +kernel)
theorem vw_yX8_take : Jvm.Cond.selects RX8 yX8_take yX8_take ∈ BIG := bigAt 21 (by decide +kernel) (by decide +kernel)
theorem cw_yX8_gets : Jvm.Cond.code yX8_gets cX8_gets 4 none ∈ BIG := bigAt 976 (by decide +kernel) (by decide +kernel)
theorem iw_yX8_gets : Jvm.Cond.instanceMethod yX8_gets ∈ BIG := bigAt 975 (by decide +kernel) (by decide +kernel)
theorem vw_yX8_gets : Jvm.Cond.selects RX8 yX8_gets yX8_gets ∈ BIG := bigAt 32 (by decide +kernel) (by decide +kernel)
theorem cw_yX8_isLive : Jvm.Cond.code yX8_isLive cX8_isLive 2 (some .boolean) ∈ BIG := bigAt 915 (by decide +kernel) (by decide +kernel)
theorem iw_yX8_isLive : Jvm.Cond.instanceMethod yX8_isLive ∈ BIG := bigAt 914 (by decide +kernel) (by decide +kernel)
theorem vw_yX8_isLive : Jvm.Cond.selects RX8 yX8_isLive yX8_isLive ∈ BIG := bigAt 24 (by decide +kernel) (by decide +kernel)
theorem cw_yX8_comes : Jvm.Cond.code yX8_comes cX8_comes 4 (some .int) ∈ BIG := bigAt 972 (by decide +kernel) (by decide +kernel)
theorem iw_yX8_comes : Jvm.Cond.instanceMethod yX8_comes ∈ BIG := bigAt 971 (by decide +kernel) (by decide +kernel)
theorem vw_yX8_comes : Jvm.Cond.selects RX8 yX8_comes yX8_comes ∈ BIG := bigAt 31 (by decide +kernel) (by decide +kernel)
theorem cw_yX8_alloc : Jvm.Cond.code yX8_alloc cX8_alloc 3 (some .int) ∈ BIG := bigAt 892 (by decide +kernel) (by decide +kernel)
theorem iw_yX8_alloc : Jvm.Cond.instanceMethod yX8_alloc ∈ BIG := bigAt 890 (by decide +kernel) (by decide +kernel)
theorem vw_yX8_alloc : Jvm.Cond.selects RX8 yX8_alloc yX8_alloc ∈ BIG := bigAt 891 (by decide +kernel) (by decide +kernel)
theorem cw_yX8_release : Jvm.Cond.code yX8_release cX8_release 2 (some .int) ∈ BIG := bigAt 911 (by decide +kernel) (by decide +kernel)
theorem iw_yX8_release : Jvm.Cond.instanceMethod yX8_release ∈ BIG := bigAt 909 (by decide +kernel) (by decide +kernel)
theorem vw_yX8_release : Jvm.Cond.selects RX8 yX8_release yX8_release ∈ BIG := bigAt 910 (by decide +kernel) (by decide +kernel)
theorem cw_yX8_resize : Jvm.Cond.code yX8_resize cX8_resize 3 (some .int) ∈ BIG := bigAt 919 (by decide +kernel) (by decide +kernel)
theorem iw_yX8_resize : Jvm.Cond.instanceMethod yX8_resize ∈ BIG := bigAt 917 (by decide +kernel) (by decide +kernel)
theorem vw_yX8_resize : Jvm.Cond.selects RX8 yX8_resize yX8_resize ∈ BIG := bigAt 918 (by decide +kernel) (by decide +kernel)
theorem cw_yX8_setLimb : Jvm.Cond.code yX8_setLimb cX8_setLimb 5 (some .int) ∈ BIG := bigAt 923 (by decide +kernel) (by decide +kernel)
theorem iw_yX8_setLimb : Jvm.Cond.instanceMethod yX8_setLimb ∈ BIG := bigAt 921 (by decide +kernel) (by decide +kernel)
theorem vw_yX8_setLimb : Jvm.Cond.selects RX8 yX8_setLimb yX8_setLimb ∈ BIG := bigAt 922 (by decide +kernel) (by decide +kernel)
theorem cw_yX8_limb : Jvm.Cond.code yX8_limb cX8_limb 3 (some .int) ∈ BIG := bigAt 935 (by decide +kernel) (by decide +kernel)
theorem iw_yX8_limb : Jvm.Cond.instanceMethod yX8_limb ∈ BIG := bigAt 933 (by decide +kernel) (by decide +kernel)
theorem vw_yX8_limb : Jvm.Cond.selects RX8 yX8_limb yX8_limb ∈ BIG := bigAt 934 (by decide +kernel) (by decide +kernel)
theorem cw_yX8_look : Jvm.Cond.code yX8_look cX8_look 3 (some .int) ∈ BIG := bigAt 943 (by decide +kernel) (by decide +kernel)
theorem iw_yX8_look : Jvm.Cond.instanceMethod yX8_look ∈ BIG := bigAt 941 (by decide +kernel) (by decide +kernel)
theorem vw_yX8_look : Jvm.Cond.selects RX8 yX8_look yX8_look ∈ BIG := bigAt 942 (by decide +kernel) (by decide +kernel)
theorem cw_yX8_allRooms : Jvm.Cond.code yX8_allRooms cX8_allRooms 3 (some .int) ∈ BIG := bigAt 955 (by decide +kernel) (by decide +kernel)
theorem iw_yX8_allRooms : Jvm.Cond.instanceMethod yX8_allRooms ∈ BIG := bigAt 954 (by decide +kernel) (by decide +kernel)
theorem vw_yX8_allRooms : Jvm.Cond.selects RX8 yX8_allRooms yX8_allRooms ∈ BIG := bigAt 29 (by decide +kernel) (by decide +kernel)
theorem cw_yX8_about : Jvm.Cond.code yX8_about cX8_about 4 (some .int) ∈ BIG := bigAt 951 (by decide +kernel) (by decide +kernel)
theorem iw_yX8_about : Jvm.Cond.instanceMethod yX8_about ∈ BIG := bigAt 949 (by decide +kernel) (by decide +kernel)
theorem vw_yX8_about : Jvm.Cond.selects RX8 yX8_about yX8_about ∈ BIG := bigAt 950 (by decide +kernel) (by decide +kernel)
theorem cw_yX8_cell : Jvm.Cond.code yX8_cell cX8_cell 3 (some .int) ∈ BIG := bigAt 959 (by decide +kernel) (by decide +kernel)
theorem iw_yX8_cell : Jvm.Cond.instanceMethod yX8_cell ∈ BIG := bigAt 957 (by decide +kernel) (by decide +kernel)
theorem vw_yX8_cell : Jvm.Cond.selects RX8 yX8_cell yX8_cell ∈ BIG := bigAt 958 (by decide +kernel) (by decide +kernel)
theorem cw_yX8_add : Jvm.Cond.code yX8_add cX8_add 4 (some .int) ∈ BIG := bigAt 963 (by decide +kernel) (by decide +kernel)
theorem iw_yX8_add : Jvm.Cond.instanceMethod yX8_add ∈ BIG := bigAt 961 (by decide +kernel) (by decide +kernel)
theorem vw_yX8_add : Jvm.Cond.selects RX8 yX8_add yX8_add ∈ BIG := bigAt 962 (by decide +kernel) (by decide +kernel)
theorem cw_yX8_sub : Jvm.Cond.code yX8_sub cX8_sub 4 (some .int) ∈ BIG := bigAt 984 (by decide +kernel) (by decide +kernel)
theorem iw_yX8_sub : Jvm.Cond.instanceMethod yX8_sub ∈ BIG := bigAt 982 (by decide +kernel) (by decide +kernel)
theorem vw_yX8_sub : Jvm.Cond.selects RX8 yX8_sub yX8_sub ∈ BIG := bigAt 983 (by decide +kernel) (by decide +kernel)
theorem cw_yX8_mul : Jvm.Cond.code yX8_mul cX8_mul 4 (some .int) ∈ BIG := bigAt 996 (by decide +kernel) (by decide +kernel)
theorem iw_yX8_mul : Jvm.Cond.instanceMethod yX8_mul ∈ BIG := bigAt 994 (by decide +kernel) (by decide +kernel)
theorem vw_yX8_mul : Jvm.Cond.selects RX8 yX8_mul yX8_mul ∈ BIG := bigAt 995 (by decide +kernel) (by decide +kernel)
theorem cw_yX8_divmod : Jvm.Cond.code yX8_divmod cX8_divmod 7 (some .int) ∈ BIG := bigAt 1005 (by decide +kernel) (by decide +kernel)
theorem iw_yX8_divmod : Jvm.Cond.instanceMethod yX8_divmod ∈ BIG := bigAt 1003 (by decide +kernel) (by decide +kernel)
theorem vw_yX8_divmod : Jvm.Cond.selects RX8 yX8_divmod yX8_divmod ∈ BIG := bigAt 1004 (by decide +kernel) (by decide +kernel)
theorem cw_yX8_powmod : Jvm.Cond.code yX8_powmod cX8_powmod 7 (some .int) ∈ BIG := bigAt 1013 (by decide +kernel) (by decide +kernel)
theorem iw_yX8_powmod : Jvm.Cond.instanceMethod yX8_powmod ∈ BIG := bigAt 1011 (by decide +kernel) (by decide +kernel)
theorem vw_yX8_powmod : Jvm.Cond.selects RX8 yX8_powmod yX8_powmod ∈ BIG := bigAt 1012 (by decide +kernel) (by decide +kernel)
theorem cw_yX8_gcd : Jvm.Cond.code yX8_gcd cX8_gcd 4 (some .int) ∈ BIG := bigAt 1029 (by decide +kernel) (by decide +kernel)
theorem iw_yX8_gcd : Jvm.Cond.instanceMethod yX8_gcd ∈ BIG := bigAt 1027 (by decide +kernel) (by decide +kernel)
theorem vw_yX8_gcd : Jvm.Cond.selects RX8 yX8_gcd yX8_gcd ∈ BIG := bigAt 1028 (by decide +kernel) (by decide +kernel)
theorem cw_yX8_root : Jvm.Cond.code yX8_root cX8_root 5 (some .int) ∈ BIG := bigAt 1033 (by decide +kernel) (by decide +kernel)
theorem iw_yX8_root : Jvm.Cond.instanceMethod yX8_root ∈ BIG := bigAt 1031 (by decide +kernel) (by decide +kernel)
theorem vw_yX8_root : Jvm.Cond.selects RX8 yX8_root yX8_root ∈ BIG := bigAt 1032 (by decide +kernel) (by decide +kernel)
theorem cw_yX8_shifted : Jvm.Cond.code yX8_shifted cX8_shifted 9 none ∈ BIG := bigAt 1041 (by decide +kernel) (by decide +kernel)
theorem iw_yX8_shifted : Jvm.Cond.instanceMethod yX8_shifted ∈ BIG := bigAt 1040 (by decide +kernel) (by decide +kernel)
theorem vw_yX8_shifted : Jvm.Cond.selects RX8 yX8_shifted yX8_shifted ∈ BIG := bigAt 41 (by decide +kernel) (by decide +kernel)
theorem cw_yX8_shift : Jvm.Cond.code yX8_shift cX8_shift 4 (some .int) ∈ BIG := bigAt 1037 (by decide +kernel) (by decide +kernel)
theorem iw_yX8_shift : Jvm.Cond.instanceMethod yX8_shift ∈ BIG := bigAt 1035 (by decide +kernel) (by decide +kernel)
theorem vw_yX8_shift : Jvm.Cond.selects RX8 yX8_shift yX8_shift ∈ BIG := bigAt 1036 (by decide +kernel) (by decide +kernel)
theorem cw_yX8_compare : Jvm.Cond.code yX8_compare cX8_compare 3 (some .int) ∈ BIG := bigAt 1045 (by decide +kernel) (by decide +kernel)
theorem iw_yX8_compare : Jvm.Cond.instanceMethod yX8_compare ∈ BIG := bigAt 1043 (by decide +kernel) (by decide +kernel)
theorem vw_yX8_compare : Jvm.Cond.selects RX8 yX8_compare yX8_compare ∈ BIG := bigAt 1044 (by decide +kernel) (by decide +kernel)
theorem cw_yX8_jacobi : Jvm.Cond.code yX8_jacobi cX8_jacobi 5 (some .int) ∈ BIG := bigAt 1049 (by decide +kernel) (by decide +kernel)
theorem iw_yX8_jacobi : Jvm.Cond.instanceMethod yX8_jacobi ∈ BIG := bigAt 1047 (by decide +kernel) (by decide +kernel)
theorem vw_yX8_jacobi : Jvm.Cond.selects RX8 yX8_jacobi yX8_jacobi ∈ BIG := bigAt 1048 (by decide +kernel) (by decide +kernel)
theorem cw_yX8_feed : Jvm.Cond.code yX8_feed cX8_feed 8 (some .int) ∈ BIG := bigAt 1057 (by decide +kernel) (by decide +kernel)
theorem iw_yX8_feed : Jvm.Cond.instanceMethod yX8_feed ∈ BIG := bigAt 1055 (by decide +kernel) (by decide +kernel)
theorem vw_yX8_feed : Jvm.Cond.selects RX8 yX8_feed yX8_feed ∈ BIG := bigAt 1056 (by decide +kernel) (by decide +kernel)
theorem cw_yX8_end_ : Jvm.Cond.code yX8_end_ cX8_end_ 2 (some .boolean) ∈ BIG := bigAt 1061 (by decide +kernel) (by decide +kernel)
theorem iw_yX8_end_ : Jvm.Cond.instanceMethod yX8_end_ ∈ BIG := bigAt 1059 (by decide +kernel) (by decide +kernel)
theorem vw_yX8_end_ : Jvm.Cond.selects RX8 yX8_end_ yX8_end_ ∈ BIG := bigAt 1060 (by decide +kernel) (by decide +kernel)
theorem cw_yX8_digit : Jvm.Cond.code yX8_digit cX8_digit 1 (some .int) ∈ BIG := bigAt 1068 (by decide +kernel) (by decide +kernel)
theorem sw_yX8_digit : Jvm.Cond.static yX8_digit ∈ BIG := bigAt 1067 (by decide +kernel) (by decide +kernel)
theorem cw_yX8_number : Jvm.Cond.code yX8_number cX8_number 10 (some .int) ∈ BIG := bigAt 1065 (by decide +kernel) (by decide +kernel)
theorem iw_yX8_number : Jvm.Cond.instanceMethod yX8_number ∈ BIG := bigAt 1063 (by decide +kernel) (by decide +kernel)
theorem vw_yX8_number : Jvm.Cond.selects RX8 yX8_number yX8_number ∈ BIG := bigAt 1064 (by decide +kernel) (by decide +kernel)
theorem cw_yX8_fault : Jvm.Cond.code yX8_fault cX8_fault 1 (some .int) ∈ BIG := bigAt 1072 (by decide +kernel) (by decide +kernel)
theorem iw_yX8_fault : Jvm.Cond.instanceMethod yX8_fault ∈ BIG := bigAt 1070 (by decide +kernel) (by decide +kernel)
theorem vw_yX8_fault : Jvm.Cond.selects RX8 yX8_fault yX8_fault ∈ BIG := bigAt 1071 (by decide +kernel) (by decide +kernel)
theorem cw_yX8_text : Jvm.Cond.code yX8_text cX8_text 7 (some .int) ∈ BIG := bigAt 1076 (by decide +kernel) (by decide +kernel)
theorem iw_yX8_text : Jvm.Cond.instanceMethod yX8_text ∈ BIG := bigAt 1074 (by decide +kernel) (by decide +kernel)
theorem vw_yX8_text : Jvm.Cond.selects RX8 yX8_text yX8_text ∈ BIG := bigAt 1075 (by decide +kernel) (by decide +kernel)
theorem cw_yX8_out : Jvm.Cond.code yX8_out cX8_out 2 (some .int) ∈ BIG := bigAt 1080 (by decide +kernel) (by decide +kernel)
theorem iw_yX8_out : Jvm.Cond.instanceMethod yX8_out ∈ BIG := bigAt 1078 (by decide +kernel) (by decide +kernel)
theorem vw_yX8_out : Jvm.Cond.selects RX8 yX8_out yX8_out ∈ BIG := bigAt 1079 (by decide +kernel) (by decide +kernel)
theorem cw_yX8_word : Jvm.Cond.code yX8_word cX8_word 2 (some .int) ∈ BIG := bigAt 1084 (by decide +kernel) (by decide +kernel)
theorem iw_yX8_word : Jvm.Cond.instanceMethod yX8_word ∈ BIG := bigAt 1082 (by decide +kernel) (by decide +kernel)
theorem vw_yX8_word : Jvm.Cond.selects RX8 yX8_word yX8_word ∈ BIG := bigAt 1083 (by decide +kernel) (by decide +kernel)
theorem cw_yX8_told : Jvm.Cond.code yX8_told cX8_told 2 (some .int) ∈ BIG := bigAt 1088 (by decide +kernel) (by decide +kernel)
theorem iw_yX8_told : Jvm.Cond.instanceMethod yX8_told ∈ BIG := bigAt 1086 (by decide +kernel) (by decide +kernel)
theorem vw_yX8_told : Jvm.Cond.selects RX8 yX8_told yX8_told ∈ BIG := bigAt 1087 (by decide +kernel) (by decide +kernel)
theorem cw_yX8_clear : Jvm.Cond.code yX8_clear cX8_clear 2 (some .int) ∈ BIG := bigAt 1092 (by decide +kernel) (by decide +kernel)
theorem iw_yX8_clear : Jvm.Cond.instanceMethod yX8_clear ∈ BIG := bigAt 1090 (by decide +kernel) (by decide +kernel)
theorem vw_yX8_clear : Jvm.Cond.selects RX8 yX8_clear yX8_clear ∈ BIG := bigAt 1091 (by decide +kernel) (by decide +kernel)
theorem cw_yX8_passes : Jvm.Cond.code yX8_passes cX8_passes 1 (some .boolean) ∈ BIG := bigAt 1108 (by decide +kernel) (by decide +kernel)
theorem iw_yX8_passes : Jvm.Cond.instanceMethod yX8_passes ∈ BIG := bigAt 1107 (by decide +kernel) (by decide +kernel)
theorem vw_yX8_passes : Jvm.Cond.selects RX8 yX8_passes yX8_passes ∈ BIG := bigAt 45 (by decide +kernel) (by decide +kernel)
theorem cw_yX8_isTwo : Jvm.Cond.code yX8_isTwo cX8_isTwo 2 (some .boolean) ∈ BIG := bigAt 1112 (by decide +kernel) (by decide +kernel)
theorem iw_yX8_isTwo : Jvm.Cond.instanceMethod yX8_isTwo ∈ BIG := bigAt 1111 (by decide +kernel) (by decide +kernel)
theorem vw_yX8_isTwo : Jvm.Cond.selects RX8 yX8_isTwo yX8_isTwo ∈ BIG := bigAt 46 (by decide +kernel) (by decide +kernel)
theorem cw_yX8_opens : Jvm.Cond.code yX8_opens cX8_opens 4 (some .boolean) ∈ BIG := bigAt 1104 (by decide +kernel) (by decide +kernel)
theorem iw_yX8_opens : Jvm.Cond.instanceMethod yX8_opens ∈ BIG := bigAt 1103 (by decide +kernel) (by decide +kernel)
theorem vw_yX8_opens : Jvm.Cond.selects RX8 yX8_opens yX8_opens ∈ BIG := bigAt 44 (by decide +kernel) (by decide +kernel)
theorem cw_yX8_isRow : Jvm.Cond.code yX8_isRow cX8_isRow 5 (some .boolean) ∈ BIG := bigAt 1100 (by decide +kernel) (by decide +kernel)
theorem iw_yX8_isRow : Jvm.Cond.instanceMethod yX8_isRow ∈ BIG := bigAt 1099 (by decide +kernel) (by decide +kernel)
theorem vw_yX8_isRow : Jvm.Cond.selects RX8 yX8_isRow yX8_isRow ∈ BIG := bigAt 43 (by decide +kernel) (by decide +kernel)
theorem cw_yX8_load : Jvm.Cond.code yX8_load cX8_load 4 none ∈ BIG := bigAt 1116 (by decide +kernel) (by decide +kernel)
theorem iw_yX8_load : Jvm.Cond.instanceMethod yX8_load ∈ BIG := bigAt 1115 (by decide +kernel) (by decide +kernel)
theorem vw_yX8_load : Jvm.Cond.selects RX8 yX8_load yX8_load ∈ BIG := bigAt 47 (by decide +kernel) (by decide +kernel)
theorem cw_yX8_isGood : Jvm.Cond.code yX8_isGood cX8_isGood 4 (some .boolean) ∈ BIG := bigAt 1120 (by decide +kernel) (by decide +kernel)
theorem iw_yX8_isGood : Jvm.Cond.instanceMethod yX8_isGood ∈ BIG := bigAt 1119 (by decide +kernel) (by decide +kernel)
theorem vw_yX8_isGood : Jvm.Cond.selects RX8 yX8_isGood yX8_isGood ∈ BIG := bigAt 48 (by decide +kernel) (by decide +kernel)
theorem cw_yX8_check : Jvm.Cond.code yX8_check cX8_check 7 (some .int) ∈ BIG := bigAt 1096 (by decide +kernel) (by decide +kernel)
theorem iw_yX8_check : Jvm.Cond.instanceMethod yX8_check ∈ BIG := bigAt 1094 (by decide +kernel) (by decide +kernel)
theorem vw_yX8_check : Jvm.Cond.selects RX8 yX8_check yX8_check ∈ BIG := bigAt 1095 (by decide +kernel) (by decide +kernel)
theorem cw_yX8_isPrime : Jvm.Cond.code yX8_isPrime cX8_isPrime 3 (some .boolean) ∈ BIG := bigAt 1127 (by decide +kernel) (by decide +kernel)
theorem sw_yX8_isPrime : Jvm.Cond.static yX8_isPrime ∈ BIG := bigAt 1126 (by decide +kernel) (by decide +kernel)
theorem cw_yX8_powers : Jvm.Cond.code yX8_powers cX8_powers 8 (some .int) ∈ BIG := bigAt 1145 (by decide +kernel) (by decide +kernel)
theorem sw_yX8_powers : Jvm.Cond.static yX8_powers ∈ BIG := bigAt 1144 (by decide +kernel) (by decide +kernel)
theorem cw_yX8_writes : Jvm.Cond.code yX8_writes cX8_writes 2 none ∈ BIG := bigAt 1139 (by decide +kernel) (by decide +kernel)
theorem iw_yX8_writes : Jvm.Cond.instanceMethod yX8_writes ∈ BIG := bigAt 1138 (by decide +kernel) (by decide +kernel)
theorem vw_yX8_writes : Jvm.Cond.selects RX8 yX8_writes yX8_writes ∈ BIG := bigAt 51 (by decide +kernel) (by decide +kernel)
theorem cw_yX8_writesNumber : Jvm.Cond.code yX8_writesNumber cX8_writesNumber 2 none ∈ BIG := bigAt 1135 (by decide +kernel) (by decide +kernel)
theorem iw_yX8_writesNumber : Jvm.Cond.instanceMethod yX8_writesNumber ∈ BIG := bigAt 1134 (by decide +kernel) (by decide +kernel)
theorem vw_yX8_writesNumber : Jvm.Cond.selects RX8 yX8_writesNumber yX8_writesNumber ∈ BIG := bigAt 50 (by decide +kernel) (by decide +kernel)
theorem cw_yX8_does : Jvm.Cond.code yX8_does cX8_does 4 (some .boolean) ∈ BIG := bigAt 1142 (by decide +kernel) (by decide +kernel)
theorem sw_yX8_does : Jvm.Cond.static yX8_does ∈ BIG := bigAt 1141 (by decide +kernel) (by decide +kernel)
theorem cw_yX8_certificate : Jvm.Cond.code yX8_certificate cX8_certificate 8 none ∈ BIG := bigAt 1131 (by decide +kernel) (by decide +kernel)
theorem iw_yX8_certificate : Jvm.Cond.instanceMethod yX8_certificate ∈ BIG := bigAt 1130 (by decide +kernel) (by decide +kernel)
theorem vw_yX8_certificate : Jvm.Cond.selects RX8 yX8_certificate yX8_certificate ∈ BIG := bigAt 49 (by decide +kernel) (by decide +kernel)
theorem cw_yX8_prove : Jvm.Cond.code yX8_prove cX8_prove 4 (some .int) ∈ BIG := bigAt 1124 (by decide +kernel) (by decide +kernel)
theorem iw_yX8_prove : Jvm.Cond.instanceMethod yX8_prove ∈ BIG := bigAt 1122 (by decide +kernel) (by decide +kernel)
theorem vw_yX8_prove : Jvm.Cond.selects RX8 yX8_prove yX8_prove ∈ BIG := bigAt 1123 (by decide +kernel) (by decide +kernel)
theorem cw_yJ6_numberOfLeadingZeros_0f7a4 : Jvm.Cond.code yJ6_numberOfLeadingZeros_0f7a4 cJ6_numberOfLeadingZeros_0f7a4 2 (some .int) ∈ BIG := bigAt 406 (by decide +kernel) (by decide +kernel)
theorem sw_yJ6_numberOfLeadingZeros_0f7a4 : Jvm.Cond.static yJ6_numberOfLeadingZeros_0f7a4 ∈ BIG := bigAt 405 (by decide +kernel) (by decide +kernel)
theorem cw_yJ6_numberOfTrailingZeros_0f7a4 : Jvm.Cond.code yJ6_numberOfTrailingZeros_0f7a4 cJ6_numberOfTrailingZeros_0f7a4 2 (some .int) ∈ BIG := bigAt 584 (by decide +kernel) (by decide +kernel)
theorem sw_yJ6_numberOfTrailingZeros_0f7a4 : Jvm.Cond.static yJ6_numberOfTrailingZeros_0f7a4 ∈ BIG := bigAt 583 (by decide +kernel) (by decide +kernel)
theorem cw_yJ9_max_7cf53 : Jvm.Cond.code yJ9_max_7cf53 cJ9_max_7cf53 2 (some .int) ∈ BIG := bigAt 82 (by decide +kernel) (by decide +kernel)
theorem sw_yJ9_max_7cf53 : Jvm.Cond.static yJ9_max_7cf53 ∈ BIG := bigAt 81 (by decide +kernel) (by decide +kernel)
theorem cw_yJ9_min_7cf53 : Jvm.Cond.code yJ9_min_7cf53 cJ9_min_7cf53 2 (some .int) ∈ BIG := bigAt 79 (by decide +kernel) (by decide +kernel)
theorem sw_yJ9_min_7cf53 : Jvm.Cond.static yJ9_min_7cf53 ∈ BIG := bigAt 78 (by decide +kernel) (by decide +kernel)
theorem cw_yJ7_rangeCheck_23922 : Jvm.Cond.code yJ7_rangeCheck_23922 cJ7_rangeCheck_23922 3 none ∈ BIG := bigAt 353 (by decide +kernel) (by decide +kernel)
theorem sw_yJ7_rangeCheck_23922 : Jvm.Cond.static yJ7_rangeCheck_23922 ∈ BIG := bigAt 352 (by decide +kernel) (by decide +kernel)
theorem cw_yJ7_fill_fda19 : Jvm.Cond.code yJ7_fill_fda19 cJ7_fill_fda19 5 none ∈ BIG := bigAt 350 (by decide +kernel) (by decide +kernel)
theorem sw_yJ7_fill_fda19 : Jvm.Cond.static yJ7_fill_fda19 ∈ BIG := bigAt 349 (by decide +kernel) (by decide +kernel)
theorem cw_yL_cell : Jvm.Cond.code yL_cell cL_cell 2 (some .int) ∈ BIG := bigAt 790 (by decide +kernel) (by decide +kernel)
theorem sw_yL_cell : Jvm.Cond.static yL_cell ∈ BIG := bigAt 789 (by decide +kernel) (by decide +kernel)
theorem nw_RX0 : Jvm.Cond.initialized RX0 ∈ BIG := bigAt 56 (by decide +kernel) (by decide +kernel)
theorem nw_RX1 : Jvm.Cond.initialized RX1 ∈ BIG := bigAt 55 (by decide +kernel) (by decide +kernel)
theorem nw_RX2 : Jvm.Cond.initialized RX2 ∈ BIG := bigAt 60 (by decide +kernel) (by decide +kernel)
theorem nw_RX3 : Jvm.Cond.initialized RX3 ∈ BIG := bigAt 59 (by decide +kernel) (by decide +kernel)
theorem nw_RX4 : Jvm.Cond.initialized RX4 ∈ BIG := bigAt 61 (by decide +kernel) (by decide +kernel)
theorem nw_RX5 : Jvm.Cond.initialized RX5 ∈ BIG := bigAt 57 (by decide +kernel) (by decide +kernel)
theorem nw_RX6 : Jvm.Cond.initialized RX6 ∈ BIG := bigAt 58 (by decide +kernel) (by decide +kernel)
theorem nw_RX7 : Jvm.Cond.initialized RX7 ∈ BIG := bigAt 53 (by decide +kernel) (by decide +kernel)
theorem nw_RX8 : Jvm.Cond.initialized RX8 ∈ BIG := bigAt 62 (by decide +kernel) (by decide +kernel)
theorem nw_RJ6 : Jvm.Cond.initialized RJ6 ∈ BIG := bigAt 65 (by decide +kernel) (by decide +kernel)
theorem nw_RJ9 : Jvm.Cond.initialized RJ9 ∈ BIG := bigAt 54 (by decide +kernel) (by decide +kernel)
theorem nw_RJ10 : Jvm.Cond.initialized RJ10 ∈ BIG := bigAt 63 (by decide +kernel) (by decide +kernel)
theorem nw_RJ7 : Jvm.Cond.initialized RJ7 ∈ BIG := bigAt 64 (by decide +kernel) (by decide +kernel)
theorem nw_RL : Jvm.Cond.initialized RL ∈ BIG := bigAt 52 (by decide +kernel) (by decide +kernel)
theorem ac_native : Jvm.Cond.native arraycopyName ∈ BIG := bigAt 338 (by decide +kernel) (by decide +kernel)
theorem ac_static : Jvm.Cond.static arraycopyName ∈ BIG := bigAt 337 (by decide +kernel) (by decide +kernel)
theorem ac_init : Jvm.Cond.initialized "java/lang/System" ∈ BIG := bigAt 63 (by decide +kernel) (by decide +kernel)
end
section
/-! ===== the state as one memory of ints: what stands in each object and row that the system ever has ===== -/
abbrev AV : Type := Int ⊕ Int ⊕ Nat
abbrev Mem : Type := Nat → Nat → Int
abbrev Lc : Type := List (Option AV)
abbrev Kt : Type := Nat → Lc → List AV → Mem → Prop
/-- kind and references of each of the 67 cells: kinds 0 .. 8 as in vwCl, 100 a row of ints, 101 a row of booleans -/
def shT : List (Nat × List Nat) := [
  (7, [1, 6, 39, 41, 43, 47, 21, 23, 25, 0]),
  (1, [0, 2, 3, 4, 5, 0, 0]), (100, []), (100, []), (100, []), (100, []),
  (0, [7, 9, 11, 13, 15, 17, 19]),
  (5, [8, 0]), (100, []), (5, [10, 0]), (100, []), (5, [12, 0]), (100, []), (5, [14, 0]), (100, []), (5, [16, 0]), (100, []), (5, [18, 0]), (100, []), (5, [20, 0]), (100, []),
  (5, [22, 0]), (100, []), (5, [24, 0]), (100, []), (5, [26, 0]), (100, []),
  (5, [28, 0]), (100, []), (5, [30, 0]), (100, []), (5, [32, 0]), (100, []), (5, [34, 0]), (100, []), (5, [36, 0]), (100, []), (5, [38, 0]), (100, []),
  (6, [40, 0]), (100, []),
  (3, [42, 0]), (100, []),
  (2, [44, 0, 45, 46, 0, 27, 29, 31, 33, 35, 37]), (100, []), (100, []), (100, []),
  (4, [48, 0, 49]), (100, []), (100, []),
  (8, [0, 0, 0, 51, 52, 53, 54, 55, 56, 57, 0, 0, 58, 59, 0, 0, 0, 60, 0, 0, 0, 61, 62, 63, 64, 65, 66, 0, 0]),
  (100, []), (100, []), (101, []), (100, []), (100, []), (100, []), (100, []), (100, []), (100, []), (100, []), (100, []), (100, []), (100, []), (100, []), (100, []), (100, [])]
def kdF (i : Nat) : Nat := match shT[i]? with
  | some q => q.1
  | none => 200
def rfF (i k : Nat) : Nat := match shT[i]? with
  | some q => q.2.getD k 0
  | none => 0
abbrev Nn : Type := Nat × Nat × Nat
/-- the lengths of the rows: n = (handles, cells, words) -/
def lnF (n : Nn) (i : Nat) : Nat := match i with
  | 2 => n.2.1
  | 3 => n.1 + 5
  | 4 => n.1 + 5
  | 5 => n.1
  | 40 => 1000
  | 42 => 960
  | 44 => n.2.2
  | 45 => n.2.2
  | 46 => n.2.2
  | 48 => n.2.2
  | 49 => 108
  | 51 => 15540
  | 52 => 37
  | 53 => 24
  | 54 => 24
  | 55 => 24
  | 56 => 8
  | 57 => 8
  | 58 => 1000
  | 59 => 970
  | 60 => 400
  | 61 => 220
  | 62 => 220
  | 63 => 220
  | 64 => 220
  | 65 => 220
  | 66 => 4000
  | _ => 130
def nfF (c : Nat) : Nat := match c with
  | 0 => 7
  | 1 => 7
  | 2 => 11
  | 3 => 2
  | 4 => 3
  | 5 => 2
  | 6 => 2
  | 7 => 10
  | 8 => 29
  | _ => 0
def tnF (c : Nat) : String := match c with
  | 0 => RX0
  | 1 => RX1
  | 2 => RX2
  | 3 => RX3
  | 4 => RX4
  | 5 => RX5
  | 6 => RX6
  | 7 => RX7
  | _ => RX8
def ttF (c : Nat) : u_T := match c with
  | 0 => TX0
  | 1 => TX1
  | 2 => TX2
  | 3 => TX3
  | 4 => TX4
  | 5 => TX5
  | 6 => TX6
  | 7 => TX7
  | _ => TX8
def tyF (c : Nat) : Nat → FieldType := match c with
  | 0 => tyX0
  | 1 => tyX1
  | 2 => tyX2
  | 3 => tyX3
  | 4 => tyX4
  | 5 => tyX5
  | 6 => tyX6
  | 7 => tyX7
  | _ => tyX8
def isRefT (t : FieldType) : Bool := match t with
  | .int => false
  | .boolean => false
  | _ => true
theorem shT_len : shT.length = 67 := rfl
theorem kdF_lt {i : Nat} (h : kdF i < 150) : i < 67 := by
  unfold kdF at h
  cases hq : shT[i]? with
  | none => rw [hq] at h; simp at h
  | some q =>
    have := (List.getElem?_eq_some_iff.mp hq).1
    rw [shT_len] at this
    exact this
/-- D, the classes of int and boolean rows, addresses, base, lengths -/
abbrev ZT : Type := va_G × ClassId × ClassId × (Nat → Nat) × Nat × Nn
def zA (Z : ZT) : Nat → Nat := Z.2.2.2.1
def zB (Z : ZT) : Nat → Prop := fun q => Z.2.2.2.2.1 ≤ q
def zN (Z : ZT) : Nn := Z.2.2.2.2.2
abbrev zT (Z : ZT) : List (ClassId × FieldType) := [(Z.2.1, .int), (Z.2.2.1, .boolean)]
def cvF (Z : ZT) (v : AV) : Value := match v with
  | .inl x => .int (Int32.ofInt x)
  | .inr (.inl x) => .long (Int64.ofInt x)
  | .inr (.inr o) => .ref (zA Z o)
def fldF (Z : ZT) (M : Mem) (i k : Nat) : Value := if isRefT (tyF (kdF i) k) then .ref (zA Z (rfF i k)) else .int (Int32.ofInt (M i k))
def cellF (Z : ZT) (M : Mem) (i : Nat) : va_E :=
  if kdF i = 100 then .inl (Z.2.1, lnF (zN Z) i, .inl (fun j => Int32.ofInt (M i j)))
  else if kdF i = 101 then .inl (Z.2.2.1, lnF (zN Z) i, .inl (fun j => Int32.ofInt (M i j)))
  else .inr (kdF i, (List.range (nfF (kdF i))).map (fldF Z M i))
def wldF (Z : ZT) (M : Mem) : va_W := (List.range 67).map (fun i => (zA Z i, cellF Z M i))
def up2 (M : Mem) (o k : Nat) (x : Int) : Mem := va_up M o (va_up (M o) k x)
theorem up2_o {M : Mem} {o k : Nat} {x : Int} : up2 M o k x o = va_up (M o) k x := by unfold up2 va_up; rw [if_pos rfl]
theorem up2_i {M : Mem} {o k i : Nat} {x : Int} (h : i ≠ o) : up2 M o k x i = M i := by unfold up2 va_up; rw [if_neg h]
theorem up2_s {M : Mem} {o k : Nat} {x : Int} : up2 M o k x o k = x := by rw [up2_o]; unfold va_up; rw [if_pos rfl]
theorem up2_k {M : Mem} {o k j : Nat} {x : Int} (h : j ≠ k) : up2 M o k x o j = M o j := by rw [up2_o]; unfold va_up; rw [if_neg h]
theorem wldF_at (Z : ZT) (M : Mem) {i : Nat} (h : i < 67) : (wldF Z M)[i]? = some (zA Z i, cellF Z M i) := by
  unfold wldF
  rw [List.getElem?_map, List.getElem?_range h]
  rfl
theorem cellF_i (Z : ZT) (M : Mem) {i : Nat} (h : kdF i = 100) : cellF Z M i = .inl (Z.2.1, lnF (zN Z) i, .inl (fun j => Int32.ofInt (M i j))) := by unfold cellF; rw [if_pos h]
theorem cellF_z (Z : ZT) (M : Mem) {i : Nat} (h : kdF i = 101) : cellF Z M i = .inl (Z.2.2.1, lnF (zN Z) i, .inl (fun j => Int32.ofInt (M i j))) := by unfold cellF; rw [if_neg (by omega), if_pos h]
theorem cellF_o (Z : ZT) (M : Mem) {i : Nat} (h : kdF i < 100) : cellF Z M i = .inr (kdF i, (List.range (nfF (kdF i))).map (fldF Z M i)) := by unfold cellF; rw [if_neg (by omega), if_neg (by omega)]
theorem wldF_set (Z : ZT) (M M' : Mem) {o : Nat} {e : va_E} (h : o < 67) (he : e = cellF Z M' o) (hM : ∀ i, i < 67 → i ≠ o → cellF Z M' i = cellF Z M i) : (wldF Z M).set o (zA Z o, e) = wldF Z M' := by
  apply List.ext_getElem?
  intro i
  rw [List.getElem?_set]
  by_cases hi : o = i
  · subst hi
    rw [if_pos rfl, wldF_at Z M' h]
    have : o < (wldF Z M).length := by unfold wldF; simpa using h
    rw [if_pos this, he]
  · rw [if_neg hi]
    by_cases h6 : i < 67
    · rw [wldF_at Z M h6, wldF_at Z M' h6, hM i h6 (fun e => hi e.symm)]
    · have a1 : (wldF Z M)[i]? = none := by unfold wldF; simpa using h6
      have a2 : (wldF Z M')[i]? = none := by unfold wldF; simpa using h6
      rw [a1, a2]
theorem cellF_congr (Z : ZT) {M M' : Mem} {i : Nat} (h : M' i = M i) : cellF Z M' i = cellF Z M i := by
  unfold cellF fldF
  rw [h]
theorem cellF_fld (Z : ZT) (M : Mem) {o k : Nat} (x : Int) (ho : kdF o < 100) (hk : k < nfF (kdF o)) (hr : isRefT (tyF (kdF o) k) = false) :
    (.inr (kdF o, ((List.range (nfF (kdF o))).map (fldF Z M o)).set k (.int (Int32.ofInt x))) : va_E) = cellF Z (up2 M o k x) o := by
  rw [cellF_o Z _ ho]
  congr 2
  apply List.ext_getElem?
  intro j
  rw [List.getElem?_set]
  by_cases hj : k = j
  · subst hj
    rw [if_pos rfl, if_pos (by simpa using hk), List.getElem?_map, List.getElem?_range hk]
    simp [fldF, hr, up2_s]
  · rw [if_neg hj, List.getElem?_map, List.getElem?_map]
    by_cases h6 : j < nfF (kdF o)
    · rw [List.getElem?_range h6]
      simp only [Option.map_some]
      congr 1
      unfold fldF
      rw [up2_k (fun e => hj e.symm)]
    · have a1 : (List.range (nfF (kdF o)))[j]? = none := by simpa using h6
      rw [a1]
      rfl
theorem cellF_row (Z : ZT) (M : Mem) {o k : Nat} (x : Int) (ho : kdF o = 100) :
    (.inl (Z.2.1, lnF (zN Z) o, .inl (upd (fun j => Int32.ofInt (M o j)) k (Int32.ofInt x))) : va_E) = cellF Z (up2 M o k x) o := by
  rw [cellF_i Z _ ho]
  congr 4
  funext j
  by_cases hj : j = k
  · subst hj
    simp [upd, up2_s]
  · rw [up2_k hj]
    simp [upd, hj]
theorem cellF_rowZ (Z : ZT) (M : Mem) {o k : Nat} (x : Int) (ho : kdF o = 101) :
    (.inl (Z.2.2.1, lnF (zN Z) o, .inl (upd (fun j => Int32.ofInt (M o j)) k (Int32.ofInt x))) : va_E) = cellF Z (up2 M o k x) o := by
  rw [cellF_z Z _ ho]
  congr 4
  funext j
  by_cases hj : j = k
  · subst hj
    simp [upd, up2_s]
  · rw [up2_k hj]
    simp [upd, hj]
/-- the addresses are apart, and new -/
def adOk (Z : ZT) : Prop := (∀ i j : Nat, i < 67 → j < 67 → zA Z i = zA Z j → i = j) ∧ ∀ i : Nat, i < 67 → zB Z (zA Z i)
theorem adOk.D {Z : ZT} (h : adOk Z) (M : Mem) : va_D (zB Z) (wldF Z M) := by
  have key : ∀ (i : Nat) (q : Nat × va_E), (wldF Z M)[i]? = some q → i < 67 ∧ q.1 = zA Z i := by
    intro i q hq
    by_cases h6 : i < 67
    · rw [wldF_at Z M h6] at hq
      cases hq
      exact ⟨h6, rfl⟩
    · have a1 : (wldF Z M)[i]? = none := by unfold wldF; simpa using h6
      rw [a1] at hq
      cases hq
  refine ⟨fun i j p q hi hj e => ?_, fun k q hk => ?_⟩
  · obtain ⟨a1, a2⟩ := key i p hi
    obtain ⟨b1, b2⟩ := key j q hj
    exact h.1 i j a1 b1 (by rw [← a2, ← b2]; exact e)
  · obtain ⟨a1, a2⟩ := key k q hk
    rw [a2]
    exact h.2 k a1
/-- what the tables know of the nine kinds of object -/
theorem kindF (c : Nat) (h : c < 9) : vwCl[c]? = some (tnF c, ttF c, nfF c) ∧ (∀ w ∈ u_ws (tnF c) (ttF c) (nfF c), w ∈ BIG) ∧ (∀ k, k < nfF c → parseFieldDescriptor (ttF c k).2.2.1 = some (tyF c k)) ∧ (∀ a, a < nfF c → ∀ b, b < nfF c → a ≠ b → (ttF c a).2.1 ≠ (ttF c b).2.1) := by
  match c, h with
  | 0, _ => exact ⟨rfl, bigU0, tyX0_ok, nmX0⟩
  | 1, _ => exact ⟨rfl, bigU1, tyX1_ok, nmX1⟩
  | 2, _ => exact ⟨rfl, bigU2, tyX2_ok, nmX2⟩
  | 3, _ => exact ⟨rfl, bigU3, tyX3_ok, nmX3⟩
  | 4, _ => exact ⟨rfl, bigU4, tyX4_ok, nmX4⟩
  | 5, _ => exact ⟨rfl, bigU5, tyX5_ok, nmX5⟩
  | 6, _ => exact ⟨rfl, bigU6, tyX6_ok, nmX6⟩
  | 7, _ => exact ⟨rfl, bigU7, tyX7_ok, nmX7⟩
  | 8, _ => exact ⟨rfl, bigU8, tyX8_ok, nmX8⟩
end
section
/-! ===== one instruction over the memory: what must hold for it to go on, and where it goes on ===== -/
def inR (x : Int) : Prop := -2147483648 ≤ x ∧ x < 2147483648
def inL (x : Int) : Prop := -9223372036854775808 ≤ x ∧ x < 9223372036854775808
def fLs {α : Type} (l : List α) (k : List α → Prop) : Prop := match l with
  | [] => k []
  | a :: r => fLs r (fun r2 => k (a :: r2))
def lkN {α : Type _} (l : List (Nat × α)) (n : Nat) : Option α := match l with
  | [] => none
  | (a, b) :: r => cond (Nat.beq n a) (some b) (lkN r n)
def isLng (a : Option AV) : Bool := match a with
  | some (.inr (.inl _)) => true
  | _ => false
def sv1 (l : Lc) (k : Nat) (v : AV) : Lc := match l, k with
  | [], _ => []
  | _ :: r, 0 => some v :: r
  | some (.inr (.inl _)) :: r, 1 => none :: sv1 r 0 v
  | a :: r, 1 => a :: sv1 r 0 v
  | a :: r, k + 2 => a :: sv1 r (k + 1) v
def sv2 (l : Lc) (k : Nat) (v : AV) : Lc := match l, k with
  | [], _ => []
  | [_], 0 => [some v]
  | _ :: _ :: r, 0 => some v :: none :: r
  | some (.inr (.inl _)) :: r, 1 => none :: sv2 r 0 v
  | a :: r, 1 => a :: sv2 r 0 v
  | a :: r, k + 2 => a :: sv2 r (k + 1) v
def bAnd (x y : Int) : Int := (Int32.ofInt x &&& Int32.ofInt y).toInt
def bOr (x y : Int) : Int := (Int32.ofInt x ||| Int32.ofInt y).toInt
def bXor (x y : Int) : Int := (Int32.ofInt x ^^^ Int32.ofInt y).toInt
def lc3 (x y : Int) : Int := if y < x then 1 else if x = y then 0 else -1
abbrev Tt : Type := Nat → Option (Instr × Nat × List Nat)
/-- a contract: the type of its ghost, how many arguments, what must hold, what holds behind it (no answer, or an int) -/
abbrev Call : Type 1 := (G : Type) × (Nat × (G → List AV → Mem → Prop) × ((G → List AV → Mem → Mem → Prop) ⊕ (G → List AV → Mem → Int → Mem → Prop)))
/-- fields (pool number: kind of object, slot, what: 0 an int, 1 a boolean, 2 a reference to the next cell, 4 a reference, 3 an int that is only read; the cell referred to), ints, longs, calls (receiver's kind; none: static) -/
abbrev Pool : Type 1 := List (Nat × Nat × Nat × Nat × Nat) × List (Nat × Int) × List (Nat × Int) × List (Nat × Option Nat × Call)
abbrev Rets : Type := Nat × (Mem → Prop) × (Int → Mem → Prop)
def s_load (K : Kt) (nx k : Nat) (lc : Lc) (st : List AV) (M : Mem) : Prop := match lc[k]? with
  | some (some v) => K nx lc (v :: st) M
  | _ => False
def s_iload (K : Kt) (nx k : Nat) (lc : Lc) (st : List AV) (M : Mem) : Prop := match lc[k]? with
  | some (some (.inl x)) => K nx lc (.inl x :: st) M
  | _ => False
def s_lload (K : Kt) (nx k : Nat) (lc : Lc) (st : List AV) (M : Mem) : Prop := match lc[k]? with
  | some (some (.inr (.inl x))) => K nx lc (.inr (.inl x) :: st) M
  | _ => False
def s_aload (K : Kt) (nx k : Nat) (lc : Lc) (st : List AV) (M : Mem) : Prop := match lc[k]? with
  | some (some (.inr (.inr x))) => K nx lc (.inr (.inr x) :: st) M
  | _ => False
def s_istore (K : Kt) (nx k : Nat) (lc : Lc) (st : List AV) (M : Mem) : Prop := match st with
  | .inl x :: r => fLs (sv1 lc k (.inl x)) (fun l2 => K nx l2 r M)
  | _ => False
def s_astore (K : Kt) (nx k : Nat) (lc : Lc) (st : List AV) (M : Mem) : Prop := match st with
  | .inr (.inr x) :: r => fLs (sv1 lc k (.inr (.inr x))) (fun l2 => K nx l2 r M)
  | _ => False
def s_lstore (K : Kt) (nx k : Nat) (lc : Lc) (st : List AV) (M : Mem) : Prop := match st with
  | .inr (.inl x) :: r => fLs (sv2 lc k (.inr (.inl x))) (fun l2 => K nx l2 r M)
  | _ => False
def s_iinc (K : Kt) (nx k : Nat) (n : Int) (lc : Lc) (st : List AV) (M : Mem) : Prop := match lc[k]? with
  | some (some (.inl x)) => fLs (sv1 lc k (.inl (x + n))) (fun l2 => K nx l2 st M)
  | _ => False
def s_iadd (K : Kt) (nx : Nat) (lc : Lc) (st : List AV) (M : Mem) : Prop := match st with
  | .inl y :: .inl x :: r => K nx lc (.inl (x + y) :: r) M
  | _ => False
def s_isub (K : Kt) (nx : Nat) (lc : Lc) (st : List AV) (M : Mem) : Prop := match st with
  | .inl y :: .inl x :: r => K nx lc (.inl (x - y) :: r) M
  | _ => False
def s_imul (K : Kt) (nx : Nat) (lc : Lc) (st : List AV) (M : Mem) : Prop := match st with
  | .inl y :: .inl x :: r => K nx lc (.inl (x * y) :: r) M
  | _ => False
def s_iand (K : Kt) (nx : Nat) (lc : Lc) (st : List AV) (M : Mem) : Prop := match st with
  | .inl y :: .inl x :: r => K nx lc (.inl (bAnd x y) :: r) M
  | _ => False
def s_ior (K : Kt) (nx : Nat) (lc : Lc) (st : List AV) (M : Mem) : Prop := match st with
  | .inl y :: .inl x :: r => K nx lc (.inl (bOr x y) :: r) M
  | _ => False
def s_ixor (K : Kt) (nx : Nat) (lc : Lc) (st : List AV) (M : Mem) : Prop := match st with
  | .inl y :: .inl x :: r => K nx lc (.inl (bXor x y) :: r) M
  | _ => False
def s_idiv (K : Kt) (nx : Nat) (lc : Lc) (st : List AV) (M : Mem) : Prop := match st with
  | .inl y :: .inl x :: r => And (0 ≤ x ∧ 0 < y ∧ inR x ∧ inR y) (K nx lc (.inl (x / y) :: r) M)
  | _ => False
def s_irem (K : Kt) (nx : Nat) (lc : Lc) (st : List AV) (M : Mem) : Prop := match st with
  | .inl y :: .inl x :: r => And (0 ≤ x ∧ 0 < y ∧ inR x ∧ inR y) (K nx lc (.inl (x % y) :: r) M)
  | _ => False
def s_ishl (K : Kt) (nx : Nat) (lc : Lc) (st : List AV) (M : Mem) : Prop := match st with
  | .inl y :: .inl x :: r => And (0 ≤ y ∧ y < 32) (K nx lc (.inl (x * 2 ^ y.toNat) :: r) M)
  | _ => False
def s_ishr (K : Kt) (nx : Nat) (lc : Lc) (st : List AV) (M : Mem) : Prop := match st with
  | .inl y :: .inl x :: r => And (inR x ∧ 0 ≤ y ∧ y < 32) (K nx lc (.inl (x / 2 ^ y.toNat) :: r) M)
  | _ => False
def s_iushr (K : Kt) (nx : Nat) (lc : Lc) (st : List AV) (M : Mem) : Prop := match st with
  | .inl y :: .inl x :: r => And (inR x ∧ 0 ≤ x ∧ 0 ≤ y ∧ y < 32) (K nx lc (.inl (x / 2 ^ y.toNat) :: r) M)
  | _ => False
def s_ladd (K : Kt) (nx : Nat) (lc : Lc) (st : List AV) (M : Mem) : Prop := match st with
  | .inr (.inl y) :: .inr (.inl x) :: r => K nx lc (.inr (.inl (x + y)) :: r) M
  | _ => False
def s_lsub (K : Kt) (nx : Nat) (lc : Lc) (st : List AV) (M : Mem) : Prop := match st with
  | .inr (.inl y) :: .inr (.inl x) :: r => K nx lc (.inr (.inl (x - y)) :: r) M
  | _ => False
def s_lmul (K : Kt) (nx : Nat) (lc : Lc) (st : List AV) (M : Mem) : Prop := match st with
  | .inr (.inl y) :: .inr (.inl x) :: r => K nx lc (.inr (.inl (x * y)) :: r) M
  | _ => False
def s_ldiv (K : Kt) (nx : Nat) (lc : Lc) (st : List AV) (M : Mem) : Prop := match st with
  | .inr (.inl y) :: .inr (.inl x) :: r => And (0 ≤ x ∧ 0 < y ∧ inL x ∧ inL y) (K nx lc (.inr (.inl (x / y)) :: r) M)
  | _ => False
def s_lrem (K : Kt) (nx : Nat) (lc : Lc) (st : List AV) (M : Mem) : Prop := match st with
  | .inr (.inl y) :: .inr (.inl x) :: r => And (0 ≤ x ∧ 0 < y ∧ inL x ∧ inL y) (K nx lc (.inr (.inl (x % y)) :: r) M)
  | _ => False
def s_lcmp (K : Kt) (nx : Nat) (lc : Lc) (st : List AV) (M : Mem) : Prop := match st with
  | .inr (.inl y) :: .inr (.inl x) :: r => And (inL x ∧ inL y) (K nx lc (.inl (lc3 x y) :: r) M)
  | _ => False
def s_lshr (K : Kt) (nx : Nat) (lc : Lc) (st : List AV) (M : Mem) : Prop := match st with
  | .inl y :: .inr (.inl x) :: r => And (inL x ∧ 0 ≤ y ∧ y < 64) (K nx lc (.inr (.inl (x / 2 ^ y.toNat)) :: r) M)
  | _ => False
def s_ineg (K : Kt) (nx : Nat) (lc : Lc) (st : List AV) (M : Mem) : Prop := match st with
  | .inl x :: r => K nx lc (.inl (-x) :: r) M
  | _ => False
def s_lneg (K : Kt) (nx : Nat) (lc : Lc) (st : List AV) (M : Mem) : Prop := match st with
  | .inr (.inl x) :: r => K nx lc (.inr (.inl (-x)) :: r) M
  | _ => False
def s_i2l (K : Kt) (nx : Nat) (lc : Lc) (st : List AV) (M : Mem) : Prop := match st with
  | .inl x :: r => And (inR x) (K nx lc (.inr (.inl x) :: r) M)
  | _ => False
def s_l2i (K : Kt) (nx : Nat) (lc : Lc) (st : List AV) (M : Mem) : Prop := match st with
  | .inr (.inl x) :: r => K nx lc (.inl x :: r) M
  | _ => False
def s_dup (K : Kt) (nx : Nat) (lc : Lc) (st : List AV) (M : Mem) : Prop := match st with
  | .inl x :: r => K nx lc (.inl x :: .inl x :: r) M
  | .inr (.inr x) :: r => K nx lc (.inr (.inr x) :: .inr (.inr x) :: r) M
  | _ => False
def s_pop (K : Kt) (nx : Nat) (lc : Lc) (st : List AV) (M : Mem) : Prop := match st with
  | .inl _ :: r => K nx lc r M
  | .inr (.inr _) :: r => K nx lc r M
  | _ => False
def s_dup2 (K : Kt) (nx : Nat) (lc : Lc) (st : List AV) (M : Mem) : Prop := match st with
  | .inl y :: .inr (.inr x) :: r => K nx lc (.inl y :: .inr (.inr x) :: .inl y :: .inr (.inr x) :: r) M
  | _ => False
/-- a comparison of x and y: to the target, or on -/
def s_br (c : ClassFile.Cond) (x y : Int) (A B : Prop) : Prop := match c with
  | .eq => And (inR x ∧ inR y) (And (x = y → A) (x ≠ y → B))
  | .ne => And (inR x ∧ inR y) (And (x ≠ y → A) (x = y → B))
  | .lt => And (inR x ∧ inR y) (And (x < y → A) (y ≤ x → B))
  | .ge => And (inR x ∧ inR y) (And (y ≤ x → A) (x < y → B))
  | .gt => And (inR x ∧ inR y) (And (y < x → A) (x ≤ y → B))
  | .le => And (inR x ∧ inR y) (And (x ≤ y → A) (y < x → B))
def s_if (c : ClassFile.Cond) (K : Kt) (nx : Nat) (tg : List Nat) (lc : Lc) (st : List AV) (M : Mem) : Prop := match st, tg with
  | .inl x :: r, [t] => s_br c x 0 (K t lc r M) (K nx lc r M)
  | _, _ => False
def s_icmp (c : ClassFile.Cond) (K : Kt) (nx : Nat) (tg : List Nat) (lc : Lc) (st : List AV) (M : Mem) : Prop := match st, tg with
  | .inl y :: .inl x :: r, [t] => s_br c x y (K t lc r M) (K nx lc r M)
  | _, _ => False
def s_goto (K : Kt) (tg : List Nat) (lc : Lc) (st : List AV) (M : Mem) : Prop := match tg with
  | [t] => K t lc st M
  | _ => False
/-- a switch: lo, lo + 1 .. go to the targets, all else to the default -/
def s_sws (K : Nat → Prop) (x : Int) (lo : Int) (ts : List Nat) : Prop := match ts with
  | [] => True
  | t :: r => And (x = lo → K t) (s_sws K x (lo + 1) r)
def s_sw (lo hi : Int) (K : Kt) (tg : List Nat) (lc : Lc) (st : List AV) (M : Mem) : Prop := match st, tg with
  | .inl x :: r, d :: ts => And (inR x) (And ((x < lo ∨ hi < x) → K d lc r M) (s_sws (fun t => K t lc r M) x lo ts))
  | _, _ => False
def s_getf (P : Pool) (ix : Nat) (K : Kt) (nx : Nat) (lc : Lc) (st : List AV) (M : Mem) : Prop := match lkN P.1 ix, st with
  | some (c, _, 4, t), .inr (.inr o) :: r => And (kdF o = c) (K nx lc (.inr (.inr t) :: r) M)
  | some (c, _, 2, _), .inr (.inr o) :: r => And (kdF o = c) (K nx lc (.inr (.inr (o + 1)) :: r) M)
  | some (c, k, _, _), .inr (.inr o) :: r => And (kdF o = c) (K nx lc (.inl (M o k) :: r) M)
  | _, _ => False
def s_putf (P : Pool) (ix : Nat) (K : Kt) (nx : Nat) (lc : Lc) (st : List AV) (M : Mem) : Prop := match lkN P.1 ix, st with
  | some (c, k, 0, _), .inl x :: .inr (.inr o) :: r => And (kdF o = c) (K nx lc r (up2 M o k x))
  | some (c, k, 1, _), .inl x :: .inr (.inr o) :: r => And (kdF o = c ∧ (x = 0 ∨ x = 1)) (K nx lc r (up2 M o k x))
  | _, _ => False
def s_ald (kd : Nat) (n : Nn) (K : Kt) (nx : Nat) (lc : Lc) (st : List AV) (M : Mem) : Prop := match st with
  | .inl i :: .inr (.inr a) :: r => And (kdF a = kd ∧ 0 ≤ i ∧ i < (lnF n a : Int)) (K nx lc (.inl (M a i.toNat) :: r) M)
  | _ => False
def s_iast (n : Nn) (K : Kt) (nx : Nat) (lc : Lc) (st : List AV) (M : Mem) : Prop := match st with
  | .inl x :: .inl i :: .inr (.inr a) :: r => And (kdF a = 100 ∧ 0 ≤ i ∧ i < (lnF n a : Int)) (K nx lc r (up2 M a i.toNat x))
  | _ => False
def s_bast (n : Nn) (K : Kt) (nx : Nat) (lc : Lc) (st : List AV) (M : Mem) : Prop := match st with
  | .inl x :: .inl i :: .inr (.inr a) :: r => And (kdF a = 101 ∧ 0 ≤ i ∧ i < (lnF n a : Int) ∧ (x = 0 ∨ x = 1)) (K nx lc r (up2 M a i.toNat x))
  | _ => False
def s_alen (n : Nn) (K : Kt) (nx : Nat) (lc : Lc) (st : List AV) (M : Mem) : Prop := match st with
  | .inr (.inr a) :: r => And (kdF a = 100) (K nx lc (.inl (lnF n a : Int) :: r) M)
  | _ => False
def splA (n : Nat) (acc st : List AV) (k : List AV → List AV → Prop) : Prop := match n, st with
  | 0, st => k acc st
  | m + 1, v :: r => splA m (v :: acc) r k
  | _ + 1, [] => False
def catA (l : List AV) : Nat := match l with
  | [] => 0
  | .inr (.inl _) :: r => catA r + 2
  | _ :: r => catA r + 1
def s_go (c : Call) (vs rest : List AV) (K : Kt) (nx : Nat) (lc : Lc) (M : Mem) : Prop := match c.2.2.2 with
  | .inl pv => ∃ g : c.1, And (c.2.2.1 g vs M) (∀ M' : Mem, pv g vs M M' → K nx lc rest M')
  | .inr pi => ∃ g : c.1, And (c.2.2.1 g vs M) (∀ (x : Int) (M' : Mem), pi g vs M x M' → K nx lc (.inl x :: rest) M')
def s_rcv (c : Nat) (vs : List AV) (A : Prop) : Prop := match vs with
  | .inr (.inr o) :: _ => And (kdF o = c) A
  | _ => False
def noLng (l : List AV) : Bool := match l with
  | [] => true
  | .inr (.inl _) :: _ => false
  | _ :: r => noLng r
def okA (vs rest : List AV) : Bool := cond (Nat.ble (catA rest) 8) (noLng vs) false
def s_inv (P : Pool) (st? : Bool) (ix : Nat) (K : Kt) (nx : Nat) (lc : Lc) (st : List AV) (M : Mem) : Prop := match lkN P.2.2.2 ix, st? with
  | some (none, c), true => splA c.2.1 [] st (fun vs rest => cond (okA vs rest) (s_go c vs rest K nx lc M) False)
  | some (some kd, c), false => splA c.2.1 [] st (fun vs rest => cond (okA vs rest) (s_rcv kd vs (s_go c vs rest K nx lc M)) False)
  | _, _ => False
def s_iret (R : Rets) (st : List AV) (M : Mem) : Prop := match R.1, st with
  | 1, [.inl x] => Or (R.2.2 x M) False
  | 2, [.inl x] => And (x = 0 ∨ x = 1) (Or (R.2.2 x M) False)
  | _, _ => False
def s_ret (R : Rets) (st : List AV) (M : Mem) : Prop := match R.1, st with
  | 0, [] => Or (R.2.1 M) False
  | _, _ => False
def s_ldi (l : List (Nat × Int)) (ix : Nat) (K : Kt) (nx : Nat) (lc : Lc) (st : List AV) (M : Mem) : Prop := match lkN l ix with
  | some v => K nx lc (.inl v :: st) M
  | none => False
def s_ldl (l : List (Nat × Int)) (ix : Nat) (K : Kt) (nx : Nat) (lc : Lc) (st : List AV) (M : Mem) : Prop := match lkN l ix with
  | some v => K nx lc (.inr (.inl v) :: st) M
  | none => False
def s_ins (P : Pool) (R : Rets) (n : Nn) (K : Kt) (i : Instr) (nx : Nat) (tg : List Nat) (lc : Lc) (st : List AV) (M : Mem) : Prop := match i with
  | .iconst v => K nx lc (.inl v :: st) M
  | .bipush v => K nx lc (.inl v :: st) M
  | .sipush v => K nx lc (.inl v :: st) M
  | .ldc ix => s_ldi P.2.1 ix K nx lc st M
  | .ldc_w ix => s_ldi P.2.1 ix K nx lc st M
  | .ldc2_w ix => s_ldl P.2.2.1 ix K nx lc st M
  | .lconst v => K nx lc (.inr (.inl (v.val : Int)) :: st) M
  | .iload k => s_iload K nx k lc st M
  | .iload_n k => s_iload K nx k.val lc st M
  | .lload k => s_lload K nx k lc st M
  | .lload_n k => s_lload K nx k.val lc st M
  | .aload k => s_aload K nx k lc st M
  | .aload_n k => s_aload K nx k.val lc st M
  | .istore k => s_istore K nx k lc st M
  | .istore_n k => s_istore K nx k.val lc st M
  | .lstore k => s_lstore K nx k lc st M
  | .lstore_n k => s_lstore K nx k.val lc st M
  | .astore k => s_astore K nx k lc st M
  | .astore_n k => s_astore K nx k.val lc st M
  | .iinc k v => s_iinc K nx k v lc st M
  | .iadd => s_iadd K nx lc st M
  | .isub => s_isub K nx lc st M
  | .imul => s_imul K nx lc st M
  | .iand => s_iand K nx lc st M
  | .ior => s_ior K nx lc st M
  | .ixor => s_ixor K nx lc st M
  | .idiv => s_idiv K nx lc st M
  | .irem => s_irem K nx lc st M
  | .ishl => s_ishl K nx lc st M
  | .ishr => s_ishr K nx lc st M
  | .iushr => s_iushr K nx lc st M
  | .ineg => s_ineg K nx lc st M
  | .ladd => s_ladd K nx lc st M
  | .lsub => s_lsub K nx lc st M
  | .lmul => s_lmul K nx lc st M
  | .ldiv => s_ldiv K nx lc st M
  | .lrem => s_lrem K nx lc st M
  | .lneg => s_lneg K nx lc st M
  | .lshr => s_lshr K nx lc st M
  | .lcmp => s_lcmp K nx lc st M
  | .i2l => s_i2l K nx lc st M
  | .l2i => s_l2i K nx lc st M
  | .dup => s_dup K nx lc st M
  | .dup2 => s_dup2 K nx lc st M
  | .pop => s_pop K nx lc st M
  | .ifCond c _ => s_if c K nx tg lc st M
  | .if_icmp c _ => s_icmp c K nx tg lc st M
  | .goto _ => s_goto K tg lc st M
  | .tableswitch _ lo hi _ => s_sw lo hi K tg lc st M
  | .getfield ix => s_getf P ix K nx lc st M
  | .putfield ix => s_putf P ix K nx lc st M
  | .iaload => s_ald 100 n K nx lc st M
  | .baload => s_ald 101 n K nx lc st M
  | .iastore => s_iast n K nx lc st M
  | .bastore => s_bast n K nx lc st M
  | .arraylength => s_alen n K nx lc st M
  | .invokevirtual ix => s_inv P false ix K nx lc st M
  | .invokestatic ix => s_inv P true ix K nx lc st M
  | .ireturn => s_iret R st M
  | .return_ => s_ret R st M
  | _ => False
def s_one (T : Tt) (P : Pool) (R : Rets) (n : Nn) (K : Kt) (pc : Nat) (lc : Lc) (st : List AV) (M : Mem) : Prop := match T pc with
  | some (i, nx, tg) => s_ins P R n K i nx tg lc st M
  | none => False
def elN (l : List Nat) (n : Nat) : Bool := match l with
  | [] => false
  | a :: r => cond (Nat.beq n a) true (elN r n)
/-- k instructions, or up to a stop: there (and when they are used up) 'aw' is wanted -/
def s_run (T : Tt) (P : Pool) (R : Rets) (n : Nn) (aw : Kt) (stops : List Nat) (k : Nat) : Kt := match k with
  | 0 => aw
  | k + 1 => s_one T P R n (fun pc lc st M => cond (elN stops pc) (And (aw pc lc st M) True) (s_run T P R n aw stops k pc lc st M))
def entL (vs : List AV) (nL : Nat) : Lc := vs.map some ++ List.replicate (nL - vs.length) none
def rvF (c : Call) (g : c.1) (vs : List AV) (M0 : Mem) (rt : Nat) : Rets := (rt, (fun M => match c.2.2.2 with
  | .inl pv => pv g vs M0 M
  | .inr _ => False), (fun x M => match c.2.2.2 with
  | .inl _ => False
  | .inr pi => pi g vs M0 x M))
/-- the method keeps its contract, by its own instructions and its callees' contracts -/
def Ver (T : Tt) (P : Pool) (rt nL : Nat) (n : Nn) (c : Call) : Prop := ∀ (g : c.1) (vs : List AV) (M0 : Mem), c.2.2.1 g vs M0 → ∀ aw : Kt, (∀ (k : Nat) (stops : List Nat) (pc : Nat) (lc : Lc) (st : List AV) (M : Mem), s_run T P (rvF c g vs M0 rt) n aw stops k pc lc st M → aw pc lc st M) → aw 0 (entL vs nL) [] M0
end
section
/-! ===== the machine does what the steps say ===== -/
theorem fLs_iff {α : Type} (l : List α) : ∀ k : List α → Prop, fLs l k ↔ k l := by
  induction l with
  | nil => intro k; exact Iff.rfl
  | cons a r ih => intro k; unfold fLs; exact ih _
theorem lkN_mem {α : Type _} {l : List (Nat × α)} {n : Nat} {b : α} (h : lkN l n = some b) : (n, b) ∈ l := by
  induction l with
  | nil => cases h
  | cons q r ih =>
    obtain ⟨a, v⟩ := q
    unfold lkN at h
    cases hb : Nat.beq n a with
    | true =>
      rw [hb] at h
      have : n = a := Nat.eq_of_beq_eq_true hb
      cases h
      rw [this]
      exact List.mem_cons_self
    | false =>
      rw [hb] at h
      exact List.mem_cons_of_mem _ (ih h)
theorem sv1_len (lc : Lc) : ∀ (k : Nat) (v : AV), (sv1 lc k v).length = lc.length := by
  induction lc with
  | nil => intro k v; unfold sv1; rfl
  | cons a r ih =>
    intro k v
    match k with
    | 0 => simp [sv1]
    | 1 => rcases a with _ | (x | x | x) <;> simp [sv1, ih]
    | k + 2 => simp [sv1, ih]
theorem sv1_at (lc : Lc) : ∀ (k j : Nat) (v w : AV), (sv1 lc k v)[j]? = some (some w) → (j = k ∧ w = v) ∨ (j ≠ k ∧ lc[j]? = some (some w) ∧ (j + 1 = k → isLng (some w) = false)) := by
  induction lc with
  | nil => intro k j v w h; simp [sv1] at h
  | cons a r ih =>
    intro k j v w h
    match k, j with
    | 0, 0 => simp [sv1] at h; exact Or.inl ⟨rfl, h.symm⟩
    | 0, j + 1 => simp [sv1] at h; exact Or.inr ⟨by omega, by simpa using h, fun e => by omega⟩
    | 1, 0 =>
      rcases a with _ | (x | x | x)
      · simp [sv1] at h
      · simp [sv1] at h; subst h; exact Or.inr ⟨by omega, by simp, fun _ => rfl⟩
      · simp [sv1] at h
      · simp [sv1] at h; subst h; exact Or.inr ⟨by omega, by simp, fun _ => rfl⟩
    | 1, j + 1 =>
      have h : (sv1 r 0 v)[j]? = some (some w) := by rcases a with _ | (x | x | x) <;> simpa [sv1] using h
      rcases ih 0 j v w h with ⟨h1, h2⟩ | ⟨h1, h2, h3⟩
      · exact Or.inl ⟨by omega, h2⟩
      · exact Or.inr ⟨by omega, by simpa using h2, fun e => h3 (by omega)⟩
    | k + 2, 0 =>
      simp [sv1] at h
      subst h
      exact Or.inr ⟨by omega, by simp, fun e => by omega⟩
    | k + 2, j + 1 =>
      simp only [sv1, List.getElem?_cons_succ] at h
      rcases ih (k + 1) j v w h with ⟨h1, h2⟩ | ⟨h1, h2, h3⟩
      · exact Or.inl ⟨by omega, h2⟩
      · exact Or.inr ⟨by omega, by simpa using h2, fun e => h3 (by omega)⟩
theorem sv2_len (lc : Lc) : ∀ (k : Nat) (v : AV), (sv2 lc k v).length = lc.length := by
  induction lc with
  | nil => intro k v; unfold sv2; rfl
  | cons a r ih =>
    intro k v
    match k with
    | 0 => cases r <;> simp [sv2]
    | 1 => rcases a with _ | (x | x | x) <;> simp [sv2, ih]
    | k + 2 => simp [sv2, ih]
theorem sv2_at (lc : Lc) : ∀ (k j : Nat) (v w : AV), (sv2 lc k v)[j]? = some (some w) → (j = k ∧ w = v) ∨ (j ≠ k ∧ j ≠ k + 1 ∧ lc[j]? = some (some w) ∧ (j + 1 = k → isLng (some w) = false)) := by
  induction lc with
  | nil => intro k j v w h; simp [sv2] at h
  | cons a r ih =>
    intro k j v w h
    match k, j with
    | 0, 0 => cases r <;> (simp [sv2] at h; exact Or.inl ⟨rfl, h.symm⟩)
    | 0, 1 => cases r <;> simp [sv2] at h
    | 0, j + 2 =>
      cases r with
      | nil => simp [sv2] at h
      | cons b r => simp [sv2] at h; exact Or.inr ⟨by omega, by omega, by simpa using h, fun e => by omega⟩
    | 1, 0 =>
      rcases a with _ | (x | x | x)
      · simp [sv2] at h
      · simp [sv2] at h; subst h; exact Or.inr ⟨by omega, by omega, by simp, fun _ => rfl⟩
      · simp [sv2] at h
      · simp [sv2] at h; subst h; exact Or.inr ⟨by omega, by omega, by simp, fun _ => rfl⟩
    | 1, j + 1 =>
      have h : (sv2 r 0 v)[j]? = some (some w) := by rcases a with _ | (x | x | x) <;> simpa [sv2] using h
      rcases ih 0 j v w h with ⟨h1, h2⟩ | ⟨h1, h2, h3, h4⟩
      · exact Or.inl ⟨by omega, h2⟩
      · exact Or.inr ⟨by omega, by omega, by simpa using h3, fun e => h4 (by omega)⟩
    | k + 2, 0 =>
      simp [sv2] at h
      subst h
      exact Or.inr ⟨by omega, by omega, by simp, fun e => by omega⟩
    | k + 2, j + 1 =>
      simp only [sv2, List.getElem?_cons_succ] at h
      rcases ih (k + 1) j v w h with ⟨h1, h2⟩ | ⟨h1, h2, h3, h4⟩
      · exact Or.inl ⟨by omega, h2⟩
      · exact Or.inr ⟨by omega, by omega, by simpa using h3, fun e => h4 (by omega)⟩
theorem cvF_cat {Z : ZT} {w : AV} (h : isLng (some w) = false) : (cvF Z w).category = 1 := by
  match w, h with
  | .inl x, _ => rfl
  | .inr (.inr o), _ => rfl
/-- the machine's variables hold the listed ones -/
def LH (Z : ZT) (ls : Array Slot) (nL : Nat) (lc : Lc) : Prop := lc.length = nL ∧ ∃ lv : List (Nat × Value), lv_has ls nL lv ∧ ∀ (j : Nat) (w : AV), lc[j]? = some (some w) → (j, cvF Z w) ∈ lv
theorem LH.get {Z : ZT} {ls : Array Slot} {nL : Nat} {lc : Lc} (h : LH Z ls nL lc) {j : Nat} {w : AV} (hj : lc[j]? = some (some w)) : ls[j]? = some (.val (cvF Z w)) := by
  obtain ⟨-, lv, h1, h2⟩ := h
  exact h1.2.2 _ (h2 j w hj)
theorem LH.one {Z : ZT} {ls' : Array Slot} {nL : Nat} {lc : Lc} {k : Nat} {v : AV} {lv : List (Nat × Value)} (hlen : lc.length = nL) (h2 : ∀ (j : Nat) (w : AV), lc[j]? = some (some w) → (j, cvF Z w) ∈ lv)
    (h : lv_has ls' nL ((k, cvF Z v) :: lv.filter (fun q => !(q.1 == k) && !(q.1 + 1 == k && q.2.category == 2)))) : LH Z ls' nL (sv1 lc k v) := by
  refine ⟨by rw [sv1_len]; exact hlen, _, h, fun j w hj => ?_⟩
  rcases sv1_at lc k j v w hj with ⟨a1, a2⟩ | ⟨a1, a2, a3⟩
  · subst a1; subst a2
    exact List.mem_cons_self
  · refine List.mem_cons_of_mem _ (List.mem_filter.mpr ⟨h2 j w a2, ?_⟩)
    by_cases hk : j + 1 = k
    · have := cvF_cat (Z := Z) (a3 hk)
      simp [a1, this]
    · simp [a1, hk]
theorem LH.two {Z : ZT} {ls' : Array Slot} {nL : Nat} {lc : Lc} {k : Nat} {v : AV} {lv : List (Nat × Value)} (hlen : lc.length = nL) (h2 : ∀ (j : Nat) (w : AV), lc[j]? = some (some w) → (j, cvF Z w) ∈ lv)
    (h : lv_has ls' nL ((k, cvF Z v) :: lv.filter (fun q => !(q.1 == k) && (!(q.1 == k + 1) && !(q.1 + 1 == k && q.2.category == 2))))) : LH Z ls' nL (sv2 lc k v) := by
  refine ⟨by rw [sv2_len]; exact hlen, _, h, fun j w hj => ?_⟩
  rcases sv2_at lc k j v w hj with ⟨a1, a2⟩ | ⟨a1, a4, a2, a3⟩
  · subst a1; subst a2
    exact List.mem_cons_self
  · refine List.mem_cons_of_mem _ (List.mem_filter.mpr ⟨h2 j w a2, ?_⟩)
    by_cases hk : j + 1 = k
    · have := cvF_cat (Z := Z) (a3 hk)
      simp [a1, a4, this]
    · simp [a1, a4, hk]
/-! numbers -/
theorem inR_to {x : Int} (h : inR x) : (Int32.ofInt x).toInt = x := Int32.toInt_ofInt_of_le (by have := h.1; omega) (by have := h.2; omega)
theorem inL_to {x : Int} (h : inL x) : (Int64.ofInt x).toInt = x := Int64.toInt_ofInt_of_le (by have := h.1; omega) (by have := h.2; omega)
theorem inR_inj {x y : Int} (hx : inR x) (hy : inR y) : Int32.ofInt x = Int32.ofInt y ↔ x = y := by rw [← Int32.toInt_inj, inR_to hx, inR_to hy]
theorem inR_lt {x y : Int} (hx : inR x) (hy : inR y) : Int32.ofInt x < Int32.ofInt y ↔ x < y := by rw [Int32.lt_iff_toInt_lt, inR_to hx, inR_to hy]
theorem inR_le {x y : Int} (hx : inR x) (hy : inR y) : Int32.ofInt x ≤ Int32.ofInt y ↔ x ≤ y := by rw [Int32.le_iff_toInt_le, inR_to hx, inR_to hy]
theorem inR_0 : inR 0 := ⟨by omega, by omega⟩
theorem inR_div {x y : Int} (hx : inR x) (hy : inR y) (h0 : 0 ≤ x) (h1 : 0 < y) : Int32.ofInt x / Int32.ofInt y = Int32.ofInt (x / y) := by
  have h2 : 0 ≤ x / y := Int.ediv_nonneg h0 (by omega)
  have h3 : x / y ≤ x := Int.ediv_le_self _ h0
  have h4 : inR (x / y) := ⟨by omega, by have := hx.2; omega⟩
  rw [← Int32.toInt_inj, Int32.toInt_div_of_ne_right, inR_to hx, inR_to hy, inR_to h4, Int.tdiv_eq_ediv_of_nonneg h0]
  intro he
  have : y = -1 := (inR_inj hy (show inR (-1) from ⟨by omega, by omega⟩)).mp he
  omega
theorem inR_rem {x y : Int} (hx : inR x) (hy : inR y) (h0 : 0 ≤ x) (h1 : 0 < y) : Int32.ofInt x - Int32.ofInt x / Int32.ofInt y * Int32.ofInt y = Int32.ofInt (x % y) := by
  rw [inR_div hx hy h0 h1, ← Int32.ofInt_mul, ← Int32.ofInt_sub]
  congr 1
  rw [Int.emod_def, Int.mul_comm]
theorem inL_div {x y : Int} (hx : inL x) (hy : inL y) (h0 : 0 ≤ x) (h1 : 0 < y) : Int64.ofInt x / Int64.ofInt y = Int64.ofInt (x / y) := by
  have h2 : 0 ≤ x / y := Int.ediv_nonneg h0 (by omega)
  have h3 : x / y ≤ x := Int.ediv_le_self _ h0
  have h4 : inL (x / y) := ⟨by omega, by have := hx.2; omega⟩
  rw [← Int64.toInt_inj, Int64.toInt_div_of_ne_right, inL_to hx, inL_to hy, inL_to h4, Int.tdiv_eq_ediv_of_nonneg h0]
  intro he
  have : (Int64.ofInt y).toInt = (-1 : Int64).toInt := by rw [he]
  rw [inL_to hy] at this
  have h9 : (-1 : Int64).toInt = -1 := by decide
  omega
theorem inL_rem {x y : Int} (hx : inL x) (hy : inL y) (h0 : 0 ≤ x) (h1 : 0 < y) : Int64.ofInt x - Int64.ofInt x / Int64.ofInt y * Int64.ofInt y = Int64.ofInt (x % y) := by
  rw [inL_div hx hy h0 h1, ← Int64.ofInt_mul, ← Int64.ofInt_sub]
  congr 1
  rw [Int.emod_def, Int.mul_comm]
theorem sh_cnt : ∀ n : Nat, n < 32 → ((Int32.ofNat n &&& 31).toBitVec.smod 32).toNat = n := by decide +kernel
theorem sh_of {y : Int} (h0 : 0 ≤ y) : Int32.ofInt y = Int32.ofNat y.toNat := by
  rw [← Int32.ofInt_eq_ofNat]
  congr 1
  omega
theorem inR_shl {x y : Int} (h0 : 0 ≤ y) (h1 : y < 32) : Int32.ofInt x <<< (Int32.ofInt y &&& 31) = Int32.ofInt (x * 2 ^ y.toNat) := by
  have hs : ((Int32.ofInt y &&& 31).toBitVec.smod 32).toNat = y.toNat := by rw [sh_of h0]; exact sh_cnt _ (by omega)
  apply Int32.toBitVec.inj
  apply BitVec.eq_of_toNat_eq
  rw [pk_shl _ _ _ hs]
  have e1 : (Int32.ofInt (x * 2 ^ y.toNat)).toBitVec = BitVec.ofInt 32 (x * 2 ^ y.toNat) := rfl
  have e2 : (Int32.ofInt x).toBitVec = BitVec.ofInt 32 x := rfl
  rw [e1, e2, BitVec.toNat_ofInt, BitVec.toNat_ofInt]
  have hz : ∀ a : Int, ((a % ((2 ^ 32 : Nat) : Int)).toNat : Int) = a % ((2 ^ 32 : Nat) : Int) := fun a => Int.toNat_of_nonneg (Int.emod_nonneg _ (by decide))
  apply Int.ofNat.inj
  show (((x % ((2 ^ 32 : Nat) : Int)).toNat * 2 ^ y.toNat % 2 ^ 32 : Nat) : Int) = (((x * 2 ^ y.toNat) % ((2 ^ 32 : Nat) : Int)).toNat : Int)
  rw [hz, Int.natCast_emod, Int.natCast_mul, hz]
  have : ((2 ^ y.toNat : Nat) : Int) = (2 : Int) ^ y.toNat := by simp
  rw [this, Int.mul_emod (x % _), Int.emod_emod, ← Int.mul_emod]
theorem inR_shr {x y : Int} (hx : inR x) (h0 : 0 ≤ y) (h1 : y < 32) : Int32.ofInt x >>> (Int32.ofInt y &&& 31) = Int32.ofInt (x / 2 ^ y.toNat) := by
  have hs : ((Int32.ofInt y &&& 31).toBitVec.smod 32).toNat = y.toNat := by rw [sh_of h0]; exact sh_cnt _ (by omega)
  rw [← Int32.toInt_inj, pk_shr _ _ _ hs, inR_to hx, Int.shiftRight_eq_div_pow]
  have hp : (0 : Int) < 2 ^ y.toNat := Int.pow_pos (by omega)
  have h4 : inR (x / 2 ^ y.toNat) := by
    constructor
    · have : x / 2 ^ y.toNat ≥ x ∨ x / 2 ^ y.toNat ≥ 0 := by
        by_cases hn : 0 ≤ x
        · exact Or.inr (Int.ediv_nonneg hn (by omega))
        · left
          have := Int.le_ediv_of_mul_le hp (show x * 2 ^ y.toNat ≤ x from by
            have h9 : (1 : Int) ≤ 2 ^ y.toNat := hp
            have := Int.mul_le_mul_of_nonpos_left (show x ≤ 0 by omega) h9
            omega)
          exact this
      have := hx.1
      omega
    · have : x / 2 ^ y.toNat ≤ x ∨ x / 2 ^ y.toNat < 1 := by
        by_cases hn : 0 ≤ x
        · exact Or.inl (Int.ediv_le_self _ hn)
        · right
          have := Int.ediv_neg_of_neg_of_pos (show x < 0 by omega) hp
          omega
      have := hx.2
      omega
  rw [inR_to h4]
  simp
end
section
/-! ===== the machine's judgement over the memory ===== -/
def AW (p : Program) (l : Launch) (e : Env) (R : Room) (s : State) (m : MethodId) (args : Array Value) (below : List Frame) (meth : Method) (c : Code) (nL : Nat) (Z : ZT) (Q : State → Prop) : Kt := fun pc lc st M =>
  ∀ (H : Heap) (locs : List Loc) (ls : Array Slot), LH Z ls nL lc → va_P Z.1 vwCl (wldF Z M) H → va_S (zB Z) s.heap H locs → W p l e R s m args below meth c H locs 0 0 Q (F0 m pc ls (st.map (cvF Z)))
/-- what stays during a method -/
def CX (p : Program) (s : State) (m : MethodId) (args : Array Value) (c : Code) (cc : ByteArray) (nL : Nat) (own : String) (Ts : List Jvm.Cond) (Z : ZT) : Prop :=
  p.tables.exec = Jvm.exec ∧ c.code = cc ∧ c.maxLocals = nL ∧ s.vm.findClass own = some m.cls ∧ (∀ w ∈ Ts, w.before args s = true) ∧ va_K Z.1 vwCl (zT Z) s ∧ adOk Z
section SND
variable {p : Program} {l : Launch} {e : Env} {R : Room} {s : State} {m : MethodId} {args : Array Value} {below : List Frame} {meth : Method} {c : Code} {Q : State → Prop} {cc : ByteArray} {nL : Nat} {own : String} {Ts : List Jvm.Cond} {Z : ZT}
variable {pc : Nat} {lc : Lc} {st : List AV} {M : Mem}
theorem aw_iconst (X : CX p s m args c cc nL own Ts Z) {v : Int} (hd : decode cc pc = .ok (.iconst v, 1)) (h : AW p l e R s m args below meth c nL Z Q (pc + 1) lc (.inl v :: st) M) : AW p l e R s m args below meth c nL Z Q pc lc st M := by
  intro H locs ls hl hP hS
  exact lv_iconst X.1 X.2.1 hd rfl (h H locs ls hl hP hS)
theorem aw_bipush (X : CX p s m args c cc nL own Ts Z) {v : Int} (h1 : -128 ≤ v) (h2 : v < 128) (hd : decode cc pc = .ok (.bipush v, 2)) (h : AW p l e R s m args below meth c nL Z Q (pc + 2) lc (.inl v :: st) M) : AW p l e R s m args below meth c nL Z Q pc lc st M := by
  intro H locs ls hl hP hS
  refine lv_bipush X.1 X.2.1 hd (v := Int32.ofInt v) ?_ (h H locs ls hl hP hS)
  rw [← Int32.ofInt_int8ToInt, Int8.toInt_ofInt_of_le (by omega) (by omega)]
theorem aw_sipush (X : CX p s m args c cc nL own Ts Z) {v : Int} (h1 : -32768 ≤ v) (h2 : v < 32768) (hd : decode cc pc = .ok (.sipush v, 3)) (h : AW p l e R s m args below meth c nL Z Q (pc + 3) lc (.inl v :: st) M) : AW p l e R s m args below meth c nL Z Q pc lc st M := by
  intro H locs ls hl hP hS
  refine lv_sipush X.1 X.2.1 hd (v := Int32.ofInt v) ?_ (h H locs ls hl hP hS)
  rw [← Int32.ofInt_int16ToInt, Int16.toInt_ofInt_of_le (by omega) (by omega)]
theorem aw_ldc (X : CX p s m args c cc nL own Ts Z) {ix : Nat} {v : Int} (hw : Jvm.Cond.constant own ix (Int32.ofInt v) ∈ Ts) (hd : decode cc pc = .ok (.ldc ix, 2)) (h : AW p l e R s m args below meth c nL Z Q (pc + 2) lc (.inl v :: st) M) : AW p l e R s m args below meth c nL Z Q pc lc st M := by
  intro H locs ls hl hP hS
  exact lv_ldc X.1 X.2.1 X.2.2.2.1 (X.2.2.2.2.1 _ hw) hd (h H locs ls hl hP hS)
theorem aw_ldcw (X : CX p s m args c cc nL own Ts Z) {ix : Nat} {v : Int} (hw : Jvm.Cond.constant own ix (Int32.ofInt v) ∈ Ts) (hd : decode cc pc = .ok (.ldc_w ix, 3)) (h : AW p l e R s m args below meth c nL Z Q (pc + 3) lc (.inl v :: st) M) : AW p l e R s m args below meth c nL Z Q pc lc st M := by
  intro H locs ls hl hP hS
  exact lv_ldcw X.1 X.2.1 X.2.2.2.1 (X.2.2.2.2.1 _ hw) hd (h H locs ls hl hP hS)
theorem aw_ldc2 (X : CX p s m args c cc nL own Ts Z) {ix : Nat} {v : Int} (hw : Jvm.Cond.constantLong own ix (Int64.ofInt v) ∈ Ts) (hd : decode cc pc = .ok (.ldc2_w ix, 3)) (h : AW p l e R s m args below meth c nL Z Q (pc + 3) lc (.inr (.inl v) :: st) M) : AW p l e R s m args below meth c nL Z Q pc lc st M := by
  intro H locs ls hl hP hS
  exact lv_ldc2 X.1 X.2.1 X.2.2.2.1 (X.2.2.2.2.1 _ hw) hd (h H locs ls hl hP hS)
theorem aw_lconst (X : CX p s m args c cc nL own Ts Z) {v : Fin 2} (hd : decode cc pc = .ok (.lconst v, 1)) (h : AW p l e R s m args below meth c nL Z Q (pc + 1) lc (.inr (.inl (v.val : Int)) :: st) M) : AW p l e R s m args below meth c nL Z Q pc lc st M := by
  intro H locs ls hl hP hS
  exact lv_lconst X.1 X.2.1 hd Int64.ofInt_eq_ofNat.symm (h H locs ls hl hP hS)
theorem aw_iload (X : CX p s m args c cc nL own Ts Z) {k : Nat} {x : Int} (hk : lc[k]? = some (some (.inl x))) (hd : decode cc pc = .ok (.iload k, 2)) (h : AW p l e R s m args below meth c nL Z Q (pc + 2) lc (.inl x :: st) M) : AW p l e R s m args below meth c nL Z Q pc lc st M := by
  intro H locs ls hl hP hS
  exact lv_iload X.1 X.2.1 hd (hl.get hk) (h H locs ls hl hP hS)
theorem aw_iload_n (X : CX p s m args c cc nL own Ts Z) {k : Fin 4} {x : Int} (hk : lc[k.val]? = some (some (.inl x))) (hd : decode cc pc = .ok (.iload_n k, 1)) (h : AW p l e R s m args below meth c nL Z Q (pc + 1) lc (.inl x :: st) M) : AW p l e R s m args below meth c nL Z Q pc lc st M := by
  intro H locs ls hl hP hS
  exact lv_iload_n X.1 X.2.1 hd rfl (hl.get hk) (h H locs ls hl hP hS)
theorem aw_lload (X : CX p s m args c cc nL own Ts Z) {k : Nat} {x : Int} (hk : lc[k]? = some (some (.inr (.inl x)))) (hd : decode cc pc = .ok (.lload k, 2)) (h : AW p l e R s m args below meth c nL Z Q (pc + 2) lc (.inr (.inl x) :: st) M) : AW p l e R s m args below meth c nL Z Q pc lc st M := by
  intro H locs ls hl hP hS
  exact lv_lload X.1 X.2.1 hd (hl.get hk) (h H locs ls hl hP hS)
theorem aw_lload_n (X : CX p s m args c cc nL own Ts Z) {k : Fin 4} {x : Int} (hk : lc[k.val]? = some (some (.inr (.inl x)))) (hd : decode cc pc = .ok (.lload_n k, 1)) (h : AW p l e R s m args below meth c nL Z Q (pc + 1) lc (.inr (.inl x) :: st) M) : AW p l e R s m args below meth c nL Z Q pc lc st M := by
  intro H locs ls hl hP hS
  exact lv_lload_n X.1 X.2.1 hd rfl (hl.get hk) (h H locs ls hl hP hS)
theorem aw_aload (X : CX p s m args c cc nL own Ts Z) {k : Nat} {x : Nat} (hk : lc[k]? = some (some (.inr (.inr x)))) (hd : decode cc pc = .ok (.aload k, 2)) (h : AW p l e R s m args below meth c nL Z Q (pc + 2) lc (.inr (.inr x) :: st) M) : AW p l e R s m args below meth c nL Z Q pc lc st M := by
  intro H locs ls hl hP hS
  exact lv_aload X.1 X.2.1 hd (hl.get hk) (h H locs ls hl hP hS)
theorem aw_aload_n (X : CX p s m args c cc nL own Ts Z) {k : Fin 4} {x : Nat} (hk : lc[k.val]? = some (some (.inr (.inr x)))) (hd : decode cc pc = .ok (.aload_n k, 1)) (h : AW p l e R s m args below meth c nL Z Q (pc + 1) lc (.inr (.inr x) :: st) M) : AW p l e R s m args below meth c nL Z Q pc lc st M := by
  intro H locs ls hl hP hS
  exact lv_aload_n X.1 X.2.1 hd rfl (hl.get hk) (h H locs ls hl hP hS)
theorem aw_istore (X : CX p s m args c cc nL own Ts Z) {k : Nat} {x : Int} (hn : k < nL) (hd : decode cc pc = .ok (.istore k, 2)) (h : AW p l e R s m args below meth c nL Z Q (pc + 2) (sv1 lc k (.inl x)) st M) : AW p l e R s m args below meth c nL Z Q pc lc (.inl x :: st) M := by
  intro H locs ls hl hP hS
  obtain ⟨hlen, lv, h1, h2⟩ := hl
  exact lv_istore X.1 X.2.1 hd h1 hn rfl (fun ls' hl' => h H locs ls' (LH.one hlen h2 hl') hP hS)
theorem aw_istore_n (X : CX p s m args c cc nL own Ts Z) {k : Fin 4} {x : Int} (hn : k.val < nL) (hd : decode cc pc = .ok (.istore_n k, 1)) (h : AW p l e R s m args below meth c nL Z Q (pc + 1) (sv1 lc k.val (.inl x)) st M) : AW p l e R s m args below meth c nL Z Q pc lc (.inl x :: st) M := by
  intro H locs ls hl hP hS
  obtain ⟨hlen, lv, h1, h2⟩ := hl
  exact lv_istore_n X.1 X.2.1 hd rfl h1 hn rfl (fun ls' hl' => h H locs ls' (LH.one hlen h2 hl') hP hS)
theorem aw_astore (X : CX p s m args c cc nL own Ts Z) {k : Nat} {x : Nat} (hn : k < nL) (hd : decode cc pc = .ok (.astore k, 2)) (h : AW p l e R s m args below meth c nL Z Q (pc + 2) (sv1 lc k (.inr (.inr x))) st M) : AW p l e R s m args below meth c nL Z Q pc lc (.inr (.inr x) :: st) M := by
  intro H locs ls hl hP hS
  obtain ⟨hlen, lv, h1, h2⟩ := hl
  exact lv_astore X.1 X.2.1 hd h1 hn rfl (fun ls' hl' => h H locs ls' (LH.one hlen h2 hl') hP hS)
theorem aw_astore_n (X : CX p s m args c cc nL own Ts Z) {k : Fin 4} {x : Nat} (hn : k.val < nL) (hd : decode cc pc = .ok (.astore_n k, 1)) (h : AW p l e R s m args below meth c nL Z Q (pc + 1) (sv1 lc k.val (.inr (.inr x))) st M) : AW p l e R s m args below meth c nL Z Q pc lc (.inr (.inr x) :: st) M := by
  intro H locs ls hl hP hS
  obtain ⟨hlen, lv, h1, h2⟩ := hl
  exact lv_astore_n X.1 X.2.1 hd rfl h1 hn rfl (fun ls' hl' => h H locs ls' (LH.one hlen h2 hl') hP hS)
theorem aw_lstore (X : CX p s m args c cc nL own Ts Z) {k : Nat} {x : Int} (hn : k + 1 < nL) (hd : decode cc pc = .ok (.lstore k, 2)) (h : AW p l e R s m args below meth c nL Z Q (pc + 2) (sv2 lc k (.inr (.inl x))) st M) : AW p l e R s m args below meth c nL Z Q pc lc (.inr (.inl x) :: st) M := by
  intro H locs ls hl hP hS
  obtain ⟨hlen, lv, h1, h2⟩ := hl
  exact lv_lstore X.1 X.2.1 hd h1 hn rfl (fun ls' hl' => h H locs ls' (LH.two hlen h2 hl') hP hS)
theorem aw_lstore_n (X : CX p s m args c cc nL own Ts Z) {k : Fin 4} {x : Int} (hn : k.val + 1 < nL) (hd : decode cc pc = .ok (.lstore_n k, 1)) (h : AW p l e R s m args below meth c nL Z Q (pc + 1) (sv2 lc k.val (.inr (.inl x))) st M) : AW p l e R s m args below meth c nL Z Q pc lc (.inr (.inl x) :: st) M := by
  intro H locs ls hl hP hS
  obtain ⟨hlen, lv, h1, h2⟩ := hl
  exact lv_lstore_n X.1 X.2.1 hd rfl h1 hn rfl (fun ls' hl' => h H locs ls' (LH.two hlen h2 hl') hP hS)
theorem aw_iinc (X : CX p s m args c cc nL own Ts Z) {k : Nat} {x n : Int} (hk : lc[k]? = some (some (.inl x))) (hn : k < nL) (hd : decode cc pc = .ok (.iinc k n, 3)) (h : AW p l e R s m args below meth c nL Z Q (pc + 3) (sv1 lc k (.inl (x + n))) st M) : AW p l e R s m args below meth c nL Z Q pc lc st M := by
  intro H locs ls hl hP hS
  obtain ⟨hlen, lv, h1, h2⟩ := hl
  obtain ⟨q, hq⟩ := List.getElem?_of_mem (h2 k _ hk)
  exact lv_iinc (v := Int32.ofInt (x + n)) X.1 X.2.1 hd h1 hq (Int32.ofInt_add _ _).symm hn rfl (fun ls' hl' => h H locs ls' (LH.one (v := .inl (x + n)) hlen h2 hl') hP hS)
theorem aw_iadd (X : CX p s m args c cc nL own Ts Z) {x y : Int} (hd : decode cc pc = .ok (.iadd, 1)) (h : AW p l e R s m args below meth c nL Z Q (pc + 1) lc (.inl (x + y) :: st) M) : AW p l e R s m args below meth c nL Z Q pc lc (.inl y :: .inl x :: st) M := by
  intro H locs ls hl hP hS
  have h := h H locs ls hl hP hS
  rw [List.map_cons, show cvF Z (.inl (x + y)) = .int (Int32.ofInt x + Int32.ofInt y) by rw [← Int32.ofInt_add]; rfl] at h
  exact lv_iadd X.1 X.2.1 hd h
theorem aw_isub (X : CX p s m args c cc nL own Ts Z) {x y : Int} (hd : decode cc pc = .ok (.isub, 1)) (h : AW p l e R s m args below meth c nL Z Q (pc + 1) lc (.inl (x - y) :: st) M) : AW p l e R s m args below meth c nL Z Q pc lc (.inl y :: .inl x :: st) M := by
  intro H locs ls hl hP hS
  have h := h H locs ls hl hP hS
  rw [List.map_cons, show cvF Z (.inl (x - y)) = .int (Int32.ofInt x - Int32.ofInt y) by rw [← Int32.ofInt_sub]; rfl] at h
  exact lv_isub X.1 X.2.1 hd h
theorem aw_imul (X : CX p s m args c cc nL own Ts Z) {x y : Int} (hd : decode cc pc = .ok (.imul, 1)) (h : AW p l e R s m args below meth c nL Z Q (pc + 1) lc (.inl (x * y) :: st) M) : AW p l e R s m args below meth c nL Z Q pc lc (.inl y :: .inl x :: st) M := by
  intro H locs ls hl hP hS
  have h := h H locs ls hl hP hS
  rw [List.map_cons, show cvF Z (.inl (x * y)) = .int (Int32.ofInt x * Int32.ofInt y) by rw [← Int32.ofInt_mul]; rfl] at h
  exact lv_imul X.1 X.2.1 hd h
theorem aw_iand (X : CX p s m args c cc nL own Ts Z) {x y : Int} (hd : decode cc pc = .ok (.iand, 1)) (h : AW p l e R s m args below meth c nL Z Q (pc + 1) lc (.inl (bAnd x y) :: st) M) : AW p l e R s m args below meth c nL Z Q pc lc (.inl y :: .inl x :: st) M := by
  intro H locs ls hl hP hS
  have h := h H locs ls hl hP hS
  rw [List.map_cons, show cvF Z (.inl (bAnd x y)) = .int (Int32.ofInt x &&& Int32.ofInt y) from congrArg Value.int (Int32.ofInt_toInt _)] at h
  exact lv_iand X.1 X.2.1 hd h
theorem aw_ior (X : CX p s m args c cc nL own Ts Z) {x y : Int} (hd : decode cc pc = .ok (.ior, 1)) (h : AW p l e R s m args below meth c nL Z Q (pc + 1) lc (.inl (bOr x y) :: st) M) : AW p l e R s m args below meth c nL Z Q pc lc (.inl y :: .inl x :: st) M := by
  intro H locs ls hl hP hS
  have h := h H locs ls hl hP hS
  rw [List.map_cons, show cvF Z (.inl (bOr x y)) = .int (Int32.ofInt x ||| Int32.ofInt y) from congrArg Value.int (Int32.ofInt_toInt _)] at h
  exact lv_ior X.1 X.2.1 hd h
theorem aw_ixor (X : CX p s m args c cc nL own Ts Z) {x y : Int} (hd : decode cc pc = .ok (.ixor, 1)) (h : AW p l e R s m args below meth c nL Z Q (pc + 1) lc (.inl (bXor x y) :: st) M) : AW p l e R s m args below meth c nL Z Q pc lc (.inl y :: .inl x :: st) M := by
  intro H locs ls hl hP hS
  have h := h H locs ls hl hP hS
  rw [List.map_cons, show cvF Z (.inl (bXor x y)) = .int (Int32.ofInt x ^^^ Int32.ofInt y) from congrArg Value.int (Int32.ofInt_toInt _)] at h
  exact lv_ixor X.1 X.2.1 hd h
theorem nz_of {y : Int} (hy : inR y) (h1 : 0 < y) : ¬ Int32.ofInt y = 0 := by
  intro he
  have : Int32.ofInt y = Int32.ofInt 0 := he
  rw [inR_inj hy inR_0] at this
  omega
theorem nzL_of {y : Int} (hy : inL y) (h1 : 0 < y) : ¬ Int64.ofInt y = 0 := by
  intro he
  have : (Int64.ofInt y).toInt = (0 : Int64).toInt := by rw [he]
  rw [inL_to hy] at this
  have h9 : (0 : Int64).toInt = 0 := by decide
  omega
theorem aw_idiv (X : CX p s m args c cc nL own Ts Z) {x y : Int} (hc : 0 ≤ x ∧ 0 < y ∧ inR x ∧ inR y) (hd : decode cc pc = .ok (.idiv, 1)) (h : AW p l e R s m args below meth c nL Z Q (pc + 1) lc (.inl (x / y) :: st) M) : AW p l e R s m args below meth c nL Z Q pc lc (.inl y :: .inl x :: st) M := by
  intro H locs ls hl hP hS
  have h := h H locs ls hl hP hS
  rw [List.map_cons, show cvF Z (.inl (x / y)) = .int (Int32.ofInt x / Int32.ofInt y) by rw [inR_div hc.2.2.1 hc.2.2.2 hc.1 hc.2.1]; rfl] at h
  exact lv_idiv X.1 X.2.1 hd (nz_of hc.2.2.2 hc.2.1) h
theorem aw_irem (X : CX p s m args c cc nL own Ts Z) {x y : Int} (hc : 0 ≤ x ∧ 0 < y ∧ inR x ∧ inR y) (hd : decode cc pc = .ok (.irem, 1)) (h : AW p l e R s m args below meth c nL Z Q (pc + 1) lc (.inl (x % y) :: st) M) : AW p l e R s m args below meth c nL Z Q pc lc (.inl y :: .inl x :: st) M := by
  intro H locs ls hl hP hS
  have h := h H locs ls hl hP hS
  rw [List.map_cons, show cvF Z (.inl (x % y)) = .int (Int32.ofInt x - Int32.ofInt x / Int32.ofInt y * Int32.ofInt y) by rw [inR_rem hc.2.2.1 hc.2.2.2 hc.1 hc.2.1]; rfl] at h
  exact lv_irem X.1 X.2.1 hd (nz_of hc.2.2.2 hc.2.1) h
theorem aw_ishl (X : CX p s m args c cc nL own Ts Z) {x y : Int} (hc : 0 ≤ y ∧ y < 32) (hd : decode cc pc = .ok (.ishl, 1)) (h : AW p l e R s m args below meth c nL Z Q (pc + 1) lc (.inl (x * 2 ^ y.toNat) :: st) M) : AW p l e R s m args below meth c nL Z Q pc lc (.inl y :: .inl x :: st) M := by
  intro H locs ls hl hP hS
  have h := h H locs ls hl hP hS
  rw [List.map_cons, show cvF Z (.inl (x * 2 ^ y.toNat)) = .int (Int32.ofInt x <<< (Int32.ofInt y &&& 31)) by rw [inR_shl hc.1 hc.2]; rfl] at h
  exact lv_ishl X.1 X.2.1 hd h
theorem aw_ishr (X : CX p s m args c cc nL own Ts Z) {x y : Int} (hc : inR x ∧ 0 ≤ y ∧ y < 32) (hd : decode cc pc = .ok (.ishr, 1)) (h : AW p l e R s m args below meth c nL Z Q (pc + 1) lc (.inl (x / 2 ^ y.toNat) :: st) M) : AW p l e R s m args below meth c nL Z Q pc lc (.inl y :: .inl x :: st) M := by
  intro H locs ls hl hP hS
  have h := h H locs ls hl hP hS
  rw [List.map_cons, show cvF Z (.inl (x / 2 ^ y.toNat)) = .int (Int32.ofInt x >>> (Int32.ofInt y &&& 31)) by rw [inR_shr hc.1 hc.2.1 hc.2.2]; rfl] at h
  exact lv_ishr X.1 X.2.1 hd h
theorem shu_cnt : ∀ n : Nat, n < 32 → (((Int32.ofNat n).toUInt32 &&& Int32.toUInt32 31).toBitVec % 32).toNat = n := by decide +kernel
theorem aw_iushr (X : CX p s m args c cc nL own Ts Z) {x y : Int} (hc : inR x ∧ 0 ≤ x ∧ 0 ≤ y ∧ y < 32) (hd : decode cc pc = .ok (.iushr, 1)) (h : AW p l e R s m args below meth c nL Z Q (pc + 1) lc (.inl (x / 2 ^ y.toNat) :: st) M) : AW p l e R s m args below meth c nL Z Q pc lc (.inl y :: .inl x :: st) M := by
  intro H locs ls hl hP hS
  refine lv_iushr X.1 X.2.1 hd (v := Int32.ofInt (x / 2 ^ y.toNat)) ?_ (h H locs ls hl hP hS)
  have e1 : Int32.ofInt x = nI x.toNat := sh_of hc.2.1
  rw [e1, sh_of hc.2.2.1, pk_ushrN (n := x.toNat) (by have := hc.1.2; omega) _ y.toNat (shu_cnt _ (by omega))]
  have e2 : (x / 2 ^ y.toNat) = ((x.toNat / 2 ^ y.toNat : Nat) : Int) := by
    rw [Int.natCast_ediv, Int.toNat_of_nonneg hc.2.1]
    simp
  rw [e2, Int32.ofInt_eq_ofNat]
  rfl
theorem aw_ineg (X : CX p s m args c cc nL own Ts Z) {x : Int} (hd : decode cc pc = .ok (.ineg, 1)) (h : AW p l e R s m args below meth c nL Z Q (pc + 1) lc (.inl (-x) :: st) M) : AW p l e R s m args below meth c nL Z Q pc lc (.inl x :: st) M := by
  intro H locs ls hl hP hS
  have h := h H locs ls hl hP hS
  rw [List.map_cons, show cvF Z (.inl (-x)) = .int (-Int32.ofInt x) by rw [← Int32.ofInt_neg]; rfl] at h
  exact lv_ineg X.1 X.2.1 hd h
theorem aw_ladd (X : CX p s m args c cc nL own Ts Z) {x y : Int} (hd : decode cc pc = .ok (.ladd, 1)) (h : AW p l e R s m args below meth c nL Z Q (pc + 1) lc (.inr (.inl (x + y)) :: st) M) : AW p l e R s m args below meth c nL Z Q pc lc (.inr (.inl y) :: .inr (.inl x) :: st) M := by
  intro H locs ls hl hP hS
  have h := h H locs ls hl hP hS
  rw [List.map_cons, show cvF Z (.inr (.inl (x + y))) = .long (Int64.ofInt x + Int64.ofInt y) by rw [← Int64.ofInt_add]; rfl] at h
  exact lv_ladd X.1 X.2.1 hd h
theorem aw_lsub (X : CX p s m args c cc nL own Ts Z) {x y : Int} (hd : decode cc pc = .ok (.lsub, 1)) (h : AW p l e R s m args below meth c nL Z Q (pc + 1) lc (.inr (.inl (x - y)) :: st) M) : AW p l e R s m args below meth c nL Z Q pc lc (.inr (.inl y) :: .inr (.inl x) :: st) M := by
  intro H locs ls hl hP hS
  have h := h H locs ls hl hP hS
  rw [List.map_cons, show cvF Z (.inr (.inl (x - y))) = .long (Int64.ofInt x - Int64.ofInt y) by rw [← Int64.ofInt_sub]; rfl] at h
  exact lv_lsub X.1 X.2.1 hd h
theorem aw_lmul (X : CX p s m args c cc nL own Ts Z) {x y : Int} (hd : decode cc pc = .ok (.lmul, 1)) (h : AW p l e R s m args below meth c nL Z Q (pc + 1) lc (.inr (.inl (x * y)) :: st) M) : AW p l e R s m args below meth c nL Z Q pc lc (.inr (.inl y) :: .inr (.inl x) :: st) M := by
  intro H locs ls hl hP hS
  have h := h H locs ls hl hP hS
  rw [List.map_cons, show cvF Z (.inr (.inl (x * y))) = .long (Int64.ofInt x * Int64.ofInt y) by rw [← Int64.ofInt_mul]; rfl] at h
  exact lv_lmul X.1 X.2.1 hd h
theorem aw_ldiv (X : CX p s m args c cc nL own Ts Z) {x y : Int} (hc : 0 ≤ x ∧ 0 < y ∧ inL x ∧ inL y) (hd : decode cc pc = .ok (.ldiv, 1)) (h : AW p l e R s m args below meth c nL Z Q (pc + 1) lc (.inr (.inl (x / y)) :: st) M) : AW p l e R s m args below meth c nL Z Q pc lc (.inr (.inl y) :: .inr (.inl x) :: st) M := by
  intro H locs ls hl hP hS
  have h := h H locs ls hl hP hS
  rw [List.map_cons, show cvF Z (.inr (.inl (x / y))) = .long (Int64.ofInt x / Int64.ofInt y) by rw [inL_div hc.2.2.1 hc.2.2.2 hc.1 hc.2.1]; rfl] at h
  exact lv_ldiv X.1 X.2.1 hd (nzL_of hc.2.2.2 hc.2.1) h
theorem aw_lrem (X : CX p s m args c cc nL own Ts Z) {x y : Int} (hc : 0 ≤ x ∧ 0 < y ∧ inL x ∧ inL y) (hd : decode cc pc = .ok (.lrem, 1)) (h : AW p l e R s m args below meth c nL Z Q (pc + 1) lc (.inr (.inl (x % y)) :: st) M) : AW p l e R s m args below meth c nL Z Q pc lc (.inr (.inl y) :: .inr (.inl x) :: st) M := by
  intro H locs ls hl hP hS
  have h := h H locs ls hl hP hS
  rw [List.map_cons, show cvF Z (.inr (.inl (x % y))) = .long (Int64.ofInt x - Int64.ofInt x / Int64.ofInt y * Int64.ofInt y) by rw [inL_rem hc.2.2.1 hc.2.2.2 hc.1 hc.2.1]; rfl] at h
  exact lv_lrem X.1 X.2.1 hd (nzL_of hc.2.2.2 hc.2.1) h
theorem aw_lneg (X : CX p s m args c cc nL own Ts Z) {x : Int} (hd : decode cc pc = .ok (.lneg, 1)) (h : AW p l e R s m args below meth c nL Z Q (pc + 1) lc (.inr (.inl (-x)) :: st) M) : AW p l e R s m args below meth c nL Z Q pc lc (.inr (.inl x) :: st) M := by
  intro H locs ls hl hP hS
  have h := h H locs ls hl hP hS
  rw [List.map_cons, show cvF Z (.inr (.inl (-x))) = .long (-Int64.ofInt x) by rw [← Int64.ofInt_neg]; rfl] at h
  exact lv_lneg X.1 X.2.1 hd h
theorem lc3_of {x y : Int} (hx : inL x) (hy : inL y) : lg_cmp (Int64.ofInt x) (Int64.ofInt y) = Int32.ofInt (lc3 x y) := by
  unfold lg_cmp lc3
  have e1 : (Int64.ofInt x > Int64.ofInt y) ↔ y < x := by
    show Int64.ofInt y < Int64.ofInt x ↔ _
    rw [Int64.lt_iff_toInt_lt, inL_to hx, inL_to hy]
  have e2 : Int64.ofInt x = Int64.ofInt y ↔ x = y := by rw [← Int64.toInt_inj, inL_to hx, inL_to hy]
  by_cases h1 : y < x
  · rw [if_pos (e1.mpr h1), if_pos h1]; rfl
  · rw [if_neg (fun h => h1 (e1.mp h)), if_neg h1]
    by_cases h2 : x = y
    · rw [if_pos (e2.mpr h2), if_pos h2]; rfl
    · rw [if_neg (fun h => h2 (e2.mp h)), if_neg h2]; rfl
theorem aw_lcmp (X : CX p s m args c cc nL own Ts Z) {x y : Int} (hc : inL x ∧ inL y) (hd : decode cc pc = .ok (.lcmp, 1)) (h : AW p l e R s m args below meth c nL Z Q (pc + 1) lc (.inl (lc3 x y) :: st) M) : AW p l e R s m args below meth c nL Z Q pc lc (.inr (.inl y) :: .inr (.inl x) :: st) M := by
  intro H locs ls hl hP hS
  have h := h H locs ls hl hP hS
  rw [List.map_cons, show cvF Z (.inl (lc3 x y)) = .int (lg_cmp (Int64.ofInt x) (Int64.ofInt y)) by rw [lc3_of hc.1 hc.2]; rfl] at h
  exact W.lcmp X.1 X.2.1 hd h
theorem aw_i2l (X : CX p s m args c cc nL own Ts Z) {x : Int} (hc : inR x) (hd : decode cc pc = .ok (.i2l, 1)) (h : AW p l e R s m args below meth c nL Z Q (pc + 1) lc (.inr (.inl x) :: st) M) : AW p l e R s m args below meth c nL Z Q pc lc (.inl x :: st) M := by
  intro H locs ls hl hP hS
  refine lv_i2l X.1 X.2.1 hd (v := Int64.ofInt x) ?_ (h H locs ls hl hP hS)
  rw [← Int64.toInt_inj, Int32.toInt_toInt64, inR_to hc, inL_to ⟨by have := hc.1; omega, by have := hc.2; omega⟩]
theorem aw_l2i (X : CX p s m args c cc nL own Ts Z) {x : Int} (hd : decode cc pc = .ok (.l2i, 1)) (h : AW p l e R s m args below meth c nL Z Q (pc + 1) lc (.inl x :: st) M) : AW p l e R s m args below meth c nL Z Q pc lc (.inr (.inl x) :: st) M := by
  intro H locs ls hl hP hS
  exact lv_l2i X.1 X.2.1 hd (v := Int32.ofInt x) Int64.toInt32_ofInt (h H locs ls hl hP hS)
theorem shl_cnt : ∀ n : Nat, n < 64 → (((Int32.ofNat n).toInt64 &&& 63).toBitVec.smod 64).toNat = n := by decide +kernel
theorem inL_shr {x y : Int} (hx : inL x) (h0 : 0 ≤ y) (h1 : y < 64) : Int64.ofInt x >>> ((Int32.ofInt y).toInt64 &&& 63) = Int64.ofInt (x / 2 ^ y.toNat) := by
  have hs : (((Int32.ofInt y).toInt64 &&& 63).toBitVec.smod 64).toNat = y.toNat := by rw [sh_of h0]; exact shl_cnt _ (by omega)
  have hp : (0 : Int) < 2 ^ y.toNat := Int.pow_pos (by omega)
  have h4 : inL (x / 2 ^ y.toNat) := by
    constructor
    · have : x / 2 ^ y.toNat ≥ x ∨ x / 2 ^ y.toNat ≥ 0 := by
        by_cases hn : 0 ≤ x
        · exact Or.inr (Int.ediv_nonneg hn (by omega))
        · left
          have := Int.le_ediv_of_mul_le hp (show x * 2 ^ y.toNat ≤ x from by
            have h9 : (1 : Int) ≤ 2 ^ y.toNat := hp
            have := Int.mul_le_mul_of_nonpos_left (show x ≤ 0 by omega) h9
            omega)
          exact this
      have := hx.1
      omega
    · have : x / 2 ^ y.toNat ≤ x ∨ x / 2 ^ y.toNat < 1 := by
        by_cases hn : 0 ≤ x
        · exact Or.inl (Int.ediv_le_self _ hn)
        · right
          have := Int.ediv_neg_of_neg_of_pos (show x < 0 by omega) hp
          omega
      have := hx.2
      omega
  rw [← Int64.toInt_inj, inL_to h4]
  show (BitVec.sshiftRight _ _).toInt = _
  rw [BitVec.toInt_sshiftRight, hs]
  show (Int64.ofInt x).toInt >>> y.toNat = _
  rw [inL_to hx, Int.shiftRight_eq_div_pow]
  simp
theorem aw_lshr (X : CX p s m args c cc nL own Ts Z) {x y : Int} (hc : inL x ∧ 0 ≤ y ∧ y < 64) (hd : decode cc pc = .ok (.lshr, 1)) (h : AW p l e R s m args below meth c nL Z Q (pc + 1) lc (.inr (.inl (x / 2 ^ y.toNat)) :: st) M) : AW p l e R s m args below meth c nL Z Q pc lc (.inl y :: .inr (.inl x) :: st) M := by
  intro H locs ls hl hP hS
  exact lv_lshr X.1 X.2.1 hd (v := Int64.ofInt (x / 2 ^ y.toNat)) (inL_shr hc.1 hc.2.1 hc.2.2) (h H locs ls hl hP hS)
theorem aw_dup (X : CX p s m args c cc nL own Ts Z) {v : AV} (hv : isLng (some v) = false) (hd : decode cc pc = .ok (.dup, 1)) (h : AW p l e R s m args below meth c nL Z Q (pc + 1) lc (v :: v :: st) M) : AW p l e R s m args below meth c nL Z Q pc lc (v :: st) M := by
  intro H locs ls hl hP hS
  exact lv_dup X.1 X.2.1 hd (cvF_cat hv) (h H locs ls hl hP hS)
theorem aw_pop (X : CX p s m args c cc nL own Ts Z) {v : AV} (hv : isLng (some v) = false) (hd : decode cc pc = .ok (.pop, 1)) (h : AW p l e R s m args below meth c nL Z Q (pc + 1) lc st M) : AW p l e R s m args below meth c nL Z Q pc lc (v :: st) M := by
  intro H locs ls hl hP hS
  exact lv_pop X.1 X.2.1 hd (cvF_cat hv) (h H locs ls hl hP hS)
theorem aw_dup2 (X : CX p s m args c cc nL own Ts Z) {v w : AV} (hv : isLng (some v) = false) (hw : isLng (some w) = false) (hd : decode cc pc = .ok (.dup2, 1)) (h : AW p l e R s m args below meth c nL Z Q (pc + 1) lc (v :: w :: v :: w :: st) M) : AW p l e R s m args below meth c nL Z Q pc lc (v :: w :: st) M := by
  intro H locs ls hl hP hS
  exact lv_dup2_11 X.1 X.2.1 hd (cvF_cat hv) (cvF_cat hw) (h H locs ls hl hP hS)
theorem aw_goto (X : CX p s m args c cc nL own Ts Z) {o : Int} {t : Nat} (ht : (pc : Int) + o = (t : Int)) (hd : decode cc pc = .ok (.goto o, 3)) (h : AW p l e R s m args below meth c nL Z Q t lc st M) : AW p l e R s m args below meth c nL Z Q pc lc st M := by
  intro H locs ls hl hP hS
  exact lv_goto X.1 X.2.1 hd ht (h H locs ls hl hP hS)
theorem aw_if (X : CX p s m args c cc nL own Ts Z) {k : ClassFile.Cond} {o : Int} {t : Nat} {x : Int} (ht : (pc : Int) + o = (t : Int)) (hd : decode cc pc = .ok (.ifCond k o, 3)) (h : s_br k x 0 (AW p l e R s m args below meth c nL Z Q t lc st M) (AW p l e R s m args below meth c nL Z Q (pc + 3) lc st M)) : AW p l e R s m args below meth c nL Z Q pc lc (.inl x :: st) M := by
  intro H locs ls hl hP hS
  cases k with
  | eq => exact lv_if_eq X.1 X.2.1 hd ht (fun q => h.2.1 ((inR_inj h.1.1 inR_0).mp q) H locs ls hl hP hS) (fun q => h.2.2 (fun q2 => q ((inR_inj h.1.1 inR_0).mpr q2)) H locs ls hl hP hS)
  | ne => exact lv_if_ne X.1 X.2.1 hd ht (fun q => h.2.1 (fun q2 => q ((inR_inj h.1.1 inR_0).mpr q2)) H locs ls hl hP hS) (fun q => h.2.2 ((inR_inj h.1.1 inR_0).mp q) H locs ls hl hP hS)
  | lt => exact lv_if_lt X.1 X.2.1 hd ht (fun q => h.2.1 ((inR_lt h.1.1 inR_0).mp q) H locs ls hl hP hS) (fun q => h.2.2 (Int.not_lt.mp (fun q2 => q ((inR_lt h.1.1 inR_0).mpr q2))) H locs ls hl hP hS)
  | ge => exact lv_if_ge X.1 X.2.1 hd ht (fun q => h.2.1 ((inR_le inR_0 h.1.1).mp q) H locs ls hl hP hS) (fun q => h.2.2 (Int.not_le.mp (fun q2 => q ((inR_le inR_0 h.1.1).mpr q2))) H locs ls hl hP hS)
  | gt => exact lv_if_gt X.1 X.2.1 hd ht (fun q => h.2.1 ((inR_lt inR_0 h.1.1).mp q) H locs ls hl hP hS) (fun q => h.2.2 (Int.not_lt.mp (fun q2 => q ((inR_lt inR_0 h.1.1).mpr q2))) H locs ls hl hP hS)
  | le => exact lv_if_le X.1 X.2.1 hd ht (fun q => h.2.1 ((inR_le h.1.1 inR_0).mp q) H locs ls hl hP hS) (fun q => h.2.2 (Int.not_le.mp (fun q2 => q ((inR_le h.1.1 inR_0).mpr q2))) H locs ls hl hP hS)
theorem aw_icmp (X : CX p s m args c cc nL own Ts Z) {k : ClassFile.Cond} {o : Int} {t : Nat} {x y : Int} (ht : (pc : Int) + o = (t : Int)) (hd : decode cc pc = .ok (.if_icmp k o, 3)) (h : s_br k x y (AW p l e R s m args below meth c nL Z Q t lc st M) (AW p l e R s m args below meth c nL Z Q (pc + 3) lc st M)) : AW p l e R s m args below meth c nL Z Q pc lc (.inl y :: .inl x :: st) M := by
  intro H locs ls hl hP hS
  cases k with
  | eq => exact lv_icmp_eq X.1 X.2.1 hd ht (fun q => h.2.1 ((inR_inj h.1.1 h.1.2).mp q) H locs ls hl hP hS) (fun q => h.2.2 (fun q2 => q ((inR_inj h.1.1 h.1.2).mpr q2)) H locs ls hl hP hS)
  | ne => exact lv_icmp_ne X.1 X.2.1 hd ht (fun q => h.2.1 (fun q2 => q ((inR_inj h.1.1 h.1.2).mpr q2)) H locs ls hl hP hS) (fun q => h.2.2 ((inR_inj h.1.1 h.1.2).mp q) H locs ls hl hP hS)
  | lt => exact lv_icmp_lt X.1 X.2.1 hd ht (fun q => h.2.1 ((inR_lt h.1.1 h.1.2).mp q) H locs ls hl hP hS) (fun q => h.2.2 (Int.not_lt.mp (fun q2 => q ((inR_lt h.1.1 h.1.2).mpr q2))) H locs ls hl hP hS)
  | ge => exact lv_icmp_ge X.1 X.2.1 hd ht (fun q => h.2.1 ((inR_le h.1.2 h.1.1).mp q) H locs ls hl hP hS) (fun q => h.2.2 (Int.not_le.mp (fun q2 => q ((inR_le h.1.2 h.1.1).mpr q2))) H locs ls hl hP hS)
  | gt => exact lv_icmp_gt X.1 X.2.1 hd ht (fun q => h.2.1 ((inR_lt h.1.2 h.1.1).mp q) H locs ls hl hP hS) (fun q => h.2.2 (Int.not_lt.mp (fun q2 => q ((inR_lt h.1.2 h.1.1).mpr q2))) H locs ls hl hP hS)
  | le => exact lv_icmp_le X.1 X.2.1 hd ht (fun q => h.2.1 ((inR_le h.1.1 h.1.2).mp q) H locs ls hl hP hS) (fun q => h.2.2 (Int.not_le.mp (fun q2 => q ((inR_le h.1.1 h.1.2).mpr q2))) H locs ls hl hP hS)
end SND
end
section
/-! ===== fields, rows, calls ===== -/
section SNE
variable {p : Program} {l : Launch} {e : Env} {R : Room} {s : State} {m : MethodId} {args : Array Value} {below : List Frame} {meth : Method} {c : Code} {Q : State → Prop} {cc : ByteArray} {nL : Nat} {own : String} {Ts : List Jvm.Cond} {Z : ZT}
variable {pc : Nat} {lc : Lc} {st : List AV} {M : Mem}
/-- a field's words -/
def FldW (own : String) (Ts : List Jvm.Cond) (ix ci k : Nat) : Prop := ci < 9 ∧ k < nfF ci ∧ (∀ w ∈ BIG, w ∈ Ts) ∧ Jvm.Cond.fieldLink own ix (ttF ci k).1 (ttF ci k).2.1 (ttF ci k).2.2.1 ∈ Ts
theorem kd9 {o ci : Nat} (h : kdF o = ci) (h9 : ci < 9) : o < 67 := kdF_lt (by omega)
theorem aw_getr (X : CX p s m args c cc nL own Ts Z) {ix ci k o : Nat} (hf : FldW own Ts ix ci k) (hr : isRefT (tyF ci k) = true) (ho : kdF o = ci) (hd : decode cc pc = .ok (.getfield ix, 3)) (h : AW p l e R s m args below meth c nL Z Q (pc + 3) lc (.inr (.inr (rfF o k)) :: st) M) : AW p l e R s m args below meth c nL Z Q pc lc (.inr (.inr o) :: st) M := by
  intro H locs ls hl hP hS
  obtain ⟨h9, hk, hT, hw⟩ := hf
  obtain ⟨q1, q2, q3, q4⟩ := kindF ci h9
  subst ho
  refine va_get X.1 X.2.1 X.2.2.2.2.1 (fun w h => hT w (q2 w h)) X.2.2.2.1 X.2.2.2.2.2.1 hP o ((wldF_at Z M (kd9 rfl h9)).trans (by rw [cellF_o Z M (by omega)])) q1 k hk (X.2.2.2.2.1 _ hw) (fun _ h9 => h9) (v := cvF Z (.inr (.inr (rfF o k)))) ?_ hd (h H locs ls hl hP hS)
  rw [List.getElem?_map, List.getElem?_range hk]
  simp [fldF, hr, cvF]
theorem aw_geti (X : CX p s m args c cc nL own Ts Z) {ix ci k o : Nat} (hf : FldW own Ts ix ci k) (hr : isRefT (tyF ci k) = false) (ho : kdF o = ci) (hd : decode cc pc = .ok (.getfield ix, 3)) (h : AW p l e R s m args below meth c nL Z Q (pc + 3) lc (.inl (M o k) :: st) M) : AW p l e R s m args below meth c nL Z Q pc lc (.inr (.inr o) :: st) M := by
  intro H locs ls hl hP hS
  obtain ⟨h9, hk, hT, hw⟩ := hf
  obtain ⟨q1, q2, q3, q4⟩ := kindF ci h9
  subst ho
  refine va_get X.1 X.2.1 X.2.2.2.2.1 (fun w h => hT w (q2 w h)) X.2.2.2.1 X.2.2.2.2.2.1 hP o ((wldF_at Z M (kd9 rfl h9)).trans (by rw [cellF_o Z M (by omega)])) q1 k hk (X.2.2.2.2.1 _ hw) (fun _ h9 => h9) (v := cvF Z (.inl (M o k))) ?_ hd (h H locs ls hl hP hS)
  rw [List.getElem?_map, List.getElem?_range hk]
  simp [fldF, hr, cvF]
theorem nar_z {x : Int} (h : x = 0 ∨ x = 1) : narrow .boolean (.int (Int32.ofInt x)) = .int (Int32.ofInt x) ∧ fits .boolean (.int (Int32.ofInt x)) = true := by
  rcases h with rfl | rfl <;> decide
theorem aw_puti (X : CX p s m args c cc nL own Ts Z) {ix ci k o : Nat} {x : Int} (hf : FldW own Ts ix ci k) (hfin : (ttF ci k).2.2.2 = false) (hty : tyF ci k = .int ∨ (tyF ci k = .boolean ∧ (x = 0 ∨ x = 1))) (ho : kdF o = ci) (hd : decode cc pc = .ok (.putfield ix, 3)) (h : AW p l e R s m args below meth c nL Z Q (pc + 3) lc st (up2 M o k x)) : AW p l e R s m args below meth c nL Z Q pc lc (.inl x :: .inr (.inr o) :: st) M := by
  intro H locs ls hl hP hS
  obtain ⟨h9, hk, hT, hw⟩ := hf
  obtain ⟨q1, q2, q3, q4⟩ := kindF ci h9
  have hr : isRefT (tyF ci k) = false := by
    rcases hty with e | ⟨e, -⟩ <;> rw [e] <;> rfl
  have hn : narrow (tyF ci k) (.int (Int32.ofInt x)) = .int (Int32.ofInt x) ∧ fits (tyF ci k) (.int (Int32.ofInt x)) = true := by
    rcases hty with e | ⟨e, h01⟩
    · rw [e]; exact ⟨rfl, rfl⟩
    · rw [e]; exact nar_z h01
  subst ho
  have h6 := kd9 (o := o) rfl h9
  refine va_put (fs := (List.range (nfF (kdF o))).map (fldF Z M o)) X.1 X.2.1 X.2.2.2.2.1 (fun w h => hT w (q2 w h)) (tyF (kdF o)) q3 q4 X.2.2.2.1 X.2.2.2.2.2.1 hP (X.2.2.2.2.2.2.D M) hS o ((wldF_at Z M h6).trans (by rw [cellF_o Z M (by omega)])) q1 k hk (X.2.2.2.2.1 _ hw) (fun _ h9 => h9) hfin (q3 k hk) hn.1 hn.2 (by simpa using hk) hd (fun H1 locs1 a1 a2 a3 => ?_)
  have a1 : va_P Z.1 vwCl ((wldF Z M).set o (zA Z o, .inr (kdF o, ((List.range (nfF (kdF o))).map (fldF Z M o)).set k (.int (Int32.ofInt x))))) H1 := a1
  rw [wldF_set Z M (up2 M o k x) h6 (cellF_fld Z M x (by omega) hk hr) (fun i _ hi => cellF_congr Z (up2_i hi))] at a1
  exact h H1 locs1 ls hl a1 a3
theorem ix_of {i : Int} {n : Nat} (hn : n < 2147483648) (h0 : 0 ≤ i) (h1 : i < (n : Int)) : vp_in (Int32.ofInt i) n ∧ (Int32.ofInt i).toNatClampNeg = i.toNat := by
  have hi : inR i := ⟨by omega, by omega⟩
  constructor
  · rw [vp_in_iff, inR_to hi]; exact ⟨h0, h1⟩
  · rw [Int32.toNatClampNeg, inR_to hi]
theorem aw_iald (X : CX p s m args c cc nL own Ts Z) {i : Int} {a : Nat} (hn : lnF (zN Z) a < 2147483648) (hc : kdF a = 100 ∧ 0 ≤ i ∧ i < (lnF (zN Z) a : Int)) (hd : decode cc pc = .ok (.iaload, 1)) (h : AW p l e R s m args below meth c nL Z Q (pc + 1) lc (.inl (M a i.toNat) :: st) M) : AW p l e R s m args below meth c nL Z Q pc lc (.inl i :: .inr (.inr a) :: st) M := by
  intro H locs ls hl hP hS
  obtain ⟨g1, g2⟩ := ix_of hn hc.2.1 hc.2.2
  have h := h H locs ls hl hP hS
  refine va_iald X.1 X.2.1 X.2.2.2.2.2.1 hP a 0 ((wldF_at Z M (kdF_lt (by omega))).trans (by rw [cellF_i Z M hc.1])) rfl g1 hd ?_
  rw [g2]
  exact h
theorem aw_zald (X : CX p s m args c cc nL own Ts Z) {i : Int} {a : Nat} (hn : lnF (zN Z) a < 2147483648) (hc : kdF a = 101 ∧ 0 ≤ i ∧ i < (lnF (zN Z) a : Int)) (hd : decode cc pc = .ok (.baload, 1)) (h : AW p l e R s m args below meth c nL Z Q (pc + 1) lc (.inl (M a i.toNat) :: st) M) : AW p l e R s m args below meth c nL Z Q pc lc (.inl i :: .inr (.inr a) :: st) M := by
  intro H locs ls hl hP hS
  obtain ⟨g1, g2⟩ := ix_of hn hc.2.1 hc.2.2
  have h := h H locs ls hl hP hS
  refine va_zald X.1 X.2.1 X.2.2.2.2.2.1 hP a 1 ((wldF_at Z M (kdF_lt (by omega))).trans (by rw [cellF_z Z M hc.1])) rfl g1 hd ?_
  rw [g2]
  exact h
theorem aw_iast (X : CX p s m args c cc nL own Ts Z) {i x : Int} {a : Nat} (hn : lnF (zN Z) a < 2147483648) (hc : kdF a = 100 ∧ 0 ≤ i ∧ i < (lnF (zN Z) a : Int)) (hd : decode cc pc = .ok (.iastore, 1)) (h : AW p l e R s m args below meth c nL Z Q (pc + 1) lc st (up2 M a i.toNat x)) : AW p l e R s m args below meth c nL Z Q pc lc (.inl x :: .inl i :: .inr (.inr a) :: st) M := by
  intro H locs ls hl hP hS
  obtain ⟨g1, g2⟩ := ix_of hn hc.2.1 hc.2.2
  have h6 : a < 67 := kdF_lt (by omega)
  refine va_iast X.1 X.2.1 X.2.2.2.2.2.1 hP (X.2.2.2.2.2.2.D M) hS a 0 ((wldF_at Z M h6).trans (by rw [cellF_i Z M hc.1])) rfl g1 hd (fun H1 locs1 a1 a2 a3 => ?_)
  rw [g2, wldF_set Z M (up2 M a i.toNat x) h6 (cellF_row Z M x hc.1) (fun i _ hi => cellF_congr Z (up2_i hi))] at a1
  exact h H1 locs1 ls hl a1 a3
theorem vpn_z {x : Int} (h : x = 0 ∨ x = 1) : vp_nar .boolean (Int32.ofInt x) = Int32.ofInt x := by
  rcases h with rfl | rfl <;> decide
theorem aw_zast (X : CX p s m args c cc nL own Ts Z) {i x : Int} {a : Nat} (hn : lnF (zN Z) a < 2147483648) (hc : kdF a = 101 ∧ 0 ≤ i ∧ i < (lnF (zN Z) a : Int) ∧ (x = 0 ∨ x = 1)) (hd : decode cc pc = .ok (.bastore, 1)) (h : AW p l e R s m args below meth c nL Z Q (pc + 1) lc st (up2 M a i.toNat x)) : AW p l e R s m args below meth c nL Z Q pc lc (.inl x :: .inl i :: .inr (.inr a) :: st) M := by
  intro H locs ls hl hP hS
  obtain ⟨g1, g2⟩ := ix_of hn hc.2.1 hc.2.2.1
  have h6 : a < 67 := kdF_lt (by omega)
  refine va_zast X.1 X.2.1 X.2.2.2.2.2.1 hP (X.2.2.2.2.2.2.D M) hS a 1 ((wldF_at Z M h6).trans (by rw [cellF_z Z M hc.1])) rfl g1 hd (fun H1 locs1 a1 a2 a3 => ?_)
  rw [g2, vpn_z hc.2.2.2, wldF_set Z M (up2 M a i.toNat x) h6 (cellF_rowZ Z M x hc.1) (fun i _ hi => cellF_congr Z (up2_i hi))] at a1
  exact h H1 locs1 ls hl a1 a3
theorem aw_alen (X : CX p s m args c cc nL own Ts Z) {a : Nat} (hc : kdF a = 100) (hd : decode cc pc = .ok (.arraylength, 1)) (h : AW p l e R s m args below meth c nL Z Q (pc + 1) lc (.inl (lnF (zN Z) a : Int) :: st) M) : AW p l e R s m args below meth c nL Z Q pc lc (.inr (.inr a) :: st) M := by
  intro H locs ls hl hP hS
  exact va_alen (x := (lnF (zN Z) a, .inl (fun j => Int32.ofInt (M a j)))) (v := Int32.ofInt (lnF (zN Z) a : Int)) X.1 X.2.1 X.2.2.2.2.2.1 hP a 0 ((wldF_at Z M (kdF_lt (by omega))).trans (by rw [cellF_i Z M hc])) rfl Int32.ofInt_eq_ofNat.symm hd (h H locs ls hl hP hS)
/-- arraycopy between rows of ints -/
theorem aw_copy (X : CX p s m args c cc nL own Ts Z) {ix : Nat} {sp dp n : Int} {a b : Nat} (hw : Jvm.Cond.methodLink own ix arraycopyName ∈ Ts ∧ Jvm.Cond.native arraycopyName ∈ Ts ∧ Jvm.Cond.static arraycopyName ∈ Ts ∧ Jvm.Cond.initialized "java/lang/System" ∈ Ts) (hna : lnF (zN Z) a < 2147483648) (hnb : lnF (zN Z) b < 2147483648) (hR : 1 ≤ R.frames ∧ 40 ≤ R.locals) (hst : catA st ≤ 8)
    (hc : kdF a = 100 ∧ kdF b = 100 ∧ 0 ≤ sp ∧ 0 ≤ dp ∧ 0 ≤ n ∧ sp + n ≤ (lnF (zN Z) a : Int) ∧ dp + n ≤ (lnF (zN Z) b : Int)) (hd : decode cc pc = .ok (.invokestatic ix, 3)) (h : AW p l e R s m args below meth c nL Z Q (pc + 3) lc st (va_up M b (va_cpy (M a) (M b) sp.toNat dp.toNat n.toNat))) :
    AW p l e R s m args below meth c nL Z Q pc lc (.inl n :: .inl dp :: .inr (.inr b) :: .inl sp :: .inr (.inr a) :: st) M := by
  intro H locs ls hl hP hS
  obtain ⟨c1, c2, c3, c4, c5, c6, c7⟩ := hc
  have t1 : ∀ z : Int, 0 ≤ z → z < 2147483648 → (Int32.ofInt z).toNatClampNeg = z.toNat ∧ ¬ Int32.ofInt z < 0 := by
    intro z h0 h1
    have hz : inR z := ⟨by omega, h1⟩
    refine ⟨by rw [Int32.toNatClampNeg, inR_to hz], fun hlt => ?_⟩
    have := (inR_lt hz inR_0).mp hlt
    omega
  obtain ⟨s1, s2⟩ := t1 sp c3 (by omega)
  obtain ⟨d1, d2⟩ := t1 dp c4 (by omega)
  obtain ⟨n1, n2⟩ := t1 n c5 (by omega)
  have h6 : b < 67 := kdF_lt (by omega)
  have hcat : ((st.map (cvF Z)).map fun v => v.category).sum = catA st := by
    clear h hst
    induction st with
    | nil => rfl
    | cons v r ih =>
      rcases v with x | x | x
      · simp [cvF, Value.category, catA, ih] at *; omega
      · simp [cvF, Value.category, catA, ih] at *; omega
      · simp [cvF, Value.category, catA, ih] at *; omega
  have hml : c.maxLocals = ls.size := by rw [X.2.2.1]; obtain ⟨-, lv, h1, -⟩ := hl; exact h1.1.symm
  have hlo : ((st.map (cvF Z)).map fun v => v.category).sum + (nativeFrameWords "java/lang/System" "arraycopy" 5 + 11) ≤ R.locals := by
    rw [hcat]
    have h32 : nativeFrameWords "java/lang/System" "arraycopy" 5 + 11 ≤ 32 := by decide
    have := hR.2
    omega
  refine va_copyi X.1 X.2.1 hml X.2.2.2.1 (X.2.2.2.2.1 _ hw.1) (X.2.2.2.2.1 _ hw.2.1) (X.2.2.2.2.1 _ hw.2.2.1) (X.2.2.2.2.1 _ hw.2.2.2) X.2.2.2.2.2.1 hP (X.2.2.2.2.2.2.D M) hS a b 0 0 ((wldF_at Z M (kdF_lt (by omega))).trans (by rw [cellF_i Z M c1])) ((wldF_at Z M h6).trans (by rw [cellF_i Z M c2])) rfl rfl rfl s2 d2 n2 (by rw [s1, n1]; omega) (by rw [d1, n1]; omega) (fun _ _ => rfl) hR.1 hlo hd (fun H1 locs1 a1 a2 a3 => ?_)
  rw [s1, d1, n1, wldF_set Z M (va_up M b (va_cpy (M a) (M b) sp.toNat dp.toNat n.toNat)) h6 ?_ (fun i _ hi => cellF_congr Z (va_up_ne _ _ hi))] at a1
  · exact h H1 locs1 ls hl a1 a3
  · rw [cellF_i Z _ c2, va_up_self]
    congr 4
    funext j
    unfold va_cpy
    split <;> rfl
end SNE
end
section
/-! ===== the steps are the machine's: a method that keeps its contract by the steps keeps it in the machine ===== -/
def lenI (i : Instr) (d : Nat) : Nat := match i with
  | .bipush _ => 2
  | .sipush _ => 3
  | .ldc _ => 2
  | .ldc_w _ => 3
  | .ldc2_w _ => 3
  | .iload _ => 2
  | .lload _ => 2
  | .aload _ => 2
  | .istore _ => 2
  | .lstore _ => 2
  | .astore _ => 2
  | .iinc _ _ => 3
  | .ifCond _ _ => 3
  | .if_icmp _ _ => 3
  | .goto _ => 3
  | .tableswitch _ _ _ _ => d
  | .getfield _ => 3
  | .putfield _ => 3
  | .invokevirtual _ => 3
  | .invokestatic _ => 3
  | .invokespecial _ => 3
  | .new _ => 3
  | .newarray _ => 2
  | _ => 1
def offI (i : Instr) : List Int := match i with
  | .goto o => [o]
  | .ifCond _ o => [o]
  | .if_icmp _ o => [o]
  | .tableswitch d _ _ os => d :: os.toList
  | _ => []
def idxI (nL : Nat) (i : Instr) : Bool := match i with
  | .istore k => Nat.blt k nL
  | .astore k => Nat.blt k nL
  | .iinc k _ => Nat.blt k nL
  | .istore_n k => Nat.blt k.val nL
  | .astore_n k => Nat.blt k.val nL
  | .lstore k => Nat.blt (k + 1) nL
  | .lstore_n k => Nat.blt (k.val + 1) nL
  | .bipush v => decide (-128 ≤ v ∧ v < 128)
  | .sipush v => decide (-32768 ≤ v ∧ v < 32768)
  | .tableswitch _ lo hi os => decide (hi - lo + 1 = (os.toList.length : Int))
  | _ => true
def okE (cc : ByteArray) (nL pc : Nat) (e : Instr × Nat × List Nat) : Bool :=
  decide (decode cc pc = .ok (e.1, lenI e.1 (e.2.1 - pc))) && (decide (e.2.1 = pc + lenI e.1 (e.2.1 - pc)) && (decide ((offI e.1).map (fun o => (pc : Int) + o) = e.2.2.map (fun t : Nat => (t : Int))) && idxI nL e.1))
def okT (cc : ByteArray) (T : Tt) (N nL : Nat) : Bool := (List.range N).all (fun pc => match T pc with
  | none => true
  | some e => okE cc nL pc e)
def tWn (N : Nat) (t : Tt) : Tt := fun pc => cond (Nat.blt pc N) (t pc) none
theorem okT_at {cc : ByteArray} {t : Tt} {N nL pc : Nat} {e : Instr × Nat × List Nat} (h : okT cc (tWn N t) N nL = true) (he : tWn N t pc = some e) : decode cc pc = .ok (e.1, lenI e.1 (e.2.1 - pc)) ∧ e.2.1 = pc + lenI e.1 (e.2.1 - pc) ∧ (offI e.1).map (fun o => (pc : Int) + o) = e.2.2.map (fun t : Nat => (t : Int)) ∧ idxI nL e.1 = true := by
  have hN : pc < N := by
    by_cases hp : pc < N
    · exact hp
    · have : Nat.blt pc N = false := by
        cases hb : Nat.blt pc N with
        | false => rfl
        | true => exact absurd (Nat.blt_eq.mp hb) hp
      unfold tWn at he
      rw [this] at he
      cases he
  have := List.all_eq_true.mp h pc (List.mem_range.mpr hN)
  rw [he] at this
  simp only [okE, Bool.and_eq_true, decide_eq_true_eq] at this
  exact this
section RULE
variable {p : Program} {l : Launch} {e : Env} {R : Room} {s : State} {m : MethodId} {args : Array Value} {below : List Frame} {meth : Method} {c : Code} {cc : ByteArray} {nL : Nat} {own : String} {Ts : List Jvm.Cond} {Z : ZT}
/-- the pool's words -/
def PoolW (own : String) (Ts : List Jvm.Cond) (P : Pool) : Prop := (∀ w ∈ BIG, w ∈ Ts) ∧ (∀ q ∈ P.1, q.2.1 < 9 ∧ q.2.2.1 < nfF q.2.1 ∧ Jvm.Cond.fieldLink own q.1 (ttF q.2.1 q.2.2.1).1 (ttF q.2.1 q.2.2.1).2.1 (ttF q.2.1 q.2.2.1).2.2.1 ∈ Ts ∧ (match q.2.2.2.1 with
  | 0 => tyF q.2.1 q.2.2.1 = .int ∧ (ttF q.2.1 q.2.2.1).2.2.2 = false
  | 1 => tyF q.2.1 q.2.2.1 = .boolean ∧ (ttF q.2.1 q.2.2.1).2.2.2 = false
  | 2 => isRefT (tyF q.2.1 q.2.2.1) = true ∧ ∀ o, kdF o = q.2.1 → rfF o q.2.2.1 = o + 1
  | 3 => isRefT (tyF q.2.1 q.2.2.1) = false
  | 4 => isRefT (tyF q.2.1 q.2.2.1) = true ∧ ∀ o, kdF o = q.2.1 → rfF o q.2.2.1 = q.2.2.2.2
  | _ => False)) ∧ (∀ q ∈ P.2.1, Jvm.Cond.constant own q.1 (Int32.ofInt q.2) ∈ Ts) ∧ ∀ q ∈ P.2.2.1, Jvm.Cond.constantLong own q.1 (Int64.ofInt q.2) ∈ Ts
def aftC (c : Call) (g : c.1) (vs rest : List AV) (K : Kt) (nx : Nat) (lc : Lc) (M : Mem) : Prop := match c.2.2.2 with
  | .inl pv => ∀ M' : Mem, pv g vs M M' → K nx lc rest M'
  | .inr pi => ∀ (x : Int) (M' : Mem), pi g vs M x M' → K nx lc (.inl x :: rest) M'
/-- a call comes back as its contract says -/
def CallOk (aw : Kt) (cc : ByteArray) (q : Nat × Option Nat × Call) : Prop := ∀ (pc : Nat) (lc : Lc) (vs rest : List AV) (M : Mem), decode cc pc = .ok ((match q.2.1 with
    | none => .invokestatic q.1
    | some _ => .invokevirtual q.1), 3) → (match q.2.1, vs with
    | none, _ => True
    | some kd, .inr (.inr o) :: _ => kdF o = kd
    | _, _ => False) → vs.length = q.2.2.2.1 → catA rest ≤ 8 → noLng vs = true → ∀ g : q.2.2.1, q.2.2.2.2.1 g vs M → aftC q.2.2 g vs rest aw (pc + 3) lc M → aw pc lc (vs.reverse ++ rest) M
theorem okA_iff {vs rest : List AV} (h : okA vs rest = true) : catA rest ≤ 8 ∧ noLng vs = true := by
  unfold okA at h
  cases hb : Nat.ble (catA rest) 8 with
  | true => rw [hb] at h; exact ⟨Nat.le_of_ble_eq_true hb, h⟩
  | false => rw [hb] at h; cases h
theorem splA_iff {n : Nat} : ∀ {acc st : List AV} {k : List AV → List AV → Prop}, splA n acc st k → ∃ vs rest : List AV, vs.length = n ∧ st = vs ++ rest ∧ k (vs.reverse ++ acc) rest := by
  induction n with
  | zero => intro acc st k h; exact ⟨[], st, rfl, rfl, by unfold splA at h; simpa using h⟩
  | succ n ih =>
    intro acc st k h
    cases st with
    | nil => exact h.elim
    | cons v r =>
      unfold splA at h
      obtain ⟨vs, rest, h1, h2, h3⟩ := ih h
      exact ⟨v :: vs, rest, by simp [h1], by simp [h2], by simpa using h3⟩
theorem s_go_aft {c : Call} {vs rest : List AV} {K K' : Kt} {nx : Nat} {lc : Lc} {M : Mem} (hK : ∀ pc lc st M, K pc lc st M → K' pc lc st M) (h : s_go c vs rest K nx lc M) : ∃ g : c.1, c.2.2.1 g vs M ∧ aftC c g vs rest K' nx lc M := by
  obtain ⟨G, n, pre, post⟩ := c
  cases post with
  | inl pv => obtain ⟨g, h1, h2⟩ := h; exact ⟨g, h1, fun M' q => hK _ _ _ _ (h2 M' q)⟩
  | inr pi => obtain ⟨g, h1, h2⟩ := h; exact ⟨g, h1, fun x M' q => hK _ _ _ _ (h2 x M' q)⟩
theorem s_br_mono {k : ClassFile.Cond} {x y : Int} {A B A' B' : Prop} (hA : A → A') (hB : B → B') (h : s_br k x y A B) : s_br k x y A' B' := by
  cases k <;> exact ⟨h.1, fun q => hA (h.2.1 q), fun q => hB (h.2.2 q)⟩
theorem sws_at {K : Nat → Prop} {x : Int} : ∀ {ts : List Nat} {lo : Int} (i : Nat) {t : Nat}, s_sws K x lo ts → ts[i]? = some t → x = lo + i → K t := by
  intro ts
  induction ts with
  | nil => intro lo i t h ht; simp at ht
  | cons a r ih =>
    intro lo i t h ht hx
    unfold s_sws at h
    cases i with
    | zero => simp at ht; subst ht; exact h.1 (by simpa using hx)
    | succ i => exact ih i h.2 (by simpa using ht) (by rw [hx]; push_cast; omega)
theorem aw_sw {Q : State → Prop} {pc : Nat} {lc : Lc} {st : List AV} {M : Mem} (X : CX p s m args c cc nL own Ts Z) {d lo hi : Int} {os : Array Int} {len dt : Nat} {ts : List Nat} {x : Int} (hlen : hi - lo + 1 = (os.toList.length : Int)) (ht : (d :: os.toList).map (fun o => (pc : Int) + o) = (dt :: ts).map (fun t : Nat => (t : Int))) (hd : decode cc pc = .ok (.tableswitch d lo hi os, len)) (hx : inR x)
    (h1 : (x < lo ∨ hi < x) → AW p l e R s m args below meth c nL Z Q dt lc st M) (h2 : s_sws (fun t => AW p l e R s m args below meth c nL Z Q t lc st M) x lo ts) : AW p l e R s m args below meth c nL Z Q pc lc (.inl x :: st) M := by
  intro H locs ls hl hP hS
  simp only [List.map_cons, List.cons.injEq] at ht
  by_cases ho : x < lo ∨ hi < x
  · exact lv_tableOut X.1 X.2.1 hd (by rw [inR_to hx]; exact ho) ht.1 (h1 ho H locs ls hl hP hS)
  · have hi' : (x - lo).toNat < os.toList.length := by omega
    have e1 : os[(x - lo).toNat]? = some (os.toList[(x - lo).toNat]'hi') := by
      rw [← Array.getElem?_toList]
      exact List.getElem?_eq_getElem hi'
    have e2 : (os.toList.map (fun o => (pc : Int) + o))[(x - lo).toNat]? = some ((pc : Int) + os.toList[(x - lo).toNat]'hi') := by
      rw [List.getElem?_map, List.getElem?_eq_getElem hi']
      rfl
    rw [ht.2, List.getElem?_map] at e2
    cases e3 : ts[(x - lo).toNat]? with
    | none => rw [e3] at e2; cases e2
    | some t =>
      rw [e3] at e2
      have e4 : (t : Int) = (pc : Int) + os.toList[(x - lo).toNat]'hi' := Option.some.inj e2
      exact lv_tableIn X.1 X.2.1 hd (by rw [inR_to hx]; omega) (by rw [inR_to hx]; omega) (off := os.toList[(x - lo).toNat]'hi') (by rw [inR_to hx]; exact e1) e4.symm (sws_at (x - lo).toNat h2 e3 (by omega) H locs ls hl hP hS)
/-- the contract's end, as the machine's rows have it -/
def Qcall (Z : ZT) (k : Call) (g : k.1) (vs : List AV) (M : Mem) : Array Value → State → Outcome → State → Prop := match k.2.2.2 with
  | .inl pv => va_Qv (fun M' : Mem => pv g vs M M') (fun M' t => va_P Z.1 vwCl (wldF Z M') t.heap ∧ va_K Z.1 vwCl (zT Z) t) (zB Z)
  | .inr pi => va_Qi (fun (r : Int32) (u : Int × Mem) => r = Int32.ofInt u.1 ∧ pi g vs M u.1 u.2) (fun u t => va_P Z.1 vwCl (wldF Z u.2) t.heap ∧ va_K Z.1 vwCl (zT Z) t) (zB Z)
def rtOk (ret : Option FieldType) (rt : Nat) (k : Call) : Prop := match rt, ret, k.2.2.2 with
  | 0, none, .inl _ => True
  | 1, some .int, .inr _ => True
  | 2, some .boolean, .inr _ => True
  | _, _, _ => False
theorem aw_iret {pc : Nat} {lc : Lc} {M M0 : Mem} {vs : List AV} {k : Call} {g : k.1} {ret : Option FieldType} {rt : Nat} {st : List AV} (X : CX p s m args c cc nL own Ts Z) (hr : meth.sig.returnType = ret) (hlocks : meth.locks = false) (hrt : rtOk ret rt k) (hd : decode cc pc = .ok (.ireturn, 1)) (h : s_iret (rvF k g vs M0 rt) st M) :
    AW p l e R s m args below meth c nL Z (MQ below (Qcall Z k g vs M0) args s 0 0 (zB Z)) pc lc st M := by
  intro H locs ls hl hP hS
  obtain ⟨G, kn, kp, kq⟩ := k
  match rt, st, h with
  | 1, [.inl x], h =>
    match ret, kq, hrt, h with
    | some .int, .inr pi, _, h =>
      refine W.iret (v := Int32.ofInt x) X.1 X.2.1 hr (fun t ht hW => ⟨⟨Int32.ofInt x, (x, M), rfl, ⟨rfl, h.elim id False.elim⟩, by rw [ht]; exact hP, va_K.moved hW.alike X.2.2.2.2.2.1⟩, hS.F ht⟩) hS.2.2 hd hlocks
  | 2, [.inl x], h =>
    match ret, kq, hrt, h with
    | some .boolean, .inr pi, _, h =>
      refine W.zret (v := Int32.ofInt x) X.1 X.2.1 hr (nar_z h.1).1 (fun t ht hW => ⟨⟨Int32.ofInt x, (x, M), rfl, ⟨rfl, h.2.elim id False.elim⟩, by rw [ht]; exact hP, va_K.moved hW.alike X.2.2.2.2.2.1⟩, hS.F ht⟩) hS.2.2 hd hlocks
theorem aw_ret {pc : Nat} {lc : Lc} {M M0 : Mem} {vs : List AV} {k : Call} {g : k.1} {ret : Option FieldType} {rt : Nat} {st : List AV} (X : CX p s m args c cc nL own Ts Z) (hr : meth.sig.returnType = ret) (hlocks : meth.locks = false) (hrt : rtOk ret rt k) (hd : decode cc pc = .ok (.return_, 1)) (h : s_ret (rvF k g vs M0 rt) st M) :
    AW p l e R s m args below meth c nL Z (MQ below (Qcall Z k g vs M0) args s 0 0 (zB Z)) pc lc st M := by
  intro H locs ls hl hP hS
  obtain ⟨G, kn, kp, kq⟩ := k
  match rt, st, h with
  | 0, [], h =>
    match ret, kq, hrt, h with
    | none, .inl pv, _, h =>
      exact W.vret X.1 X.2.1 hr (fun t ht hW => ⟨⟨M, rfl, h.elim id False.elim, by rw [ht]; exact hP, va_K.moved hW.alike X.2.2.2.2.2.1⟩, hS.F ht⟩) hS.2.2 hd hlocks
set_option maxHeartbeats 4000000 in
/-- one step -/
theorem s_one_sound {t : Tt} {N rt : Nat} {P : Pool} {k : Call} {g : k.1} {vs : List AV} {M0 : Mem} {ret : Option FieldType} (X : CX p s m args c cc nL own Ts Z) (hr : meth.sig.returnType = ret) (hlocks : meth.locks = false) (hrt : rtOk ret rt k) (hT : okT cc (tWn N t) N nL = true) (hP : PoolW own Ts P) (hln : ∀ a, lnF (zN Z) a < 2147483648)
    (hC : ∀ q ∈ P.2.2.2, CallOk (AW p l e R s m args below meth c nL Z (MQ below (Qcall Z k g vs M0) args s 0 0 (zB Z))) cc q)
    {K : Kt} (hK : ∀ pc lc st M, K pc lc st M → AW p l e R s m args below meth c nL Z (MQ below (Qcall Z k g vs M0) args s 0 0 (zB Z)) pc lc st M) {pc : Nat} {lc : Lc} {st : List AV} {M : Mem}
    (h : s_one (tWn N t) P (rvF k g vs M0 rt) (zN Z) K pc lc st M) : AW p l e R s m args below meth c nL Z (MQ below (Qcall Z k g vs M0) args s 0 0 (zB Z)) pc lc st M := by
  unfold s_one at h
  cases hTp : tWn N t pc with
  | none => rw [hTp] at h; exact h.elim
  | some ent =>
  rw [hTp] at h
  obtain ⟨o1, o2, o3, o4⟩ := okT_at hT hTp
  obtain ⟨i, nx, tg⟩ := ent
  dsimp only at h o1 o2 o3 o4
  cases i
  case iconst v => dsimp only [lenI] at o1 o2; subst o2; exact aw_iconst X o1 (hK _ _ _ _ h)
  case bipush v => dsimp only [lenI] at o1 o2; subst o2; have o4 := of_decide_eq_true o4; exact aw_bipush X o4.1 o4.2 o1 (hK _ _ _ _ h)
  case sipush v => dsimp only [lenI] at o1 o2; subst o2; have o4 := of_decide_eq_true o4; exact aw_sipush X o4.1 o4.2 o1 (hK _ _ _ _ h)
  case lconst v => dsimp only [lenI] at o1 o2; subst o2; exact aw_lconst X o1 (hK _ _ _ _ h)
  case ldc ix =>
    dsimp only [lenI] at o1 o2; subst o2
    dsimp only [s_ins, s_ldi] at h
    split at h
    · rename_i v e; exact aw_ldc X (hP.2.2.1 _ (lkN_mem e)) o1 (hK _ _ _ _ h)
    · exact h.elim
  case ldc_w ix =>
    dsimp only [lenI] at o1 o2; subst o2
    dsimp only [s_ins, s_ldi] at h
    split at h
    · rename_i v e; exact aw_ldcw X (hP.2.2.1 _ (lkN_mem e)) o1 (hK _ _ _ _ h)
    · exact h.elim
  case ldc2_w ix =>
    dsimp only [lenI] at o1 o2; subst o2
    dsimp only [s_ins, s_ldl] at h
    split at h
    · rename_i v e; exact aw_ldc2 X (hP.2.2.2 _ (lkN_mem e)) o1 (hK _ _ _ _ h)
    · exact h.elim
  case iload j =>
    dsimp only [lenI] at o1 o2; subst o2
    dsimp only [s_ins, s_iload] at h
    split at h
    · rename_i x e; exact aw_iload X e o1 (hK _ _ _ _ h)
    · exact h.elim
  case iload_n j =>
    dsimp only [lenI] at o1 o2; subst o2
    dsimp only [s_ins, s_iload] at h
    split at h
    · rename_i x e; exact aw_iload_n X e o1 (hK _ _ _ _ h)
    · exact h.elim
  case lload j =>
    dsimp only [lenI] at o1 o2; subst o2
    dsimp only [s_ins, s_lload] at h
    split at h
    · rename_i x e; exact aw_lload X e o1 (hK _ _ _ _ h)
    · exact h.elim
  case lload_n j =>
    dsimp only [lenI] at o1 o2; subst o2
    dsimp only [s_ins, s_lload] at h
    split at h
    · rename_i x e; exact aw_lload_n X e o1 (hK _ _ _ _ h)
    · exact h.elim
  case aload j =>
    dsimp only [lenI] at o1 o2; subst o2
    dsimp only [s_ins, s_aload] at h
    split at h
    · rename_i x e; exact aw_aload X e o1 (hK _ _ _ _ h)
    · exact h.elim
  case aload_n j =>
    dsimp only [lenI] at o1 o2; subst o2
    dsimp only [s_ins, s_aload] at h
    split at h
    · rename_i x e; exact aw_aload_n X e o1 (hK _ _ _ _ h)
    · exact h.elim
  case istore j =>
    dsimp only [lenI] at o1 o2; subst o2
    dsimp only [s_ins, s_istore] at h
    split at h
    · exact aw_istore X (Nat.blt_eq.mp o4) o1 (hK _ _ _ _ ((fLs_iff _ _).mp h))
    · exact h.elim
  case istore_n j =>
    dsimp only [lenI] at o1 o2; subst o2
    dsimp only [s_ins, s_istore] at h
    split at h
    · exact aw_istore_n X (Nat.blt_eq.mp o4) o1 (hK _ _ _ _ ((fLs_iff _ _).mp h))
    · exact h.elim
  case astore j =>
    dsimp only [lenI] at o1 o2; subst o2
    dsimp only [s_ins, s_astore] at h
    split at h
    · exact aw_astore X (Nat.blt_eq.mp o4) o1 (hK _ _ _ _ ((fLs_iff _ _).mp h))
    · exact h.elim
  case astore_n j =>
    dsimp only [lenI] at o1 o2; subst o2
    dsimp only [s_ins, s_astore] at h
    split at h
    · exact aw_astore_n X (Nat.blt_eq.mp o4) o1 (hK _ _ _ _ ((fLs_iff _ _).mp h))
    · exact h.elim
  case lstore j =>
    dsimp only [lenI] at o1 o2; subst o2
    dsimp only [s_ins, s_lstore] at h
    split at h
    · exact aw_lstore X (Nat.blt_eq.mp o4) o1 (hK _ _ _ _ ((fLs_iff _ _).mp h))
    · exact h.elim
  case lstore_n j =>
    dsimp only [lenI] at o1 o2; subst o2
    dsimp only [s_ins, s_lstore] at h
    split at h
    · exact aw_lstore_n X (Nat.blt_eq.mp o4) o1 (hK _ _ _ _ ((fLs_iff _ _).mp h))
    · exact h.elim
  case iinc j v =>
    dsimp only [lenI] at o1 o2; subst o2
    dsimp only [s_ins, s_iinc] at h
    split at h
    · rename_i x e; exact aw_iinc X e (Nat.blt_eq.mp o4) o1 (hK _ _ _ _ ((fLs_iff _ _).mp h))
    · exact h.elim
  case iadd =>
    dsimp only [lenI] at o1 o2; subst o2
    dsimp only [s_ins, s_iadd] at h
    split at h
    · exact aw_iadd X o1 (hK _ _ _ _ h)
    · exact h.elim
  case isub =>
    dsimp only [lenI] at o1 o2; subst o2
    dsimp only [s_ins, s_isub] at h
    split at h
    · exact aw_isub X o1 (hK _ _ _ _ h)
    · exact h.elim
  case imul =>
    dsimp only [lenI] at o1 o2; subst o2
    dsimp only [s_ins, s_imul] at h
    split at h
    · exact aw_imul X o1 (hK _ _ _ _ h)
    · exact h.elim
  case iand =>
    dsimp only [lenI] at o1 o2; subst o2
    dsimp only [s_ins, s_iand] at h
    split at h
    · exact aw_iand X o1 (hK _ _ _ _ h)
    · exact h.elim
  case ior =>
    dsimp only [lenI] at o1 o2; subst o2
    dsimp only [s_ins, s_ior] at h
    split at h
    · exact aw_ior X o1 (hK _ _ _ _ h)
    · exact h.elim
  case ixor =>
    dsimp only [lenI] at o1 o2; subst o2
    dsimp only [s_ins, s_ixor] at h
    split at h
    · exact aw_ixor X o1 (hK _ _ _ _ h)
    · exact h.elim
  case idiv =>
    dsimp only [lenI] at o1 o2; subst o2
    dsimp only [s_ins, s_idiv] at h
    split at h
    · exact aw_idiv X h.1 o1 (hK _ _ _ _ h.2)
    · exact h.elim
  case irem =>
    dsimp only [lenI] at o1 o2; subst o2
    dsimp only [s_ins, s_irem] at h
    split at h
    · exact aw_irem X h.1 o1 (hK _ _ _ _ h.2)
    · exact h.elim
  case ishl =>
    dsimp only [lenI] at o1 o2; subst o2
    dsimp only [s_ins, s_ishl] at h
    split at h
    · exact aw_ishl X h.1 o1 (hK _ _ _ _ h.2)
    · exact h.elim
  case ishr =>
    dsimp only [lenI] at o1 o2; subst o2
    dsimp only [s_ins, s_ishr] at h
    split at h
    · exact aw_ishr X h.1 o1 (hK _ _ _ _ h.2)
    · exact h.elim
  case iushr =>
    dsimp only [lenI] at o1 o2; subst o2
    dsimp only [s_ins, s_iushr] at h
    split at h
    · exact aw_iushr X h.1 o1 (hK _ _ _ _ h.2)
    · exact h.elim
  case ineg =>
    dsimp only [lenI] at o1 o2; subst o2
    dsimp only [s_ins, s_ineg] at h
    split at h
    · exact aw_ineg X o1 (hK _ _ _ _ h)
    · exact h.elim
  case ladd =>
    dsimp only [lenI] at o1 o2; subst o2
    dsimp only [s_ins, s_ladd] at h
    split at h
    · exact aw_ladd X o1 (hK _ _ _ _ h)
    · exact h.elim
  case lsub =>
    dsimp only [lenI] at o1 o2; subst o2
    dsimp only [s_ins, s_lsub] at h
    split at h
    · exact aw_lsub X o1 (hK _ _ _ _ h)
    · exact h.elim
  case lmul =>
    dsimp only [lenI] at o1 o2; subst o2
    dsimp only [s_ins, s_lmul] at h
    split at h
    · exact aw_lmul X o1 (hK _ _ _ _ h)
    · exact h.elim
  case ldiv =>
    dsimp only [lenI] at o1 o2; subst o2
    dsimp only [s_ins, s_ldiv] at h
    split at h
    · exact aw_ldiv X h.1 o1 (hK _ _ _ _ h.2)
    · exact h.elim
  case lrem =>
    dsimp only [lenI] at o1 o2; subst o2
    dsimp only [s_ins, s_lrem] at h
    split at h
    · exact aw_lrem X h.1 o1 (hK _ _ _ _ h.2)
    · exact h.elim
  case lneg =>
    dsimp only [lenI] at o1 o2; subst o2
    dsimp only [s_ins, s_lneg] at h
    split at h
    · exact aw_lneg X o1 (hK _ _ _ _ h)
    · exact h.elim
  case lshr =>
    dsimp only [lenI] at o1 o2; subst o2
    dsimp only [s_ins, s_lshr] at h
    split at h
    · exact aw_lshr X h.1 o1 (hK _ _ _ _ h.2)
    · exact h.elim
  case lcmp =>
    dsimp only [lenI] at o1 o2; subst o2
    dsimp only [s_ins, s_lcmp] at h
    split at h
    · exact aw_lcmp X h.1 o1 (hK _ _ _ _ h.2)
    · exact h.elim
  case i2l =>
    dsimp only [lenI] at o1 o2; subst o2
    dsimp only [s_ins, s_i2l] at h
    split at h
    · exact aw_i2l X h.1 o1 (hK _ _ _ _ h.2)
    · exact h.elim
  case l2i =>
    dsimp only [lenI] at o1 o2; subst o2
    dsimp only [s_ins, s_l2i] at h
    split at h
    · exact aw_l2i X o1 (hK _ _ _ _ h)
    · exact h.elim
  case dup =>
    dsimp only [lenI] at o1 o2; subst o2
    dsimp only [s_ins, s_dup] at h
    split at h
    · exact aw_dup X rfl o1 (hK _ _ _ _ h)
    · exact aw_dup X rfl o1 (hK _ _ _ _ h)
    · exact h.elim
  case dup2 =>
    dsimp only [lenI] at o1 o2; subst o2
    dsimp only [s_ins, s_dup2] at h
    split at h
    · exact aw_dup2 X rfl rfl o1 (hK _ _ _ _ h)
    · exact h.elim
  case pop =>
    dsimp only [lenI] at o1 o2; subst o2
    dsimp only [s_ins, s_pop] at h
    split at h
    · exact aw_pop X rfl o1 (hK _ _ _ _ h)
    · exact aw_pop X rfl o1 (hK _ _ _ _ h)
    · exact h.elim
  case ifCond k o =>
    dsimp only [lenI] at o1 o2; subst o2
    dsimp only [s_ins, s_if] at h
    split at h
    · simp only [offI, List.map_cons, List.map_nil, List.cons.injEq, and_true] at o3
      exact aw_if X o3 o1 (s_br_mono (hK _ _ _ _) (hK _ _ _ _) h)
    · exact h.elim
  case if_icmp k o =>
    dsimp only [lenI] at o1 o2; subst o2
    dsimp only [s_ins, s_icmp] at h
    split at h
    · simp only [offI, List.map_cons, List.map_nil, List.cons.injEq, and_true] at o3
      exact aw_icmp X o3 o1 (s_br_mono (hK _ _ _ _) (hK _ _ _ _) h)
    · exact h.elim
  case goto o =>
    dsimp only [lenI] at o1 o2; subst o2
    dsimp only [s_ins, s_goto] at h
    split at h
    · simp only [offI, List.map_cons, List.map_nil, List.cons.injEq, and_true] at o3
      exact aw_goto X o3 o1 (hK _ _ _ _ h)
    · exact h.elim
  case tableswitch d lo hi os =>
    dsimp only [s_ins, s_sw] at h
    split at h
    · rename_i x r dt ts
      have hsw : ∀ (ts : List Nat) (lo : Int), s_sws (fun t => K t lc r M) x lo ts → s_sws (fun t => AW p l e R s m args below meth c nL Z (MQ below (Qcall Z k g vs M0) args s 0 0 (zB Z)) t lc r M) x lo ts := by
        intro ts
        induction ts with
        | nil => intro lo h; trivial
        | cons a b ih => intro lo h; exact ⟨fun q => hK _ _ _ _ (h.1 q), ih _ h.2⟩
      exact aw_sw X (of_decide_eq_true o4) o3 o1 h.1 (fun q => hK _ _ _ _ (h.2.1 q)) (hsw ts lo h.2.2)
    · exact h.elim
  case getfield ix =>
    dsimp only [lenI] at o1 o2; subst o2
    dsimp only [s_ins, s_getf] at h
    split at h
    · rename_i ci kk t o r e
      have hq := hP.2.1 _ (lkN_mem e)
      have h4 := hq.2.2.2
      dsimp only at h4
      have h5 := hK _ _ _ _ h.2
      rw [← h4.2 o h.1] at h5
      exact aw_getr X ⟨hq.1, hq.2.1, hP.1, hq.2.2.1⟩ h4.1 h.1 o1 h5
    · rename_i ci kk t o r e
      have hq := hP.2.1 _ (lkN_mem e)
      have h4 := hq.2.2.2
      dsimp only at h4
      have h5 := hK _ _ _ _ h.2
      rw [← h4.2 o h.1] at h5
      exact aw_getr X ⟨hq.1, hq.2.1, hP.1, hq.2.2.1⟩ h4.1 h.1 o1 h5
    · rename_i ci kk wh t o r hn4 hn2 e
      have hq := hP.2.1 _ (lkN_mem e)
      have hri : isRefT (tyF ci kk) = false := by
        have h4 := hq.2.2.2
        match wh, hn4, hn2, h4 with
        | 0, _, _, h4 => rw [h4.1]; rfl
        | 1, _, _, h4 => rw [h4.1]; rfl
        | 2, _, hne, _ => exact (hne rfl).elim
        | 3, _, _, h4 => exact h4
        | 4, hne, _, _ => exact (hne rfl).elim
        | n + 5, _, _, h4 => exact h4.elim
      exact aw_geti X ⟨hq.1, hq.2.1, hP.1, hq.2.2.1⟩ hri h.1 o1 (hK _ _ _ _ h.2)
    · exact h.elim
  case putfield ix =>
    dsimp only [lenI] at o1 o2; subst o2
    dsimp only [s_ins, s_putf] at h
    split at h
    · rename_i ci kk t9 x o r e
      have hq := hP.2.1 _ (lkN_mem e)
      exact aw_puti X ⟨hq.1, hq.2.1, hP.1, hq.2.2.1⟩ hq.2.2.2.2 (Or.inl hq.2.2.2.1) h.1 o1 (hK _ _ _ _ h.2)
    · rename_i ci kk t9 x o r e
      have hq := hP.2.1 _ (lkN_mem e)
      exact aw_puti X ⟨hq.1, hq.2.1, hP.1, hq.2.2.1⟩ hq.2.2.2.2 (Or.inr ⟨hq.2.2.2.1, h.1.2⟩) h.1.1 o1 (hK _ _ _ _ h.2)
    · exact h.elim
  case iaload =>
    dsimp only [lenI] at o1 o2; subst o2
    dsimp only [s_ins, s_ald] at h
    split at h
    · exact aw_iald X (hln _) h.1 o1 (hK _ _ _ _ h.2)
    · exact h.elim
  case baload =>
    dsimp only [lenI] at o1 o2; subst o2
    dsimp only [s_ins, s_ald] at h
    split at h
    · exact aw_zald X (hln _) h.1 o1 (hK _ _ _ _ h.2)
    · exact h.elim
  case iastore =>
    dsimp only [lenI] at o1 o2; subst o2
    dsimp only [s_ins, s_iast] at h
    split at h
    · exact aw_iast X (hln _) h.1 o1 (hK _ _ _ _ h.2)
    · exact h.elim
  case bastore =>
    dsimp only [lenI] at o1 o2; subst o2
    dsimp only [s_ins, s_bast] at h
    split at h
    · exact aw_zast X (hln _) h.1 o1 (hK _ _ _ _ h.2)
    · exact h.elim
  case arraylength =>
    dsimp only [lenI] at o1 o2; subst o2
    dsimp only [s_ins, s_alen] at h
    split at h
    · exact aw_alen X h.1 o1 (hK _ _ _ _ h.2)
    · exact h.elim
  case invokevirtual ix =>
    dsimp only [lenI] at o1 o2; subst o2
    dsimp only [s_ins, s_inv] at h
    split at h
    · rename_i hb; cases hb
    · rename_i kd cl e hb
      obtain ⟨vr, rest, e1, e2, h3⟩ := splA_iff h
      subst e2
      cases hcat : okA (vr.reverse ++ []) rest with
      | false => rw [hcat] at h3; exact h3.elim
      | true =>
      rw [hcat] at h3
      dsimp only [cond_true] at h3
      simp only [List.append_nil] at h3 hcat
      have hq := hC _ (lkN_mem e)
      have h3 : s_rcv kd vr.reverse (s_go cl vr.reverse rest K (pc + 3) lc M) := h3
      cases hv : vr.reverse with
      | nil => rw [hv] at h3; exact h3.elim
      | cons v0 vs0 =>
      rcases v0 with x | x | o
      · rw [hv] at h3; exact h3.elim
      · rw [hv] at h3; exact h3.elim
      · rw [hv] at h3
        obtain ⟨gg, g1, g2⟩ := s_go_aft hK h3.2
        have := hq pc lc (.inr (.inr o) :: vs0) rest M o1 h3.1 (by rw [← hv]; simpa using e1) (okA_iff hcat).1 (by rw [← hv]; exact (okA_iff hcat).2) gg g1 g2
        rw [← hv, List.reverse_reverse] at this
        exact this
    · exact h.elim
  case invokestatic ix =>
    dsimp only [lenI] at o1 o2; subst o2
    dsimp only [s_ins, s_inv] at h
    split at h
    · rename_i cl e hb
      obtain ⟨vr, rest, e1, e2, h3⟩ := splA_iff h
      subst e2
      cases hcat : okA (vr.reverse ++ []) rest with
      | false => rw [hcat] at h3; exact h3.elim
      | true =>
      rw [hcat] at h3
      dsimp only [cond_true] at h3
      simp only [List.append_nil] at h3 hcat
      have hq := hC _ (lkN_mem e)
      obtain ⟨gg, g1, g2⟩ := s_go_aft hK h3
      have := hq pc lc vr.reverse rest M o1 trivial (by simpa using e1) (okA_iff hcat).1 (okA_iff hcat).2 gg g1 g2
      rw [List.reverse_reverse] at this
      exact this
    · rename_i hb; cases hb
    · exact h.elim
  case ireturn => dsimp only [lenI] at o1 o2; exact aw_iret X hr hlocks hrt o1 h
  case return_ => dsimp only [lenI] at o1 o2; exact aw_ret X hr hlocks hrt o1 h
  all_goals exact h.elim
theorem s_run_sound {t : Tt} {N rt : Nat} {P : Pool} {k : Call} {g : k.1} {vs : List AV} {M0 : Mem} {ret : Option FieldType} (X : CX p s m args c cc nL own Ts Z) (hr : meth.sig.returnType = ret) (hlocks : meth.locks = false) (hrt : rtOk ret rt k) (hT : okT cc (tWn N t) N nL = true) (hP : PoolW own Ts P) (hln : ∀ a, lnF (zN Z) a < 2147483648)
    (hC : ∀ q ∈ P.2.2.2, CallOk (AW p l e R s m args below meth c nL Z (MQ below (Qcall Z k g vs M0) args s 0 0 (zB Z))) cc q) (stops : List Nat) :
    ∀ (n pc : Nat) (lc : Lc) (st : List AV) (M : Mem), s_run (tWn N t) P (rvF k g vs M0 rt) (zN Z) (AW p l e R s m args below meth c nL Z (MQ below (Qcall Z k g vs M0) args s 0 0 (zB Z))) stops n pc lc st M → AW p l e R s m args below meth c nL Z (MQ below (Qcall Z k g vs M0) args s 0 0 (zB Z)) pc lc st M := by
  intro n
  induction n with
  | zero => intro pc lc st M h; exact h
  | succ n ih =>
    intro pc lc st M h
    refine s_one_sound X hr hlocks hrt hT hP hln hC (fun pc lc st M h => ?_) h
    cases hs : elN stops pc with
    | true => rw [hs] at h; exact h.1
    | false => rw [hs] at h; exact ih pc lc st M h
end RULE
end
section
/-! ===== contracts of methods, and calls by them ===== -/
abbrev rmd (d : Nat) : Room := { frames := d, cells := 0, slots := 0, locals := 64 * d }
abbrev WSy (y : MethodName) (cc : ByteArray) (maxL : Nat) (ret : Option FieldType) : List Jvm.Cond := Jvm.Cond.code y cc maxL ret :: BIG
abbrev GWd (Z : ZT) (M : Mem) (U : State) : Prop := va_P Z.1 vwCl (wldF Z M) U.heap ∧ va_K Z.1 vwCl (zT Z) U
/-- method y keeps contract k within d frames -/
def Impl (l : Launch) (Z : ZT) (y : MethodName) (cc : ByteArray) (maxL : Nat) (ret : Option FieldType) (d : Nat) (k : Call) : Prop := ∀ (g : k.1) (vs : List AV) (M : Mem), vs.length = k.2.1 → noLng vs = true → k.2.2.1 g vs M →
  Met l y (WSy y cc maxL ret) (rmd d) (va_Pc (vs.map (cvF Z)) (GWd Z M)) (Qcall Z k g vs M) 0 0 (zB Z)
theorem good_big {x : Jvm.Cond} {L : List Jvm.Cond} (h : ∀ w ∈ L, w ∈ BIG) : GoodIn (x :: BIG) L := fun w hw => ⟨List.mem_cons_of_mem _ (h w hw), good_of_word (big_gd w (h w hw))⟩
theorem gw_blind {Z : ZT} {M : Mem} {av : List Value} : FrameBlind (va_Pc av (GWd Z M)) := fun a U g mk q => ⟨q.1, q.2.1, va_K.moved (u := U) (U := U.calling g mk a) (Vm.Alike.refl U.vm) q.2.2⟩
theorem cat_sum (Z : ZT) (st : List AV) : ((st.map (cvF Z)).map fun v => v.category).sum = catA st := by
  induction st with
  | nil => rfl
  | cons v r ih =>
    rcases v with x | x | x
    · simp [cvF, Value.category, catA, ih] at *; omega
    · simp [cvF, Value.category, catA, ih] at *; omega
    · simp [cvF, Value.category, catA, ih] at *; omega
section CALLS
variable {p : Program} {l : Launch} {e : Env} {s : State} {m : MethodId} {args : Array Value} {below : List Frame} {meth : Method} {c : Code} {Q : State → Prop} {cc : ByteArray} {nL : Nat} {own : String} {x0 : Jvm.Cond} {Z : ZT}
theorem callOk_V {d d' maxL kd ix : Nat} {y : MethodName} {cc' : ByteArray} {ret : Option FieldType} {k : Call} (X : CX p s m args c cc nL own (x0 :: BIG) Z) (hI : Impl l Z y cc' maxL ret d' k) (hk : kd < 9) (hyc : y.cls = tnF kd) (hml : Jvm.Cond.methodLink own ix y ∈ BIG) (hiw : Jvm.Cond.instanceMethod y ∈ BIG) (hvw : Jvm.Cond.selects y.cls y y ∈ BIG) (hnw : Jvm.Cond.initialized y.cls ∈ BIG) (hcw : Jvm.Cond.code y cc' maxL ret ∈ BIG)
    (hd : y.cls ≠ "java/lang/invoke/MethodHandle" ∧ y.cls ≠ "java/lang/invoke/VarHandle" ∧ (parseMethodDescriptor y.desc).map (fun d => d.parameters.length) = some (k.2.1 - 1)) (hlev : d' + 1 ≤ d ∧ maxL ≤ 45) :
    CallOk (AW p l e (rmd d) s m args below meth c nL Z Q) cc (ix, some kd, k) := by
  intro pc lc vs rest M hdec hrc hlen hcat hnl g hpre haft
  match vs, hrc, hlen, hnl, hpre, haft with
  | .inr (.inr o) :: vs', hrc, hlen, hnl, hpre, haft =>
  intro H locs ls hl hP hS
  have hst : (((.inr (.inr o) : AV) :: vs').reverse ++ rest).map (cvF Z) = (vs'.map (cvF Z)).reverse ++ .ref (zA Z o) :: rest.map (cvF Z) := by
    simp [cvF]
  rw [hst]
  have hM := hI g (.inr (.inr o) :: vs') M hlen hnl hpre
  have hlsz : ls.size = nL := by obtain ⟨-, lv, h1, -⟩ := hl; exact h1.1
  have hG : GoodIn (x0 :: BIG) (wsV own ix y.cls y (WSy y cc' maxL ret)) := good_big (fun w hw => by
    rcases List.mem_append.mp hw with hw | hw
    · simp only [List.mem_cons, List.not_mem_nil, or_false] at hw
      rcases hw with rfl | rfl | rfl | rfl <;> assumption
    · rcases List.mem_cons.mp hw with rfl | hw
      · exact hcw
      · exact hw)
  have hcw2 : CallW (rmd d) s args own y.cls ix y cc' maxL ret (WSy y cc' maxL ret) (rmd d') 0 0 (k.2.1 - 1) := cwV (k.2.1 - 1) X.2.2.2.2.1 hG rfl rfl rfl ⟨rfl, hd⟩ ⟨hlev.1, by have := hlev.1; have := hlev.2; show 8 + (maxL + 11) + 64 * d' ≤ 64 * d; omega⟩
  have h6 : o < 67 := kdF_lt (by have : kdF o = kd := hrc; omega)
  have hrecv : ∃ cellB : Cell, H[zA Z o]? = some cellB ∧ cellB.vm.isStatics = false ∧ s.vm.findClass y.cls = some cellB.cls := by
    have hrc : kdF o = kd := hrc
    have := va_recv X.2.2.2.2.2.1 hP (kindF kd hk).1 (q0 := o) (a := zA Z o) (fs := (List.range (nfF (kdF o))).map (fldF Z M o)) ((wldF_at Z M h6).trans (by rw [cellF_o Z M (by omega), hrc]))
    rw [hyc]
    exact this
  have hpv : PreV s H y.cls (zA Z o) (va_Pc (((.inr (.inr o) : AV) :: vs').map (cvF Z)) (GWd Z M)) (vs'.map (cvF Z)) := ⟨gw_blind, hrecv, fun U hU hW => ⟨rfl, by rw [hU]; exact hP, va_K.moved hW.alike X.2.2.2.2.2.1⟩⟩
  obtain ⟨G, kn, kp, kq⟩ := k
  have hlv : (vs'.map (cvF Z)).length = kn - 1 := by have : (vs'.length + 1) = kn := hlen; simp; omega
  have hrun := va_runV (g := F0 m pc ls ((vs'.map (cvF Z)).reverse ++ .ref (zA Z o) :: rest.map (cvF Z))) (As := vs'.map (cvF Z)) (rest := rest.map (cvF Z)) (locs := locs) (cells := 0) (slots := 0) (below := below) (e := e) (meth := meth) (H := H) ⟨X.1, X.2.1, X.2.2.1, X.2.2.2.1, X.2.2.2.2.1⟩ hM hcw2 hpv rfl hlv hlsz rfl (lv_room (by rw [cat_sum]; exact hcat)) hdec ⟨Nat.le_refl _, Nat.le_refl _⟩
  cases kq with
  | inl pv =>
    refine va_callv (a := (((.inr (.inr o) : AV) :: vs').map (cvF Z)).toArray) hrun hS (fun q _ h => h) (fun q h => h) (fun u t H1 locs1 ht hvm hw hB hz hk1 hS1 => ?_)
    rw [ht] at hB
    exact haft u hw H1 locs1 ls hl hB.1 hS1
  | inr pi =>
    refine va_calli (a := (((.inr (.inr o) : AV) :: vs').map (cvF Z)).toArray) hrun hS (fun q _ h => h) (fun q h => h) (fun r u t H1 locs1 ht hvm hw hB hz hk1 hS1 => ?_)
    rw [ht] at hB
    have := haft u.1 u.2 hw.2 H1 locs1 ls hl hB.1 hS1
    rw [hw.1]
    exact this
theorem callOk_S {d d' maxL ix : Nat} {y : MethodName} {cc' : ByteArray} {ret : Option FieldType} {k : Call} (X : CX p s m args c cc nL own (x0 :: BIG) Z) (hI : Impl l Z y cc' maxL ret d' k) (hml : Jvm.Cond.methodLink own ix y ∈ BIG) (hsw : Jvm.Cond.static y ∈ BIG) (hnw : Jvm.Cond.initialized y.cls ∈ BIG) (hcw : Jvm.Cond.code y cc' maxL ret ∈ BIG)
    (hd : y.cls ≠ "java/lang/invoke/MethodHandle" ∧ y.cls ≠ "java/lang/invoke/VarHandle" ∧ (parseMethodDescriptor y.desc).map (fun d => d.parameters.length) = some k.2.1) (hlev : d' + 1 ≤ d ∧ maxL ≤ 45) :
    CallOk (AW p l e (rmd d) s m args below meth c nL Z Q) cc (ix, none, k) := by
  intro pc lc vs rest M hdec hrc hlen hcat hnl g hpre haft
  intro H locs ls hl hP hS
  have hst : (vs.reverse ++ rest).map (cvF Z) = (vs.map (cvF Z)).reverse ++ rest.map (cvF Z) := by simp
  rw [hst]
  have hM := hI g vs M hlen hnl hpre
  have hlsz : ls.size = nL := by obtain ⟨-, lv, h1, -⟩ := hl; exact h1.1
  have hG : GoodIn (x0 :: BIG) (va_wsS own ix y (WSy y cc' maxL ret)) := good_big (fun w hw => by
    rcases List.mem_append.mp hw with hw | hw
    · simp only [List.mem_cons, List.not_mem_nil, or_false] at hw
      rcases hw with rfl | rfl | rfl <;> assumption
    · rcases List.mem_cons.mp hw with rfl | hw
      · exact hcw
      · exact hw)
  have hcw2 := va_cwS (R := rmd d) (rm := rmd d') (mc := 0) (ms := 0) k.2.1 X.2.2.2.2.1 hG rfl rfl rfl hd ⟨hlev.1, by have := hlev.1; have := hlev.2; show 8 + (maxL + 11) + 64 * d' ≤ 64 * d; omega⟩
  have hpv : PreS s H (va_Pc (vs.map (cvF Z)) (GWd Z M)) (vs.map (cvF Z)) := ⟨gw_blind, fun U hU hW => ⟨rfl, by rw [hU]; exact hP, va_K.moved hW.alike X.2.2.2.2.2.1⟩⟩
  obtain ⟨G, kn, kp, kq⟩ := k
  have hlv : (vs.map (cvF Z)).length = kn := by simpa using hlen
  have hrun := va_runS (g := F0 m pc ls ((vs.map (cvF Z)).reverse ++ rest.map (cvF Z))) (As := vs.map (cvF Z)) (rest := rest.map (cvF Z)) (locs := locs) (cells := 0) (slots := 0) (below := below) (e := e) (meth := meth) (H := H) ⟨X.1, X.2.1, X.2.2.1, X.2.2.2.1, X.2.2.2.2.1⟩ hM hcw2 hpv rfl hlv hlsz rfl (lv_room (by rw [cat_sum]; exact hcat)) hdec ⟨Nat.le_refl _, Nat.le_refl _⟩
  cases kq with
  | inl pv =>
    refine va_callv (a := (vs.map (cvF Z)).toArray) hrun hS (fun q _ h => h) (fun q h => h) (fun u t H1 locs1 ht hvm hw hB hz hk1 hS1 => ?_)
    rw [ht] at hB
    exact haft u hw H1 locs1 ls hl hB.1 hS1
  | inr pi =>
    refine va_calli (a := (vs.map (cvF Z)).toArray) hrun hS (fun q _ h => h) (fun q h => h) (fun r u t H1 locs1 ht hvm hw hB hz hk1 hS1 => ?_)
    rw [ht] at hB
    have := haft u.1 u.2 hw.2 H1 locs1 ls hl hB.1 hS1
    rw [hw.1]
    exact this
/-- arraycopy between rows of ints, as a contract -/
def cpC (n : Nn) : Call := ⟨Unit, 5, (fun _ vs _ => match vs with
  | [.inr (.inr a), .inl sp, .inr (.inr b), .inl dp, .inl k] => kdF a = 100 ∧ kdF b = 100 ∧ 0 ≤ sp ∧ 0 ≤ dp ∧ 0 ≤ k ∧ sp + k ≤ (lnF n a : Int) ∧ dp + k ≤ (lnF n b : Int)
  | _ => False), .inl (fun _ vs M M' => match vs with
  | [.inr (.inr a), .inl sp, .inr (.inr b), .inl dp, .inl k] => M' = va_up M b (va_cpy (M a) (M b) sp.toNat dp.toNat k.toNat)
  | _ => False)⟩
theorem callOk_cp {d ix : Nat} (X : CX p s m args c cc nL own (x0 :: BIG) Z) (hln : ∀ a, lnF (zN Z) a < 2147483648) (hw : Jvm.Cond.methodLink own ix arraycopyName ∈ BIG ∧ Jvm.Cond.native arraycopyName ∈ BIG ∧ Jvm.Cond.static arraycopyName ∈ BIG ∧ Jvm.Cond.initialized "java/lang/System" ∈ BIG) (hd : 1 ≤ d) :
    CallOk (AW p l e (rmd d) s m args below meth c nL Z Q) cc (ix, none, cpC (zN Z)) := by
  intro pc lc vs rest M hdec hrc hlen hcat hnl g hpre haft
  match vs, hpre, haft with
  | [.inr (.inr a), .inl sp, .inr (.inr b), .inl dp, .inl k], hpre, haft =>
  exact aw_copy X ⟨List.mem_cons_of_mem _ hw.1, List.mem_cons_of_mem _ hw.2.1, List.mem_cons_of_mem _ hw.2.2.1, List.mem_cons_of_mem _ hw.2.2.2⟩ (hln a) (hln b) ⟨hd, by show 40 ≤ 64 * d; omega⟩ hcat hpre hdec (haft _ rfl)
end CALLS
/-- a call of a method's own pool that is in order, whatever the machine's state -/
def CallI (l : Launch) (Z : ZT) (own : String) (d : Nat) (q : Nat × Option Nat × Call) : Prop := ∀ (p : Program) (e : Env) (s : State) (m : MethodId) (args : Array Value) (below : List Frame) (meth : Method) (c : Code) (Q : State → Prop) (cc : ByteArray) (nL : Nat) (x0 : Jvm.Cond), CX p s m args c cc nL own (x0 :: BIG) Z → CallOk (AW p l e (rmd d) s m args below meth c nL Z Q) cc q
theorem lv_args_mem (Z : ZT) (vs : List AV) : ∀ (i j : Nat) (w : AV), noLng vs = true → vs[j]? = some w → (i + j, cvF Z w) ∈ lv_args i (vs.map (cvF Z)) := by
  induction vs with
  | nil => intro i j w _ h; simp at h
  | cons v r ih =>
    intro i j w hn h
    have hv : (cvF Z v).category = 1 ∧ noLng r = true := by
      rcases v with x | x | x
      · exact ⟨rfl, hn⟩
      · cases hn
      · exact ⟨rfl, hn⟩
    rw [List.map_cons, lv_args]
    cases j with
    | zero => simp at h; subst h; exact List.mem_cons_self
    | succ j =>
      refine List.mem_cons_of_mem _ ?_
      rw [if_neg (by rw [hv.1]; decide)]
      have := ih (i + 1) j w hv.2 (by simpa using h)
      rw [show i + (j + 1) = i + 1 + j by omega]
      exact this
theorem lg_sl_len (Z : ZT) (vs : List AV) (h : noLng vs = true) : (lg_sl (vs.map (cvF Z))).length = vs.length := by
  induction vs with
  | nil => rfl
  | cons v r ih =>
    have hv : (cvF Z v).category = 1 ∧ noLng r = true := by
      rcases v with x | x | x
      · exact ⟨rfl, h⟩
      · cases h
      · exact ⟨rfl, h⟩
    have e : lg_sl (cvF Z v :: r.map (cvF Z)) = (if (cvF Z v).category = 2 then [Slot.val (cvF Z v), .second] else [Slot.val (cvF Z v)]) ++ lg_sl (r.map (cvF Z)) := by
      unfold lg_sl
      rw [List.flatMap_cons]
    rw [List.map_cons, e, if_neg (by rw [hv.1]; decide), List.length_append, ih hv.2]
    simp
    omega
/-- what is checked of a method's pool by computation, as a proposition -/
def FdW (own : String) (F : List (Nat × Nat × Nat × Nat × Nat)) : Prop := ∀ q ∈ F, q.2.1 < 9 ∧ q.2.2.1 < nfF q.2.1 ∧ Jvm.Cond.fieldLink own q.1 (ttF q.2.1 q.2.2.1).1 (ttF q.2.1 q.2.2.1).2.1 (ttF q.2.1 q.2.2.1).2.2.1 ∈ BIG ∧ (match q.2.2.2.1 with
  | 0 => tyF q.2.1 q.2.2.1 = .int ∧ (ttF q.2.1 q.2.2.1).2.2.2 = false
  | 1 => tyF q.2.1 q.2.2.1 = .boolean ∧ (ttF q.2.1 q.2.2.1).2.2.2 = false
  | 2 => isRefT (tyF q.2.1 q.2.2.1) = true ∧ ∀ o, kdF o = q.2.1 → rfF o q.2.2.1 = o + 1
  | 3 => isRefT (tyF q.2.1 q.2.2.1) = false
  | 4 => isRefT (tyF q.2.1 q.2.2.1) = true ∧ ∀ o, kdF o = q.2.1 → rfF o q.2.2.1 = q.2.2.2.2
  | _ => False)
def fdKB (q : Nat × Nat × Nat × Nat × Nat) : Bool := match q.2.2.2.1 with
  | 0 => decide (tyF q.2.1 q.2.2.1 = .int) && !(ttF q.2.1 q.2.2.1).2.2.2
  | 1 => decide (tyF q.2.1 q.2.2.1 = .boolean) && !(ttF q.2.1 q.2.2.1).2.2.2
  | 2 => isRefT (tyF q.2.1 q.2.2.1) && (List.range 67).all (fun o => decide (kdF o = q.2.1 → rfF o q.2.2.1 = o + 1))
  | 3 => !isRefT (tyF q.2.1 q.2.2.1)
  | 4 => isRefT (tyF q.2.1 q.2.2.1) && (List.range 67).all (fun o => decide (kdF o = q.2.1 → rfF o q.2.2.1 = q.2.2.2.2))
  | _ => false
theorem fdW_of (own : String) (F : List (Nat × Nat × Nat × Nat × Nat)) (ps : List Nat) (h1 : (F.map (fun q => Jvm.Cond.fieldLink own q.1 (ttF q.2.1 q.2.2.1).1 (ttF q.2.1 q.2.2.1).2.1 (ttF q.2.1 q.2.2.1).2.2.1)).map some = ps.map (fun i => lw_tbl[i]?)) (h2 : F.all (fun q => decide (q.2.1 < 9) && (decide (q.2.2.1 < nfF q.2.1) && fdKB q)) = true) : FdW own F := by
  have hb := bigAll (F.map (fun q => Jvm.Cond.fieldLink own q.1 (ttF q.2.1 q.2.2.1).1 (ttF q.2.1 q.2.2.1).2.1 (ttF q.2.1 q.2.2.1).2.2.1)) ps h1 (by
    rw [List.all_eq_true]
    intro w hw
    obtain ⟨q, -, rfl⟩ := List.mem_map.mp hw
    rfl)
  intro q hq
  have h3 := List.all_eq_true.mp h2 q hq
  simp only [Bool.and_eq_true, decide_eq_true_eq] at h3
  refine ⟨h3.1, h3.2.1, hb _ (List.mem_map.mpr ⟨q, hq, rfl⟩), ?_⟩
  have h4 := h3.2.2
  have h9 := h3.1
  obtain ⟨ix, ci, kk, wh, t⟩ := q
  unfold fdKB at h4
  dsimp only at h4 h9 ⊢
  match wh, h4 with
  | 0, h4 => simpa using h4
  | 1, h4 => simpa using h4
  | 2, h4 =>
    simp only [Bool.and_eq_true, List.all_eq_true] at h4
    exact ⟨h4.1, fun o ho => of_decide_eq_true (h4.2 o (List.mem_range.mpr (kd9 ho h9))) ho⟩
  | 3, h4 => simpa using h4
  | 4, h4 =>
    simp only [Bool.and_eq_true, List.all_eq_true] at h4
    exact ⟨h4.1, fun o ho => of_decide_eq_true (h4.2 o (List.mem_range.mpr (kd9 ho h9))) ho⟩
  | n + 5, h4 => cases h4
def IcW (own : String) (F : List (Nat × Int)) : Prop := ∀ q ∈ F, Jvm.Cond.constant own q.1 (Int32.ofInt q.2) ∈ BIG
def LcW (own : String) (F : List (Nat × Int)) : Prop := ∀ q ∈ F, Jvm.Cond.constantLong own q.1 (Int64.ofInt q.2) ∈ BIG
theorem icW_of (own : String) (F : List (Nat × Int)) (ps : List Nat) (h1 : (F.map (fun q => Jvm.Cond.constant own q.1 (Int32.ofInt q.2))).map some = ps.map (fun i => lw_tbl[i]?)) : IcW own F := by
  have hb := bigAll _ ps h1 (by
    rw [List.all_eq_true]
    intro w hw
    obtain ⟨q, -, rfl⟩ := List.mem_map.mp hw
    rfl)
  intro q hq
  exact hb _ (List.mem_map.mpr ⟨q, hq, rfl⟩)
theorem lcW_of (own : String) (F : List (Nat × Int)) (ps : List Nat) (h1 : (F.map (fun q => Jvm.Cond.constantLong own q.1 (Int64.ofInt q.2))).map some = ps.map (fun i => lw_tbl[i]?)) : LcW own F := by
  have hb := bigAll _ ps h1 (by
    rw [List.all_eq_true]
    intro w hw
    obtain ⟨q, -, rfl⟩ := List.mem_map.mp hw
    rfl)
  intro q hq
  exact hb _ (List.mem_map.mpr ⟨q, hq, rfl⟩)
set_option maxHeartbeats 2000000 in
/-- a method that keeps its contract by the steps keeps it in the machine -/
theorem mkImpl {l : Launch} {Z : ZT} {y : MethodName} {cc : ByteArray} {nL N rt d : Nat} {ret : Option FieldType} {k : Call} {t : Tt} {F : List (Nat × Nat × Nat × Nat × Nat)} {I J : List (Nat × Int)} {CL : List (Nat × Option Nat × Call)} (hZ : adOk Z) (hln : ∀ a, lnF (zN Z) a < 2147483648) (hy : plainName y.cls = true) (hT : okT cc (tWn N t) N nL = true) (hF : FdW y.cls F) (hI : IcW y.cls I) (hJ : LcW y.cls J) (hrt : rtOk ret rt k) (hn : k.2.1 ≤ nL)
    (hC : ∀ q ∈ CL, CallI l Z y.cls d q) (hV : Ver (tWn N t) (F, I, J, CL) rt nL (zN Z) k) : Impl l Z y cc nL ret d k := by
  intro g vs M0 hlen hnl hpre
  refine Met.ofW (cc := cc) (maxL := nL) (ret := ret) hy rfl ?_
  intro p e s m args below meth c s₁ B hml hv
  obtain ⟨rfl, hP, hK⟩ := hv
  have hts := atoms_spec (ws := WSy y cc nL ret) B.pre
  have hown : s.vm.findClass y.cls = some m.cls := findClass_of_methodNamed B.named
  have X : CX p s m ((vs.map (cvF Z)).toArray) c cc nL y.cls (WSy y cc nL ret) Z := ⟨B.exec, B.bytes, hml, hown, hts, hK, hZ⟩
  have hPW : PoolW y.cls (WSy y cc nL ret) (F, I, J, CL) := ⟨fun w h => List.mem_cons_of_mem _ h, fun q hq => ⟨(hF q hq).1, (hF q hq).2.1, List.mem_cons_of_mem _ (hF q hq).2.2.1, (hF q hq).2.2.2⟩, fun q hq => List.mem_cons_of_mem _ (hI q hq), fun q hq => List.mem_cons_of_mem _ (hJ q hq)⟩
  have key := hV g vs M0 hpre (AW p l e (rmd d) s m ((vs.map (cvF Z)).toArray) below meth c nL Z (MQ below (Qcall Z k g vs M0) ((vs.map (cvF Z)).toArray) s 0 0 (zB Z)))
    (fun n stops pc lc st M h => s_run_sound X B.returns B.notSynchronized hrt hT hPW hln (fun q hq => hC q hq p e s m _ below meth c _ cc nL _ X) stops n pc lc st M h)
  have hll := lg_sl_len Z vs hnl
  rw [lg_entry_eq]
  refine key s.heap [] _ ⟨?_, lv_args 0 (vs.map (cvF Z)), lv_entry _ (by rw [hll, hlen]; exact hn), ?_⟩ hP va_S.rf
  · simp [entL]; omega
  · intro j w hj
    unfold entL at hj
    by_cases hjl : j < vs.length
    · rw [List.getElem?_append_left (by simpa using hjl), List.getElem?_map] at hj
      cases hq : vs[j]? with
      | none => rw [hq] at hj; cases hj
      | some w' =>
        rw [hq] at hj
        cases hj
        have := lv_args_mem Z vs 0 j w hnl hq
        rwa [Nat.zero_add] at this
    · rw [List.getElem?_append_right (by simpa using hjl), List.getElem?_replicate] at hj
      split at hj <;> cases hj
end
section
/-! ===== the instructions, decoded once: each with what follows it and where it may jump ===== -/
def tJ6_numberOfLeadingZeros_0f7a4 : Tt := tWn 79 (fun pc => cond (Nat.blt pc 46) (cond (Nat.blt pc 22) (cond (Nat.blt pc 13) (cond (Nat.blt pc 5) (cond (Nat.blt pc 1) (cond (Nat.beq pc 0) (some (.iload_n 0, 1, [])) none) (cond (Nat.blt pc 4) (cond (Nat.beq pc 1) (some (.ifCond .gt 14, 4, [15])) none) (cond (Nat.beq pc 4) (some (.iload_n 0, 5, [])) none))) (cond (Nat.blt pc 8) (cond (Nat.beq pc 5) (some (.ifCond .ne 8, 8, [13])) none) (cond (Nat.blt pc 10) (cond (Nat.beq pc 8) (some (.bipush 32, 10, [])) none) (cond (Nat.beq pc 10) (some (.goto 4, 13, [14])) none)))) (cond (Nat.blt pc 17) (cond (Nat.blt pc 14) (cond (Nat.beq pc 13) (some (.iconst 0, 14, [])) none) (cond (Nat.blt pc 15) (cond (Nat.beq pc 14) (some (.ireturn, 15, [])) none) (cond (Nat.beq pc 15) (some (.bipush 31, 17, [])) none))) (cond (Nat.blt pc 18) (cond (Nat.beq pc 17) (some (.istore_n 1, 18, [])) none) (cond (Nat.blt pc 19) (cond (Nat.beq pc 18) (some (.iload_n 0, 19, [])) none) (cond (Nat.beq pc 19) (some (.ldc_w 264, 22, [])) none))))) (cond (Nat.blt pc 33) (cond (Nat.blt pc 29) (cond (Nat.blt pc 25) (cond (Nat.beq pc 22) (some (.if_icmp .lt 11, 25, [33])) none) (cond (Nat.blt pc 28) (cond (Nat.beq pc 25) (some (.iinc 1 (-16), 28, [])) none) (cond (Nat.beq pc 28) (some (.iload_n 0, 29, [])) none))) (cond (Nat.blt pc 31) (cond (Nat.beq pc 29) (some (.bipush 16, 31, [])) none) (cond (Nat.blt pc 32) (cond (Nat.beq pc 31) (some (.iushr, 32, [])) none) (cond (Nat.beq pc 32) (some (.istore_n 0, 33, [])) none)))) (cond (Nat.blt pc 40) (cond (Nat.blt pc 34) (cond (Nat.beq pc 33) (some (.iload_n 0, 34, [])) none) (cond (Nat.blt pc 37) (cond (Nat.beq pc 34) (some (.sipush 256, 37, [])) none) (cond (Nat.beq pc 37) (some (.if_icmp .lt 11, 40, [48])) none))) (cond (Nat.blt pc 43) (cond (Nat.beq pc 40) (some (.iinc 1 (-8), 43, [])) none) (cond (Nat.blt pc 44) (cond (Nat.beq pc 43) (some (.iload_n 0, 44, [])) none) (cond (Nat.beq pc 44) (some (.bipush 8, 46, [])) none)))))) (cond (Nat.blt pc 63) (cond (Nat.blt pc 57) (cond (Nat.blt pc 49) (cond (Nat.blt pc 47) (cond (Nat.beq pc 46) (some (.iushr, 47, [])) none) (cond (Nat.blt pc 48) (cond (Nat.beq pc 47) (some (.istore_n 0, 48, [])) none) (cond (Nat.beq pc 48) (some (.iload_n 0, 49, [])) none))) (cond (Nat.blt pc 51) (cond (Nat.beq pc 49) (some (.bipush 16, 51, [])) none) (cond (Nat.blt pc 54) (cond (Nat.beq pc 51) (some (.if_icmp .lt 10, 54, [61])) none) (cond (Nat.beq pc 54) (some (.iinc 1 (-4), 57, [])) none)))) (cond (Nat.blt pc 60) (cond (Nat.blt pc 58) (cond (Nat.beq pc 57) (some (.iload_n 0, 58, [])) none) (cond (Nat.blt pc 59) (cond (Nat.beq pc 58) (some (.iconst 4, 59, [])) none) (cond (Nat.beq pc 59) (some (.iushr, 60, [])) none))) (cond (Nat.blt pc 61) (cond (Nat.beq pc 60) (some (.istore_n 0, 61, [])) none) (cond (Nat.blt pc 62) (cond (Nat.beq pc 61) (some (.iload_n 0, 62, [])) none) (cond (Nat.beq pc 62) (some (.iconst 4, 63, [])) none))))) (cond (Nat.blt pc 73) (cond (Nat.blt pc 70) (cond (Nat.blt pc 66) (cond (Nat.beq pc 63) (some (.if_icmp .lt 10, 66, [73])) none) (cond (Nat.blt pc 69) (cond (Nat.beq pc 66) (some (.iinc 1 (-2), 69, [])) none) (cond (Nat.beq pc 69) (some (.iload_n 0, 70, [])) none))) (cond (Nat.blt pc 71) (cond (Nat.beq pc 70) (some (.iconst 2, 71, [])) none) (cond (Nat.blt pc 72) (cond (Nat.beq pc 71) (some (.iushr, 72, [])) none) (cond (Nat.beq pc 72) (some (.istore_n 0, 73, [])) none)))) (cond (Nat.blt pc 76) (cond (Nat.blt pc 74) (cond (Nat.beq pc 73) (some (.iload_n 1, 74, [])) none) (cond (Nat.blt pc 75) (cond (Nat.beq pc 74) (some (.iload_n 0, 75, [])) none) (cond (Nat.beq pc 75) (some (.iconst 1, 76, [])) none))) (cond (Nat.blt pc 77) (cond (Nat.beq pc 76) (some (.iushr, 77, [])) none) (cond (Nat.blt pc 78) (cond (Nat.beq pc 77) (some (.isub, 78, [])) none) (cond (Nat.beq pc 78) (some (.ireturn, 79, [])) none)))))))
set_option maxRecDepth 100000 in
theorem kJ6_numberOfLeadingZeros_0f7a4 : okT cJ6_numberOfLeadingZeros_0f7a4 tJ6_numberOfLeadingZeros_0f7a4 79 2 = true := by decide +kernel
def tJ6_numberOfTrailingZeros_0f7a4 : Tt := tWn 80 (fun pc => cond (Nat.blt pc 41) (cond (Nat.blt pc 16) (cond (Nat.blt pc 6) (cond (Nat.blt pc 3) (cond (Nat.blt pc 1) (cond (Nat.beq pc 0) (some (.iload_n 0, 1, [])) none) (cond (Nat.blt pc 2) (cond (Nat.beq pc 1) (some (.iconst (-1), 2, [])) none) (cond (Nat.beq pc 2) (some (.ixor, 3, [])) none))) (cond (Nat.blt pc 4) (cond (Nat.beq pc 3) (some (.iload_n 0, 4, [])) none) (cond (Nat.blt pc 5) (cond (Nat.beq pc 4) (some (.iconst 1, 5, [])) none) (cond (Nat.beq pc 5) (some (.isub, 6, [])) none)))) (cond (Nat.blt pc 9) (cond (Nat.blt pc 7) (cond (Nat.beq pc 6) (some (.iand, 7, [])) none) (cond (Nat.blt pc 8) (cond (Nat.beq pc 7) (some (.istore_n 0, 8, [])) none) (cond (Nat.beq pc 8) (some (.iload_n 0, 9, [])) none))) (cond (Nat.blt pc 13) (cond (Nat.blt pc 12) (cond (Nat.beq pc 9) (some (.ifCond .gt 8, 12, [17])) none) (cond (Nat.beq pc 12) (some (.iload_n 0, 13, [])) none)) (cond (Nat.blt pc 15) (cond (Nat.beq pc 13) (some (.bipush 32, 15, [])) none) (cond (Nat.beq pc 15) (some (.iand, 16, [])) none))))) (cond (Nat.blt pc 29) (cond (Nat.blt pc 19) (cond (Nat.blt pc 17) (cond (Nat.beq pc 16) (some (.ireturn, 17, [])) none) (cond (Nat.blt pc 18) (cond (Nat.beq pc 17) (some (.iconst 1, 18, [])) none) (cond (Nat.beq pc 18) (some (.istore_n 1, 19, [])) none))) (cond (Nat.blt pc 23) (cond (Nat.blt pc 20) (cond (Nat.beq pc 19) (some (.iload_n 0, 20, [])) none) (cond (Nat.beq pc 20) (some (.ldc_w 264, 23, [])) none)) (cond (Nat.blt pc 26) (cond (Nat.beq pc 23) (some (.if_icmp .le 11, 26, [34])) none) (cond (Nat.beq pc 26) (some (.iinc 1 16, 29, [])) none)))) (cond (Nat.blt pc 33) (cond (Nat.blt pc 30) (cond (Nat.beq pc 29) (some (.iload_n 0, 30, [])) none) (cond (Nat.blt pc 32) (cond (Nat.beq pc 30) (some (.bipush 16, 32, [])) none) (cond (Nat.beq pc 32) (some (.iushr, 33, [])) none))) (cond (Nat.blt pc 35) (cond (Nat.blt pc 34) (cond (Nat.beq pc 33) (some (.istore_n 0, 34, [])) none) (cond (Nat.beq pc 34) (some (.iload_n 0, 35, [])) none)) (cond (Nat.blt pc 38) (cond (Nat.beq pc 35) (some (.sipush 256, 38, [])) none) (cond (Nat.beq pc 38) (some (.if_icmp .le 11, 41, [49])) none)))))) (cond (Nat.blt pc 62) (cond (Nat.blt pc 50) (cond (Nat.blt pc 47) (cond (Nat.blt pc 44) (cond (Nat.beq pc 41) (some (.iinc 1 8, 44, [])) none) (cond (Nat.blt pc 45) (cond (Nat.beq pc 44) (some (.iload_n 0, 45, [])) none) (cond (Nat.beq pc 45) (some (.bipush 8, 47, [])) none))) (cond (Nat.blt pc 48) (cond (Nat.beq pc 47) (some (.iushr, 48, [])) none) (cond (Nat.blt pc 49) (cond (Nat.beq pc 48) (some (.istore_n 0, 49, [])) none) (cond (Nat.beq pc 49) (some (.iload_n 0, 50, [])) none)))) (cond (Nat.blt pc 58) (cond (Nat.blt pc 52) (cond (Nat.beq pc 50) (some (.bipush 16, 52, [])) none) (cond (Nat.blt pc 55) (cond (Nat.beq pc 52) (some (.if_icmp .le 10, 55, [62])) none) (cond (Nat.beq pc 55) (some (.iinc 1 4, 58, [])) none))) (cond (Nat.blt pc 60) (cond (Nat.blt pc 59) (cond (Nat.beq pc 58) (some (.iload_n 0, 59, [])) none) (cond (Nat.beq pc 59) (some (.iconst 4, 60, [])) none)) (cond (Nat.blt pc 61) (cond (Nat.beq pc 60) (some (.iushr, 61, [])) none) (cond (Nat.beq pc 61) (some (.istore_n 0, 62, [])) none))))) (cond (Nat.blt pc 73) (cond (Nat.blt pc 67) (cond (Nat.blt pc 63) (cond (Nat.beq pc 62) (some (.iload_n 0, 63, [])) none) (cond (Nat.blt pc 64) (cond (Nat.beq pc 63) (some (.iconst 4, 64, [])) none) (cond (Nat.beq pc 64) (some (.if_icmp .le 10, 67, [74])) none))) (cond (Nat.blt pc 71) (cond (Nat.blt pc 70) (cond (Nat.beq pc 67) (some (.iinc 1 2, 70, [])) none) (cond (Nat.beq pc 70) (some (.iload_n 0, 71, [])) none)) (cond (Nat.blt pc 72) (cond (Nat.beq pc 71) (some (.iconst 2, 72, [])) none) (cond (Nat.beq pc 72) (some (.iushr, 73, [])) none)))) (cond (Nat.blt pc 76) (cond (Nat.blt pc 74) (cond (Nat.beq pc 73) (some (.istore_n 0, 74, [])) none) (cond (Nat.blt pc 75) (cond (Nat.beq pc 74) (some (.iload_n 1, 75, [])) none) (cond (Nat.beq pc 75) (some (.iload_n 0, 76, [])) none))) (cond (Nat.blt pc 78) (cond (Nat.blt pc 77) (cond (Nat.beq pc 76) (some (.iconst 1, 77, [])) none) (cond (Nat.beq pc 77) (some (.iushr, 78, [])) none)) (cond (Nat.blt pc 79) (cond (Nat.beq pc 78) (some (.iadd, 79, [])) none) (cond (Nat.beq pc 79) (some (.ireturn, 80, [])) none)))))))
set_option maxRecDepth 100000 in
theorem kJ6_numberOfTrailingZeros_0f7a4 : okT cJ6_numberOfTrailingZeros_0f7a4 tJ6_numberOfTrailingZeros_0f7a4 80 2 = true := by decide +kernel
def tJ9_max_7cf53 : Tt := tWn 11 (fun pc => cond (Nat.blt pc 5) (cond (Nat.blt pc 1) (cond (Nat.beq pc 0) (some (.iload_n 0, 1, [])) none) (cond (Nat.blt pc 2) (cond (Nat.beq pc 1) (some (.iload_n 1, 2, [])) none) (cond (Nat.beq pc 2) (some (.if_icmp .lt 7, 5, [9])) none))) (cond (Nat.blt pc 9) (cond (Nat.blt pc 6) (cond (Nat.beq pc 5) (some (.iload_n 0, 6, [])) none) (cond (Nat.beq pc 6) (some (.goto 4, 9, [10])) none)) (cond (Nat.blt pc 10) (cond (Nat.beq pc 9) (some (.iload_n 1, 10, [])) none) (cond (Nat.beq pc 10) (some (.ireturn, 11, [])) none))))
set_option maxRecDepth 100000 in
theorem kJ9_max_7cf53 : okT cJ9_max_7cf53 tJ9_max_7cf53 11 2 = true := by decide +kernel
def tJ9_min_7cf53 : Tt := tWn 11 (fun pc => cond (Nat.blt pc 5) (cond (Nat.blt pc 1) (cond (Nat.beq pc 0) (some (.iload_n 0, 1, [])) none) (cond (Nat.blt pc 2) (cond (Nat.beq pc 1) (some (.iload_n 1, 2, [])) none) (cond (Nat.beq pc 2) (some (.if_icmp .gt 7, 5, [9])) none))) (cond (Nat.blt pc 9) (cond (Nat.blt pc 6) (cond (Nat.beq pc 5) (some (.iload_n 0, 6, [])) none) (cond (Nat.beq pc 6) (some (.goto 4, 9, [10])) none)) (cond (Nat.blt pc 10) (cond (Nat.beq pc 9) (some (.iload_n 1, 10, [])) none) (cond (Nat.beq pc 10) (some (.ireturn, 11, [])) none))))
set_option maxRecDepth 100000 in
theorem kJ9_min_7cf53 : okT cJ9_min_7cf53 tJ9_min_7cf53 11 2 = true := by decide +kernel
def tJ7_rangeCheck_23922 : Tt := tWn 74 (fun pc => cond (Nat.blt pc 39) (cond (Nat.blt pc 18) (cond (Nat.blt pc 8) (cond (Nat.blt pc 2) (cond (Nat.blt pc 1) (cond (Nat.beq pc 0) (some (.iload_n 1, 1, [])) none) (cond (Nat.beq pc 1) (some (.iload_n 2, 2, [])) none)) (cond (Nat.blt pc 5) (cond (Nat.beq pc 2) (some (.if_icmp .le 44, 5, [46])) none) (cond (Nat.beq pc 5) (some (.new 43, 8, [])) none))) (cond (Nat.blt pc 12) (cond (Nat.blt pc 9) (cond (Nat.beq pc 8) (some (.dup, 9, [])) none) (cond (Nat.beq pc 9) (some (.new 45, 12, [])) none)) (cond (Nat.blt pc 13) (cond (Nat.beq pc 12) (some (.dup, 13, [])) none) (cond (Nat.blt pc 16) (cond (Nat.beq pc 13) (some (.invokespecial 47, 16, [])) none) (cond (Nat.beq pc 16) (some (.ldc 48, 18, [])) none))))) (cond (Nat.blt pc 27) (cond (Nat.blt pc 22) (cond (Nat.blt pc 21) (cond (Nat.beq pc 18) (some (.invokevirtual 50, 21, [])) none) (cond (Nat.beq pc 21) (some (.iload_n 1, 22, [])) none)) (cond (Nat.blt pc 25) (cond (Nat.beq pc 22) (some (.invokevirtual 54, 25, [])) none) (cond (Nat.beq pc 25) (some (.ldc 57, 27, [])) none))) (cond (Nat.blt pc 31) (cond (Nat.blt pc 30) (cond (Nat.beq pc 27) (some (.invokevirtual 50, 30, [])) none) (cond (Nat.beq pc 30) (some (.iload_n 2, 31, [])) none)) (cond (Nat.blt pc 34) (cond (Nat.beq pc 31) (some (.invokevirtual 54, 34, [])) none) (cond (Nat.blt pc 36) (cond (Nat.beq pc 34) (some (.ldc 59, 36, [])) none) (cond (Nat.beq pc 36) (some (.invokevirtual 50, 39, [])) none)))))) (cond (Nat.blt pc 58) (cond (Nat.blt pc 47) (cond (Nat.blt pc 45) (cond (Nat.blt pc 42) (cond (Nat.beq pc 39) (some (.invokevirtual 61, 42, [])) none) (cond (Nat.beq pc 42) (some (.invokespecial 65, 45, [])) none)) (cond (Nat.blt pc 46) (cond (Nat.beq pc 45) (some (.athrow, 46, [])) none) (cond (Nat.beq pc 46) (some (.iload_n 1, 47, [])) none))) (cond (Nat.blt pc 53) (cond (Nat.blt pc 50) (cond (Nat.beq pc 47) (some (.ifCond .ge 12, 50, [59])) none) (cond (Nat.beq pc 50) (some (.new 68, 53, [])) none)) (cond (Nat.blt pc 54) (cond (Nat.beq pc 53) (some (.dup, 54, [])) none) (cond (Nat.blt pc 55) (cond (Nat.beq pc 54) (some (.iload_n 1, 55, [])) none) (cond (Nat.beq pc 55) (some (.invokespecial 70, 58, [])) none))))) (cond (Nat.blt pc 67) (cond (Nat.blt pc 60) (cond (Nat.blt pc 59) (cond (Nat.beq pc 58) (some (.athrow, 59, [])) none) (cond (Nat.beq pc 59) (some (.iload_n 2, 60, [])) none)) (cond (Nat.blt pc 61) (cond (Nat.beq pc 60) (some (.iload_n 0, 61, [])) none) (cond (Nat.blt pc 64) (cond (Nat.beq pc 61) (some (.if_icmp .le 12, 64, [73])) none) (cond (Nat.beq pc 64) (some (.new 68, 67, [])) none)))) (cond (Nat.blt pc 69) (cond (Nat.blt pc 68) (cond (Nat.beq pc 67) (some (.dup, 68, [])) none) (cond (Nat.beq pc 68) (some (.iload_n 2, 69, [])) none)) (cond (Nat.blt pc 72) (cond (Nat.beq pc 69) (some (.invokespecial 70, 72, [])) none) (cond (Nat.blt pc 73) (cond (Nat.beq pc 72) (some (.athrow, 73, [])) none) (cond (Nat.beq pc 73) (some (.return_, 74, [])) none)))))))
set_option maxRecDepth 100000 in
theorem kJ7_rangeCheck_23922 : okT cJ7_rangeCheck_23922 tJ7_rangeCheck_23922 74 3 = true := by decide +kernel
def tJ7_fill_fda19 : Tt := tWn 28 (fun pc => cond (Nat.blt pc 12) (cond (Nat.blt pc 4) (cond (Nat.blt pc 2) (cond (Nat.blt pc 1) (cond (Nat.beq pc 0) (some (.aload_n 0, 1, [])) none) (cond (Nat.beq pc 1) (some (.arraylength, 2, [])) none)) (cond (Nat.blt pc 3) (cond (Nat.beq pc 2) (some (.iload_n 1, 3, [])) none) (cond (Nat.beq pc 3) (some (.iload_n 2, 4, [])) none))) (cond (Nat.blt pc 8) (cond (Nat.blt pc 7) (cond (Nat.beq pc 4) (some (.invokestatic 13, 7, [])) none) (cond (Nat.beq pc 7) (some (.iload_n 1, 8, [])) none)) (cond (Nat.blt pc 10) (cond (Nat.beq pc 8) (some (.istore 4, 10, [])) none) (cond (Nat.beq pc 10) (some (.iload 4, 12, [])) none)))) (cond (Nat.blt pc 19) (cond (Nat.blt pc 16) (cond (Nat.blt pc 13) (cond (Nat.beq pc 12) (some (.iload_n 2, 13, [])) none) (cond (Nat.beq pc 13) (some (.if_icmp .ge 14, 16, [27])) none)) (cond (Nat.blt pc 17) (cond (Nat.beq pc 16) (some (.aload_n 0, 17, [])) none) (cond (Nat.beq pc 17) (some (.iload 4, 19, [])) none))) (cond (Nat.blt pc 21) (cond (Nat.blt pc 20) (cond (Nat.beq pc 19) (some (.iload_n 3, 20, [])) none) (cond (Nat.beq pc 20) (some (.iastore, 21, [])) none)) (cond (Nat.blt pc 24) (cond (Nat.beq pc 21) (some (.iinc 4 1, 24, [])) none) (cond (Nat.blt pc 27) (cond (Nat.beq pc 24) (some (.goto (-14), 27, [10])) none) (cond (Nat.beq pc 27) (some (.return_, 28, [])) none))))))
set_option maxRecDepth 100000 in
theorem kJ7_fill_fda19 : okT cJ7_fill_fda19 tJ7_fill_fda19 28 5 = true := by decide +kernel
def tL_cell : Tt := tWn 14 (fun pc => cond (Nat.blt pc 7) (cond (Nat.blt pc 2) (cond (Nat.blt pc 1) (cond (Nat.beq pc 0) (some (.iload_n 1, 1, [])) none) (cond (Nat.beq pc 1) (some (.aload_n 0, 2, [])) none)) (cond (Nat.blt pc 3) (cond (Nat.beq pc 2) (some (.arraylength, 3, [])) none) (cond (Nat.blt pc 6) (cond (Nat.beq pc 3) (some (.if_icmp .ge 9, 6, [12])) none) (cond (Nat.beq pc 6) (some (.aload_n 0, 7, [])) none)))) (cond (Nat.blt pc 9) (cond (Nat.blt pc 8) (cond (Nat.beq pc 7) (some (.iload_n 1, 8, [])) none) (cond (Nat.beq pc 8) (some (.iaload, 9, [])) none)) (cond (Nat.blt pc 12) (cond (Nat.beq pc 9) (some (.goto 4, 12, [13])) none) (cond (Nat.blt pc 13) (cond (Nat.beq pc 12) (some (.iconst 0, 13, [])) none) (cond (Nat.beq pc 13) (some (.ireturn, 14, [])) none)))))
set_option maxRecDepth 100000 in
theorem kL_cell : okT cL_cell tL_cell 14 2 = true := by decide +kernel
theorem fwL : FdW RL fdL := fdW_of _ _ fpL (by decide +kernel) (by decide +kernel)
theorem iwL : IcW RL icL := icW_of _ _ ipL (by decide +kernel)
theorem lwL : LcW RL lcL := lcW_of _ _ lpL (by decide +kernel)
theorem fwJ6 : FdW RJ6 fdJ6 := fdW_of _ _ fpJ6 (by decide +kernel) (by decide +kernel)
theorem iwJ6 : IcW RJ6 icJ6 := icW_of _ _ ipJ6 (by decide +kernel)
theorem lwJ6 : LcW RJ6 lcJ6 := lcW_of _ _ lpJ6 (by decide +kernel)
theorem fwJ9 : FdW RJ9 fdJ9 := fdW_of _ _ fpJ9 (by decide +kernel) (by decide +kernel)
theorem iwJ9 : IcW RJ9 icJ9 := icW_of _ _ ipJ9 (by decide +kernel)
theorem lwJ9 : LcW RJ9 lcJ9 := lcW_of _ _ lpJ9 (by decide +kernel)
theorem fwJ10 : FdW RJ10 fdJ10 := fdW_of _ _ fpJ10 (by decide +kernel) (by decide +kernel)
theorem iwJ10 : IcW RJ10 icJ10 := icW_of _ _ ipJ10 (by decide +kernel)
theorem lwJ10 : LcW RJ10 lcJ10 := lcW_of _ _ lpJ10 (by decide +kernel)
theorem fwJ7 : FdW RJ7 fdJ7 := fdW_of _ _ fpJ7 (by decide +kernel) (by decide +kernel)
theorem iwJ7 : IcW RJ7 icJ7 := icW_of _ _ ipJ7 (by decide +kernel)
theorem lwJ7 : LcW RJ7 lcJ7 := lcW_of _ _ lpJ7 (by decide +kernel)
end
section
/-! ===== the instructions, decoded once: each with what follows it and where it may jump ===== -/
def tX8_init : Tt := tWn 185 (fun pc => cond (Nat.blt pc 90) (cond (Nat.blt pc 45) (cond (Nat.blt pc 22) (cond (Nat.blt pc 10) (cond (Nat.blt pc 4) (cond (Nat.blt pc 1) (cond (Nat.beq pc 0) (some (.aload_n 0, 1, [])) none) (cond (Nat.beq pc 1) (some (.invokespecial 1, 4, [])) none)) (cond (Nat.blt pc 5) (cond (Nat.beq pc 4) (some (.aload_n 0, 5, [])) none) (cond (Nat.blt pc 8) (cond (Nat.beq pc 5) (some (.sipush 15540, 8, [])) none) (cond (Nat.beq pc 8) (some (.newarray .int, 10, [])) none)))) (cond (Nat.blt pc 16) (cond (Nat.blt pc 13) (cond (Nat.beq pc 10) (some (.putfield 7, 13, [])) none) (cond (Nat.blt pc 14) (cond (Nat.beq pc 13) (some (.aload_n 0, 14, [])) none) (cond (Nat.beq pc 14) (some (.bipush 37, 16, [])) none))) (cond (Nat.blt pc 18) (cond (Nat.beq pc 16) (some (.newarray .int, 18, [])) none) (cond (Nat.blt pc 21) (cond (Nat.beq pc 18) (some (.putfield 13, 21, [])) none) (cond (Nat.beq pc 21) (some (.aload_n 0, 22, [])) none))))) (cond (Nat.blt pc 32) (cond (Nat.blt pc 26) (cond (Nat.blt pc 24) (cond (Nat.beq pc 22) (some (.bipush 24, 24, [])) none) (cond (Nat.beq pc 24) (some (.newarray .boolean, 26, [])) none)) (cond (Nat.blt pc 29) (cond (Nat.beq pc 26) (some (.putfield 16, 29, [])) none) (cond (Nat.blt pc 30) (cond (Nat.beq pc 29) (some (.aload_n 0, 30, [])) none) (cond (Nat.beq pc 30) (some (.bipush 24, 32, [])) none)))) (cond (Nat.blt pc 38) (cond (Nat.blt pc 34) (cond (Nat.beq pc 32) (some (.newarray .int, 34, [])) none) (cond (Nat.blt pc 37) (cond (Nat.beq pc 34) (some (.putfield 20, 37, [])) none) (cond (Nat.beq pc 37) (some (.aload_n 0, 38, [])) none))) (cond (Nat.blt pc 40) (cond (Nat.beq pc 38) (some (.bipush 24, 40, [])) none) (cond (Nat.blt pc 42) (cond (Nat.beq pc 40) (some (.newarray .int, 42, [])) none) (cond (Nat.beq pc 42) (some (.putfield 23, 45, [])) none)))))) (cond (Nat.blt pc 67) (cond (Nat.blt pc 54) (cond (Nat.blt pc 48) (cond (Nat.blt pc 46) (cond (Nat.beq pc 45) (some (.aload_n 0, 46, [])) none) (cond (Nat.beq pc 46) (some (.bipush 8, 48, [])) none)) (cond (Nat.blt pc 50) (cond (Nat.beq pc 48) (some (.newarray .int, 50, [])) none) (cond (Nat.blt pc 53) (cond (Nat.beq pc 50) (some (.putfield 26, 53, [])) none) (cond (Nat.beq pc 53) (some (.aload_n 0, 54, [])) none)))) (cond (Nat.blt pc 61) (cond (Nat.blt pc 56) (cond (Nat.beq pc 54) (some (.bipush 8, 56, [])) none) (cond (Nat.blt pc 58) (cond (Nat.beq pc 56) (some (.newarray .int, 58, [])) none) (cond (Nat.beq pc 58) (some (.putfield 29, 61, [])) none))) (cond (Nat.blt pc 62) (cond (Nat.beq pc 61) (some (.aload_n 0, 62, [])) none) (cond (Nat.blt pc 65) (cond (Nat.beq pc 62) (some (.sipush 1000, 65, [])) none) (cond (Nat.beq pc 65) (some (.newarray .int, 67, [])) none))))) (cond (Nat.blt pc 79) (cond (Nat.blt pc 71) (cond (Nat.blt pc 70) (cond (Nat.beq pc 67) (some (.putfield 32, 70, [])) none) (cond (Nat.beq pc 70) (some (.aload_n 0, 71, [])) none)) (cond (Nat.blt pc 74) (cond (Nat.beq pc 71) (some (.sipush 970, 74, [])) none) (cond (Nat.blt pc 76) (cond (Nat.beq pc 74) (some (.newarray .int, 76, [])) none) (cond (Nat.beq pc 76) (some (.putfield 35, 79, [])) none)))) (cond (Nat.blt pc 84) (cond (Nat.blt pc 80) (cond (Nat.beq pc 79) (some (.aload_n 0, 80, [])) none) (cond (Nat.blt pc 81) (cond (Nat.beq pc 80) (some (.iconst (-1), 81, [])) none) (cond (Nat.beq pc 81) (some (.putfield 38, 84, [])) none))) (cond (Nat.blt pc 85) (cond (Nat.beq pc 84) (some (.aload_n 0, 85, [])) none) (cond (Nat.blt pc 88) (cond (Nat.beq pc 85) (some (.sipush 400, 88, [])) none) (cond (Nat.beq pc 88) (some (.newarray .int, 90, [])) none))))))) (cond (Nat.blt pc 139) (cond (Nat.blt pc 115) (cond (Nat.blt pc 102) (cond (Nat.blt pc 94) (cond (Nat.blt pc 93) (cond (Nat.beq pc 90) (some (.putfield 42, 93, [])) none) (cond (Nat.beq pc 93) (some (.aload_n 0, 94, [])) none)) (cond (Nat.blt pc 97) (cond (Nat.beq pc 94) (some (.sipush 220, 97, [])) none) (cond (Nat.blt pc 99) (cond (Nat.beq pc 97) (some (.newarray .int, 99, [])) none) (cond (Nat.beq pc 99) (some (.putfield 45, 102, [])) none)))) (cond (Nat.blt pc 108) (cond (Nat.blt pc 103) (cond (Nat.beq pc 102) (some (.aload_n 0, 103, [])) none) (cond (Nat.blt pc 106) (cond (Nat.beq pc 103) (some (.sipush 220, 106, [])) none) (cond (Nat.beq pc 106) (some (.newarray .int, 108, [])) none))) (cond (Nat.blt pc 111) (cond (Nat.beq pc 108) (some (.putfield 48, 111, [])) none) (cond (Nat.blt pc 112) (cond (Nat.beq pc 111) (some (.aload_n 0, 112, [])) none) (cond (Nat.beq pc 112) (some (.sipush 220, 115, [])) none))))) (cond (Nat.blt pc 126) (cond (Nat.blt pc 120) (cond (Nat.blt pc 117) (cond (Nat.beq pc 115) (some (.newarray .int, 117, [])) none) (cond (Nat.beq pc 117) (some (.putfield 51, 120, [])) none)) (cond (Nat.blt pc 121) (cond (Nat.beq pc 120) (some (.aload_n 0, 121, [])) none) (cond (Nat.blt pc 124) (cond (Nat.beq pc 121) (some (.sipush 220, 124, [])) none) (cond (Nat.beq pc 124) (some (.newarray .int, 126, [])) none)))) (cond (Nat.blt pc 133) (cond (Nat.blt pc 129) (cond (Nat.beq pc 126) (some (.putfield 54, 129, [])) none) (cond (Nat.blt pc 130) (cond (Nat.beq pc 129) (some (.aload_n 0, 130, [])) none) (cond (Nat.beq pc 130) (some (.sipush 220, 133, [])) none))) (cond (Nat.blt pc 135) (cond (Nat.beq pc 133) (some (.newarray .int, 135, [])) none) (cond (Nat.blt pc 138) (cond (Nat.beq pc 135) (some (.putfield 57, 138, [])) none) (cond (Nat.beq pc 138) (some (.aload_n 0, 139, [])) none)))))) (cond (Nat.blt pc 160) (cond (Nat.blt pc 149) (cond (Nat.blt pc 144) (cond (Nat.blt pc 142) (cond (Nat.beq pc 139) (some (.sipush 4000, 142, [])) none) (cond (Nat.beq pc 142) (some (.newarray .int, 144, [])) none)) (cond (Nat.blt pc 147) (cond (Nat.beq pc 144) (some (.putfield 60, 147, [])) none) (cond (Nat.blt pc 148) (cond (Nat.beq pc 147) (some (.aload_n 0, 148, [])) none) (cond (Nat.beq pc 148) (some (.iload_n 1, 149, [])) none)))) (cond (Nat.blt pc 155) (cond (Nat.blt pc 150) (cond (Nat.beq pc 149) (some (.iconst 1, 150, [])) none) (cond (Nat.blt pc 152) (cond (Nat.beq pc 150) (some (.bipush 24, 152, [])) none) (cond (Nat.beq pc 152) (some (.invokestatic 63, 155, [])) none))) (cond (Nat.blt pc 158) (cond (Nat.beq pc 155) (some (.putfield 67, 158, [])) none) (cond (Nat.blt pc 159) (cond (Nat.beq pc 158) (some (.aload_n 0, 159, [])) none) (cond (Nat.beq pc 159) (some (.iload_n 2, 160, [])) none))))) (cond (Nat.blt pc 172) (cond (Nat.blt pc 165) (cond (Nat.blt pc 162) (cond (Nat.beq pc 160) (some (.bipush 16, 162, [])) none) (cond (Nat.beq pc 162) (some (.sipush 800, 165, [])) none)) (cond (Nat.blt pc 168) (cond (Nat.beq pc 165) (some (.invokestatic 63, 168, [])) none) (cond (Nat.blt pc 171) (cond (Nat.beq pc 168) (some (.putfield 70, 171, [])) none) (cond (Nat.beq pc 171) (some (.aload_n 0, 172, [])) none)))) (cond (Nat.blt pc 178) (cond (Nat.blt pc 173) (cond (Nat.beq pc 172) (some (.iload_n 3, 173, [])) none) (cond (Nat.blt pc 175) (cond (Nat.beq pc 173) (some (.bipush 8, 175, [])) none) (cond (Nat.beq pc 175) (some (.sipush 400, 178, [])) none))) (cond (Nat.blt pc 181) (cond (Nat.beq pc 178) (some (.invokestatic 63, 181, [])) none) (cond (Nat.blt pc 184) (cond (Nat.beq pc 181) (some (.putfield 73, 184, [])) none) (cond (Nat.beq pc 184) (some (.return_, 185, [])) none))))))))
set_option maxRecDepth 100000 in
theorem kX8_init : okT cX8_init tX8_init 185 4 = true := by decide +kernel
def tX8_near : Tt := tWn 20 (fun pc => cond (Nat.blt pc 10) (cond (Nat.blt pc 5) (cond (Nat.blt pc 1) (cond (Nat.beq pc 0) (some (.iload_n 0, 1, [])) none) (cond (Nat.blt pc 2) (cond (Nat.beq pc 1) (some (.iload_n 1, 2, [])) none) (cond (Nat.beq pc 2) (some (.if_icmp .ge 7, 5, [9])) none))) (cond (Nat.blt pc 6) (cond (Nat.beq pc 5) (some (.iload_n 1, 6, [])) none) (cond (Nat.blt pc 9) (cond (Nat.beq pc 6) (some (.goto 13, 9, [19])) none) (cond (Nat.beq pc 9) (some (.iload_n 0, 10, [])) none)))) (cond (Nat.blt pc 15) (cond (Nat.blt pc 11) (cond (Nat.beq pc 10) (some (.iload_n 2, 11, [])) none) (cond (Nat.blt pc 14) (cond (Nat.beq pc 11) (some (.if_icmp .le 7, 14, [18])) none) (cond (Nat.beq pc 14) (some (.iload_n 2, 15, [])) none))) (cond (Nat.blt pc 18) (cond (Nat.beq pc 15) (some (.goto 4, 18, [19])) none) (cond (Nat.blt pc 19) (cond (Nat.beq pc 18) (some (.iload_n 0, 19, [])) none) (cond (Nat.beq pc 19) (some (.ireturn, 20, [])) none)))))
set_option maxRecDepth 100000 in
theorem kX8_near : okT cX8_near tX8_near 20 3 = true := by decide +kernel
def tX8_isIn : Tt := tWn 16 (fun pc => cond (Nat.blt pc 7) (cond (Nat.blt pc 2) (cond (Nat.blt pc 1) (cond (Nat.beq pc 0) (some (.iload_n 0, 1, [])) none) (cond (Nat.beq pc 1) (some (.iload_n 1, 2, [])) none)) (cond (Nat.blt pc 5) (cond (Nat.beq pc 2) (some (.if_icmp .lt 12, 5, [14])) none) (cond (Nat.blt pc 6) (cond (Nat.beq pc 5) (some (.iload_n 0, 6, [])) none) (cond (Nat.beq pc 6) (some (.iload_n 2, 7, [])) none)))) (cond (Nat.blt pc 11) (cond (Nat.blt pc 10) (cond (Nat.beq pc 7) (some (.if_icmp .gt 7, 10, [14])) none) (cond (Nat.beq pc 10) (some (.iconst 1, 11, [])) none)) (cond (Nat.blt pc 14) (cond (Nat.beq pc 11) (some (.goto 4, 14, [15])) none) (cond (Nat.blt pc 15) (cond (Nat.beq pc 14) (some (.iconst 0, 15, [])) none) (cond (Nat.beq pc 15) (some (.ireturn, 16, [])) none)))))
set_option maxRecDepth 100000 in
theorem kX8_isIn : okT cX8_isIn tX8_isIn 16 3 = true := by decide +kernel
def tX8_at : Tt := tWn 31 (fun pc => cond (Nat.blt pc 15) (cond (Nat.blt pc 6) (cond (Nat.blt pc 4) (cond (Nat.blt pc 1) (cond (Nat.beq pc 0) (some (.iload_n 2, 1, [])) none) (cond (Nat.beq pc 1) (some (.ifCond .lt 13, 4, [14])) none)) (cond (Nat.blt pc 5) (cond (Nat.beq pc 4) (some (.iload_n 2, 5, [])) none) (cond (Nat.beq pc 5) (some (.aload_n 0, 6, [])) none))) (cond (Nat.blt pc 10) (cond (Nat.blt pc 9) (cond (Nat.beq pc 6) (some (.getfield 13, 9, [])) none) (cond (Nat.beq pc 9) (some (.iload_n 1, 10, [])) none)) (cond (Nat.blt pc 11) (cond (Nat.beq pc 10) (some (.iaload, 11, [])) none) (cond (Nat.blt pc 14) (cond (Nat.beq pc 11) (some (.if_icmp .lt 7, 14, [18])) none) (cond (Nat.beq pc 14) (some (.iconst 0, 15, [])) none))))) (cond (Nat.blt pc 26) (cond (Nat.blt pc 19) (cond (Nat.blt pc 18) (cond (Nat.beq pc 15) (some (.goto 15, 18, [30])) none) (cond (Nat.beq pc 18) (some (.aload_n 0, 19, [])) none)) (cond (Nat.blt pc 22) (cond (Nat.beq pc 19) (some (.getfield 7, 22, [])) none) (cond (Nat.blt pc 25) (cond (Nat.beq pc 22) (some (.sipush 420, 25, [])) none) (cond (Nat.beq pc 25) (some (.iload_n 1, 26, [])) none)))) (cond (Nat.blt pc 28) (cond (Nat.blt pc 27) (cond (Nat.beq pc 26) (some (.imul, 27, [])) none) (cond (Nat.beq pc 27) (some (.iload_n 2, 28, [])) none)) (cond (Nat.blt pc 29) (cond (Nat.beq pc 28) (some (.iadd, 29, [])) none) (cond (Nat.blt pc 30) (cond (Nat.beq pc 29) (some (.iaload, 30, [])) none) (cond (Nat.beq pc 30) (some (.ireturn, 31, [])) none))))))
set_option maxRecDepth 100000 in
theorem kX8_at : okT cX8_at tX8_at 31 3 = true := by decide +kernel
def tX8_put : Tt := tWn 14 (fun pc => cond (Nat.blt pc 9) (cond (Nat.blt pc 4) (cond (Nat.blt pc 1) (cond (Nat.beq pc 0) (some (.aload_n 0, 1, [])) none) (cond (Nat.beq pc 1) (some (.getfield 7, 4, [])) none)) (cond (Nat.blt pc 7) (cond (Nat.beq pc 4) (some (.sipush 420, 7, [])) none) (cond (Nat.blt pc 8) (cond (Nat.beq pc 7) (some (.iload_n 1, 8, [])) none) (cond (Nat.beq pc 8) (some (.imul, 9, [])) none)))) (cond (Nat.blt pc 11) (cond (Nat.blt pc 10) (cond (Nat.beq pc 9) (some (.iload_n 2, 10, [])) none) (cond (Nat.beq pc 10) (some (.iadd, 11, [])) none)) (cond (Nat.blt pc 12) (cond (Nat.beq pc 11) (some (.iload_n 3, 12, [])) none) (cond (Nat.blt pc 13) (cond (Nat.beq pc 12) (some (.iastore, 13, [])) none) (cond (Nat.beq pc 13) (some (.return_, 14, [])) none)))))
set_option maxRecDepth 100000 in
theorem kX8_put : okT cX8_put tX8_put 14 4 = true := by decide +kernel
def tX8_fix : Tt := tWn 37 (fun pc => cond (Nat.blt pc 17) (cond (Nat.blt pc 7) (cond (Nat.blt pc 2) (cond (Nat.blt pc 1) (cond (Nat.beq pc 0) (some (.iload_n 2, 1, [])) none) (cond (Nat.beq pc 1) (some (.istore_n 3, 2, [])) none)) (cond (Nat.blt pc 3) (cond (Nat.beq pc 2) (some (.iload_n 3, 3, [])) none) (cond (Nat.blt pc 6) (cond (Nat.beq pc 3) (some (.ifCond .le 26, 6, [29])) none) (cond (Nat.beq pc 6) (some (.aload_n 0, 7, [])) none)))) (cond (Nat.blt pc 14) (cond (Nat.blt pc 10) (cond (Nat.beq pc 7) (some (.getfield 7, 10, [])) none) (cond (Nat.blt pc 13) (cond (Nat.beq pc 10) (some (.sipush 420, 13, [])) none) (cond (Nat.beq pc 13) (some (.iload_n 1, 14, [])) none))) (cond (Nat.blt pc 15) (cond (Nat.beq pc 14) (some (.imul, 15, [])) none) (cond (Nat.blt pc 16) (cond (Nat.beq pc 15) (some (.iload_n 3, 16, [])) none) (cond (Nat.beq pc 16) (some (.iadd, 17, [])) none))))) (cond (Nat.blt pc 29) (cond (Nat.blt pc 20) (cond (Nat.blt pc 18) (cond (Nat.beq pc 17) (some (.iconst 1, 18, [])) none) (cond (Nat.blt pc 19) (cond (Nat.beq pc 18) (some (.isub, 19, [])) none) (cond (Nat.beq pc 19) (some (.iaload, 20, [])) none))) (cond (Nat.blt pc 23) (cond (Nat.beq pc 20) (some (.ifCond .ne 9, 23, [29])) none) (cond (Nat.blt pc 26) (cond (Nat.beq pc 23) (some (.iinc 3 (-1), 26, [])) none) (cond (Nat.beq pc 26) (some (.goto (-24), 29, [2])) none)))) (cond (Nat.blt pc 34) (cond (Nat.blt pc 30) (cond (Nat.beq pc 29) (some (.aload_n 0, 30, [])) none) (cond (Nat.blt pc 33) (cond (Nat.beq pc 30) (some (.getfield 13, 33, [])) none) (cond (Nat.beq pc 33) (some (.iload_n 1, 34, [])) none))) (cond (Nat.blt pc 35) (cond (Nat.beq pc 34) (some (.iload_n 3, 35, [])) none) (cond (Nat.blt pc 36) (cond (Nat.beq pc 35) (some (.iastore, 36, [])) none) (cond (Nat.beq pc 36) (some (.return_, 37, [])) none))))))
set_option maxRecDepth 100000 in
theorem kX8_fix : okT cX8_fix tX8_fix 37 4 = true := by decide +kernel
def tX8_copy : Tt := tWn 43 (fun pc => cond (Nat.blt pc 17) (cond (Nat.blt pc 8) (cond (Nat.blt pc 3) (cond (Nat.blt pc 1) (cond (Nat.beq pc 0) (some (.iconst 0, 1, [])) none) (cond (Nat.blt pc 2) (cond (Nat.beq pc 1) (some (.istore_n 3, 2, [])) none) (cond (Nat.beq pc 2) (some (.iload_n 3, 3, [])) none))) (cond (Nat.blt pc 4) (cond (Nat.beq pc 3) (some (.aload_n 0, 4, [])) none) (cond (Nat.blt pc 7) (cond (Nat.beq pc 4) (some (.getfield 13, 7, [])) none) (cond (Nat.beq pc 7) (some (.iload_n 1, 8, [])) none)))) (cond (Nat.blt pc 13) (cond (Nat.blt pc 9) (cond (Nat.beq pc 8) (some (.iaload, 9, [])) none) (cond (Nat.blt pc 12) (cond (Nat.beq pc 9) (some (.if_icmp .ge 21, 12, [30])) none) (cond (Nat.beq pc 12) (some (.aload_n 0, 13, [])) none))) (cond (Nat.blt pc 15) (cond (Nat.blt pc 14) (cond (Nat.beq pc 13) (some (.iload_n 2, 14, [])) none) (cond (Nat.beq pc 14) (some (.iload_n 3, 15, [])) none)) (cond (Nat.blt pc 16) (cond (Nat.beq pc 15) (some (.aload_n 0, 16, [])) none) (cond (Nat.beq pc 16) (some (.iload_n 1, 17, [])) none))))) (cond (Nat.blt pc 34) (cond (Nat.blt pc 24) (cond (Nat.blt pc 18) (cond (Nat.beq pc 17) (some (.iload_n 3, 18, [])) none) (cond (Nat.blt pc 21) (cond (Nat.beq pc 18) (some (.invokevirtual 76, 21, [])) none) (cond (Nat.beq pc 21) (some (.invokevirtual 80, 24, [])) none))) (cond (Nat.blt pc 30) (cond (Nat.blt pc 27) (cond (Nat.beq pc 24) (some (.iinc 3 1, 27, [])) none) (cond (Nat.beq pc 27) (some (.goto (-25), 30, [2])) none)) (cond (Nat.blt pc 31) (cond (Nat.beq pc 30) (some (.aload_n 0, 31, [])) none) (cond (Nat.beq pc 31) (some (.getfield 13, 34, [])) none)))) (cond (Nat.blt pc 39) (cond (Nat.blt pc 35) (cond (Nat.beq pc 34) (some (.iload_n 2, 35, [])) none) (cond (Nat.blt pc 36) (cond (Nat.beq pc 35) (some (.aload_n 0, 36, [])) none) (cond (Nat.beq pc 36) (some (.getfield 13, 39, [])) none))) (cond (Nat.blt pc 41) (cond (Nat.blt pc 40) (cond (Nat.beq pc 39) (some (.iload_n 1, 40, [])) none) (cond (Nat.beq pc 40) (some (.iaload, 41, [])) none)) (cond (Nat.blt pc 42) (cond (Nat.beq pc 41) (some (.iastore, 42, [])) none) (cond (Nat.beq pc 42) (some (.return_, 43, [])) none))))))
set_option maxRecDepth 100000 in
theorem kX8_copy : okT cX8_copy tX8_copy 43 4 = true := by decide +kernel
def tX8_small : Tt := tWn 27 (fun pc => cond (Nat.blt pc 12) (cond (Nat.blt pc 4) (cond (Nat.blt pc 2) (cond (Nat.blt pc 1) (cond (Nat.beq pc 0) (some (.aload_n 0, 1, [])) none) (cond (Nat.beq pc 1) (some (.iload_n 1, 2, [])) none)) (cond (Nat.blt pc 3) (cond (Nat.beq pc 2) (some (.iconst 0, 3, [])) none) (cond (Nat.beq pc 3) (some (.iload_n 2, 4, [])) none))) (cond (Nat.blt pc 7) (cond (Nat.blt pc 6) (cond (Nat.beq pc 4) (some (.ldc 84, 6, [])) none) (cond (Nat.beq pc 6) (some (.irem, 7, [])) none)) (cond (Nat.blt pc 10) (cond (Nat.beq pc 7) (some (.invokevirtual 80, 10, [])) none) (cond (Nat.blt pc 11) (cond (Nat.beq pc 10) (some (.aload_n 0, 11, [])) none) (cond (Nat.beq pc 11) (some (.iload_n 1, 12, [])) none))))) (cond (Nat.blt pc 20) (cond (Nat.blt pc 14) (cond (Nat.blt pc 13) (cond (Nat.beq pc 12) (some (.iconst 1, 13, [])) none) (cond (Nat.beq pc 13) (some (.iload_n 2, 14, [])) none)) (cond (Nat.blt pc 16) (cond (Nat.beq pc 14) (some (.ldc 84, 16, [])) none) (cond (Nat.blt pc 17) (cond (Nat.beq pc 16) (some (.idiv, 17, [])) none) (cond (Nat.beq pc 17) (some (.invokevirtual 80, 20, [])) none)))) (cond (Nat.blt pc 22) (cond (Nat.blt pc 21) (cond (Nat.beq pc 20) (some (.aload_n 0, 21, [])) none) (cond (Nat.beq pc 21) (some (.iload_n 1, 22, [])) none)) (cond (Nat.blt pc 23) (cond (Nat.beq pc 22) (some (.iconst 2, 23, [])) none) (cond (Nat.blt pc 26) (cond (Nat.beq pc 23) (some (.invokevirtual 85, 26, [])) none) (cond (Nat.beq pc 26) (some (.return_, 27, [])) none))))))
set_option maxRecDepth 100000 in
theorem kX8_small : okT cX8_small tX8_small 27 3 = true := by decide +kernel
def tX8_compared : Tt := tWn 99 (fun pc => cond (Nat.blt pc 45) (cond (Nat.blt pc 22) (cond (Nat.blt pc 11) (cond (Nat.blt pc 5) (cond (Nat.blt pc 1) (cond (Nat.beq pc 0) (some (.aload_n 0, 1, [])) none) (cond (Nat.blt pc 4) (cond (Nat.beq pc 1) (some (.getfield 13, 4, [])) none) (cond (Nat.beq pc 4) (some (.iload_n 1, 5, [])) none))) (cond (Nat.blt pc 7) (cond (Nat.blt pc 6) (cond (Nat.beq pc 5) (some (.iaload, 6, [])) none) (cond (Nat.beq pc 6) (some (.aload_n 0, 7, [])) none)) (cond (Nat.blt pc 10) (cond (Nat.beq pc 7) (some (.getfield 13, 10, [])) none) (cond (Nat.beq pc 10) (some (.iload_n 2, 11, [])) none)))) (cond (Nat.blt pc 16) (cond (Nat.blt pc 12) (cond (Nat.beq pc 11) (some (.iaload, 12, [])) none) (cond (Nat.blt pc 15) (cond (Nat.beq pc 12) (some (.if_icmp .eq 24, 15, [36])) none) (cond (Nat.beq pc 15) (some (.aload_n 0, 16, [])) none))) (cond (Nat.blt pc 20) (cond (Nat.blt pc 19) (cond (Nat.beq pc 16) (some (.getfield 13, 19, [])) none) (cond (Nat.beq pc 19) (some (.iload_n 1, 20, [])) none)) (cond (Nat.blt pc 21) (cond (Nat.beq pc 20) (some (.iaload, 21, [])) none) (cond (Nat.beq pc 21) (some (.aload_n 0, 22, [])) none))))) (cond (Nat.blt pc 35) (cond (Nat.blt pc 27) (cond (Nat.blt pc 25) (cond (Nat.beq pc 22) (some (.getfield 13, 25, [])) none) (cond (Nat.blt pc 26) (cond (Nat.beq pc 25) (some (.iload_n 2, 26, [])) none) (cond (Nat.beq pc 26) (some (.iaload, 27, [])) none))) (cond (Nat.blt pc 31) (cond (Nat.blt pc 30) (cond (Nat.beq pc 27) (some (.if_icmp .ge 7, 30, [34])) none) (cond (Nat.beq pc 30) (some (.iconst (-1), 31, [])) none)) (cond (Nat.blt pc 34) (cond (Nat.beq pc 31) (some (.goto 4, 34, [35])) none) (cond (Nat.beq pc 34) (some (.iconst 1, 35, [])) none)))) (cond (Nat.blt pc 41) (cond (Nat.blt pc 37) (cond (Nat.blt pc 36) (cond (Nat.beq pc 35) (some (.ireturn, 36, [])) none) (cond (Nat.beq pc 36) (some (.aload_n 0, 37, [])) none)) (cond (Nat.blt pc 40) (cond (Nat.beq pc 37) (some (.getfield 13, 40, [])) none) (cond (Nat.beq pc 40) (some (.iload_n 1, 41, [])) none))) (cond (Nat.blt pc 43) (cond (Nat.blt pc 42) (cond (Nat.beq pc 41) (some (.iaload, 42, [])) none) (cond (Nat.beq pc 42) (some (.iconst 1, 43, [])) none)) (cond (Nat.blt pc 44) (cond (Nat.beq pc 43) (some (.isub, 44, [])) none) (cond (Nat.beq pc 44) (some (.istore_n 3, 45, [])) none)))))) (cond (Nat.blt pc 74) (cond (Nat.blt pc 56) (cond (Nat.blt pc 50) (cond (Nat.blt pc 46) (cond (Nat.beq pc 45) (some (.iload_n 3, 46, [])) none) (cond (Nat.blt pc 49) (cond (Nat.beq pc 46) (some (.ifCond .lt 24, 49, [70])) none) (cond (Nat.beq pc 49) (some (.aload_n 0, 50, [])) none))) (cond (Nat.blt pc 52) (cond (Nat.blt pc 51) (cond (Nat.beq pc 50) (some (.iload_n 1, 51, [])) none) (cond (Nat.beq pc 51) (some (.iload_n 3, 52, [])) none)) (cond (Nat.blt pc 55) (cond (Nat.beq pc 52) (some (.invokevirtual 76, 55, [])) none) (cond (Nat.beq pc 55) (some (.aload_n 0, 56, [])) none)))) (cond (Nat.blt pc 64) (cond (Nat.blt pc 58) (cond (Nat.blt pc 57) (cond (Nat.beq pc 56) (some (.iload_n 2, 57, [])) none) (cond (Nat.beq pc 57) (some (.iload_n 3, 58, [])) none)) (cond (Nat.blt pc 61) (cond (Nat.beq pc 58) (some (.invokevirtual 76, 61, [])) none) (cond (Nat.beq pc 61) (some (.if_icmp .ne 9, 64, [70])) none))) (cond (Nat.blt pc 70) (cond (Nat.blt pc 67) (cond (Nat.beq pc 64) (some (.iinc 3 (-1), 67, [])) none) (cond (Nat.beq pc 67) (some (.goto (-22), 70, [45])) none)) (cond (Nat.blt pc 71) (cond (Nat.beq pc 70) (some (.iload_n 3, 71, [])) none) (cond (Nat.beq pc 71) (some (.ifCond .ge 7, 74, [78])) none))))) (cond (Nat.blt pc 85) (cond (Nat.blt pc 79) (cond (Nat.blt pc 75) (cond (Nat.beq pc 74) (some (.iconst 0, 75, [])) none) (cond (Nat.blt pc 78) (cond (Nat.beq pc 75) (some (.goto 23, 78, [98])) none) (cond (Nat.beq pc 78) (some (.aload_n 0, 79, [])) none))) (cond (Nat.blt pc 81) (cond (Nat.blt pc 80) (cond (Nat.beq pc 79) (some (.iload_n 1, 80, [])) none) (cond (Nat.beq pc 80) (some (.iload_n 3, 81, [])) none)) (cond (Nat.blt pc 84) (cond (Nat.beq pc 81) (some (.invokevirtual 76, 84, [])) none) (cond (Nat.beq pc 84) (some (.aload_n 0, 85, [])) none)))) (cond (Nat.blt pc 93) (cond (Nat.blt pc 87) (cond (Nat.blt pc 86) (cond (Nat.beq pc 85) (some (.iload_n 2, 86, [])) none) (cond (Nat.beq pc 86) (some (.iload_n 3, 87, [])) none)) (cond (Nat.blt pc 90) (cond (Nat.beq pc 87) (some (.invokevirtual 76, 90, [])) none) (cond (Nat.beq pc 90) (some (.if_icmp .ge 7, 93, [97])) none))) (cond (Nat.blt pc 97) (cond (Nat.blt pc 94) (cond (Nat.beq pc 93) (some (.iconst (-1), 94, [])) none) (cond (Nat.beq pc 94) (some (.goto 4, 97, [98])) none)) (cond (Nat.blt pc 98) (cond (Nat.beq pc 97) (some (.iconst 1, 98, [])) none) (cond (Nat.beq pc 98) (some (.ireturn, 99, [])) none)))))))
set_option maxRecDepth 100000 in
theorem kX8_compared : okT cX8_compared tX8_compared 99 4 = true := by decide +kernel
def tX8_isOne : Tt := tWn 26 (fun pc => cond (Nat.blt pc 12) (cond (Nat.blt pc 6) (cond (Nat.blt pc 4) (cond (Nat.blt pc 1) (cond (Nat.beq pc 0) (some (.aload_n 0, 1, [])) none) (cond (Nat.beq pc 1) (some (.getfield 13, 4, [])) none)) (cond (Nat.blt pc 5) (cond (Nat.beq pc 4) (some (.iload_n 1, 5, [])) none) (cond (Nat.beq pc 5) (some (.iaload, 6, [])) none))) (cond (Nat.blt pc 10) (cond (Nat.blt pc 7) (cond (Nat.beq pc 6) (some (.iconst 1, 7, [])) none) (cond (Nat.beq pc 7) (some (.if_icmp .ne 17, 10, [24])) none)) (cond (Nat.blt pc 11) (cond (Nat.beq pc 10) (some (.aload_n 0, 11, [])) none) (cond (Nat.beq pc 11) (some (.iload_n 1, 12, [])) none)))) (cond (Nat.blt pc 20) (cond (Nat.blt pc 16) (cond (Nat.blt pc 13) (cond (Nat.beq pc 12) (some (.iconst 0, 13, [])) none) (cond (Nat.beq pc 13) (some (.invokevirtual 76, 16, [])) none)) (cond (Nat.blt pc 17) (cond (Nat.beq pc 16) (some (.iconst 1, 17, [])) none) (cond (Nat.beq pc 17) (some (.if_icmp .ne 7, 20, [24])) none))) (cond (Nat.blt pc 24) (cond (Nat.blt pc 21) (cond (Nat.beq pc 20) (some (.iconst 1, 21, [])) none) (cond (Nat.beq pc 21) (some (.goto 4, 24, [25])) none)) (cond (Nat.blt pc 25) (cond (Nat.beq pc 24) (some (.iconst 0, 25, [])) none) (cond (Nat.beq pc 25) (some (.ireturn, 26, [])) none)))))
set_option maxRecDepth 100000 in
theorem kX8_isOne : okT cX8_isOne tX8_isOne 26 2 = true := by decide +kernel
def tX8_sum : Tt := tWn 109 (fun pc => cond (Nat.blt pc 53) (cond (Nat.blt pc 25) (cond (Nat.blt pc 11) (cond (Nat.blt pc 5) (cond (Nat.blt pc 1) (cond (Nat.beq pc 0) (some (.aload_n 0, 1, [])) none) (cond (Nat.blt pc 4) (cond (Nat.beq pc 1) (some (.getfield 13, 4, [])) none) (cond (Nat.beq pc 4) (some (.iload_n 1, 5, [])) none))) (cond (Nat.blt pc 7) (cond (Nat.blt pc 6) (cond (Nat.beq pc 5) (some (.iaload, 6, [])) none) (cond (Nat.beq pc 6) (some (.aload_n 0, 7, [])) none)) (cond (Nat.blt pc 10) (cond (Nat.beq pc 7) (some (.getfield 13, 10, [])) none) (cond (Nat.beq pc 10) (some (.iload_n 2, 11, [])) none)))) (cond (Nat.blt pc 19) (cond (Nat.blt pc 15) (cond (Nat.blt pc 12) (cond (Nat.beq pc 11) (some (.iaload, 12, [])) none) (cond (Nat.beq pc 12) (some (.if_icmp .le 12, 15, [24])) none)) (cond (Nat.blt pc 16) (cond (Nat.beq pc 15) (some (.aload_n 0, 16, [])) none) (cond (Nat.beq pc 16) (some (.getfield 13, 19, [])) none))) (cond (Nat.blt pc 21) (cond (Nat.blt pc 20) (cond (Nat.beq pc 19) (some (.iload_n 1, 20, [])) none) (cond (Nat.beq pc 20) (some (.iaload, 21, [])) none)) (cond (Nat.blt pc 24) (cond (Nat.beq pc 21) (some (.goto 9, 24, [30])) none) (cond (Nat.beq pc 24) (some (.aload_n 0, 25, [])) none))))) (cond (Nat.blt pc 38) (cond (Nat.blt pc 32) (cond (Nat.blt pc 29) (cond (Nat.blt pc 28) (cond (Nat.beq pc 25) (some (.getfield 13, 28, [])) none) (cond (Nat.beq pc 28) (some (.iload_n 2, 29, [])) none)) (cond (Nat.blt pc 30) (cond (Nat.beq pc 29) (some (.iaload, 30, [])) none) (cond (Nat.beq pc 30) (some (.istore 4, 32, [])) none))) (cond (Nat.blt pc 35) (cond (Nat.blt pc 33) (cond (Nat.beq pc 32) (some (.iconst 0, 33, [])) none) (cond (Nat.beq pc 33) (some (.istore 5, 35, [])) none)) (cond (Nat.blt pc 36) (cond (Nat.beq pc 35) (some (.iconst 0, 36, [])) none) (cond (Nat.beq pc 36) (some (.istore 6, 38, [])) none)))) (cond (Nat.blt pc 46) (cond (Nat.blt pc 42) (cond (Nat.blt pc 40) (cond (Nat.beq pc 38) (some (.iload 6, 40, [])) none) (cond (Nat.beq pc 40) (some (.iload 4, 42, [])) none)) (cond (Nat.blt pc 45) (cond (Nat.beq pc 42) (some (.if_icmp .ge 48, 45, [90])) none) (cond (Nat.beq pc 45) (some (.aload_n 0, 46, [])) none))) (cond (Nat.blt pc 49) (cond (Nat.blt pc 47) (cond (Nat.beq pc 46) (some (.iload_n 1, 47, [])) none) (cond (Nat.beq pc 47) (some (.iload 6, 49, [])) none)) (cond (Nat.blt pc 52) (cond (Nat.beq pc 49) (some (.invokevirtual 76, 52, [])) none) (cond (Nat.beq pc 52) (some (.aload_n 0, 53, [])) none)))))) (cond (Nat.blt pc 81) (cond (Nat.blt pc 66) (cond (Nat.blt pc 60) (cond (Nat.blt pc 56) (cond (Nat.blt pc 54) (cond (Nat.beq pc 53) (some (.iload_n 2, 54, [])) none) (cond (Nat.beq pc 54) (some (.iload 6, 56, [])) none)) (cond (Nat.blt pc 59) (cond (Nat.beq pc 56) (some (.invokevirtual 76, 59, [])) none) (cond (Nat.beq pc 59) (some (.iadd, 60, [])) none))) (cond (Nat.blt pc 63) (cond (Nat.blt pc 62) (cond (Nat.beq pc 60) (some (.iload 5, 62, [])) none) (cond (Nat.beq pc 62) (some (.iadd, 63, [])) none)) (cond (Nat.blt pc 65) (cond (Nat.beq pc 63) (some (.istore 7, 65, [])) none) (cond (Nat.beq pc 65) (some (.aload_n 0, 66, [])) none)))) (cond (Nat.blt pc 73) (cond (Nat.blt pc 69) (cond (Nat.blt pc 67) (cond (Nat.beq pc 66) (some (.iload_n 3, 67, [])) none) (cond (Nat.beq pc 67) (some (.iload 6, 69, [])) none)) (cond (Nat.blt pc 71) (cond (Nat.beq pc 69) (some (.iload 7, 71, [])) none) (cond (Nat.beq pc 71) (some (.ldc 84, 73, [])) none))) (cond (Nat.blt pc 77) (cond (Nat.blt pc 74) (cond (Nat.beq pc 73) (some (.irem, 74, [])) none) (cond (Nat.beq pc 74) (some (.invokevirtual 80, 77, [])) none)) (cond (Nat.blt pc 79) (cond (Nat.beq pc 77) (some (.iload 7, 79, [])) none) (cond (Nat.beq pc 79) (some (.ldc 84, 81, [])) none))))) (cond (Nat.blt pc 96) (cond (Nat.blt pc 90) (cond (Nat.blt pc 84) (cond (Nat.blt pc 82) (cond (Nat.beq pc 81) (some (.idiv, 82, [])) none) (cond (Nat.beq pc 82) (some (.istore 5, 84, [])) none)) (cond (Nat.blt pc 87) (cond (Nat.beq pc 84) (some (.iinc 6 1, 87, [])) none) (cond (Nat.beq pc 87) (some (.goto (-49), 90, [38])) none))) (cond (Nat.blt pc 92) (cond (Nat.blt pc 91) (cond (Nat.beq pc 90) (some (.aload_n 0, 91, [])) none) (cond (Nat.beq pc 91) (some (.iload_n 3, 92, [])) none)) (cond (Nat.blt pc 94) (cond (Nat.beq pc 92) (some (.iload 4, 94, [])) none) (cond (Nat.beq pc 94) (some (.iload 5, 96, [])) none)))) (cond (Nat.blt pc 103) (cond (Nat.blt pc 100) (cond (Nat.blt pc 99) (cond (Nat.beq pc 96) (some (.invokevirtual 80, 99, [])) none) (cond (Nat.beq pc 99) (some (.aload_n 0, 100, [])) none)) (cond (Nat.blt pc 101) (cond (Nat.beq pc 100) (some (.iload_n 3, 101, [])) none) (cond (Nat.beq pc 101) (some (.iload 4, 103, [])) none))) (cond (Nat.blt pc 105) (cond (Nat.blt pc 104) (cond (Nat.beq pc 103) (some (.iconst 1, 104, [])) none) (cond (Nat.beq pc 104) (some (.iadd, 105, [])) none)) (cond (Nat.blt pc 108) (cond (Nat.beq pc 105) (some (.invokevirtual 85, 108, [])) none) (cond (Nat.beq pc 108) (some (.return_, 109, [])) none)))))))
set_option maxRecDepth 100000 in
theorem kX8_sum : okT cX8_sum tX8_sum 109 8 = true := by decide +kernel
def tX8_difference : Tt := tWn 89 (fun pc => cond (Nat.blt pc 41) (cond (Nat.blt pc 21) (cond (Nat.blt pc 9) (cond (Nat.blt pc 5) (cond (Nat.blt pc 1) (cond (Nat.beq pc 0) (some (.aload_n 0, 1, [])) none) (cond (Nat.blt pc 4) (cond (Nat.beq pc 1) (some (.getfield 13, 4, [])) none) (cond (Nat.beq pc 4) (some (.iload_n 1, 5, [])) none))) (cond (Nat.blt pc 6) (cond (Nat.beq pc 5) (some (.iaload, 6, [])) none) (cond (Nat.blt pc 8) (cond (Nat.beq pc 6) (some (.istore 4, 8, [])) none) (cond (Nat.beq pc 8) (some (.iconst 0, 9, [])) none)))) (cond (Nat.blt pc 14) (cond (Nat.blt pc 11) (cond (Nat.beq pc 9) (some (.istore 5, 11, [])) none) (cond (Nat.blt pc 12) (cond (Nat.beq pc 11) (some (.iconst 0, 12, [])) none) (cond (Nat.beq pc 12) (some (.istore 6, 14, [])) none))) (cond (Nat.blt pc 16) (cond (Nat.beq pc 14) (some (.iload 6, 16, [])) none) (cond (Nat.blt pc 18) (cond (Nat.beq pc 16) (some (.iload 4, 18, [])) none) (cond (Nat.beq pc 18) (some (.if_icmp .ge 63, 21, [81])) none))))) (cond (Nat.blt pc 30) (cond (Nat.blt pc 25) (cond (Nat.blt pc 22) (cond (Nat.beq pc 21) (some (.aload_n 0, 22, [])) none) (cond (Nat.blt pc 23) (cond (Nat.beq pc 22) (some (.iload_n 1, 23, [])) none) (cond (Nat.beq pc 23) (some (.iload 6, 25, [])) none))) (cond (Nat.blt pc 28) (cond (Nat.beq pc 25) (some (.invokevirtual 76, 28, [])) none) (cond (Nat.blt pc 29) (cond (Nat.beq pc 28) (some (.aload_n 0, 29, [])) none) (cond (Nat.beq pc 29) (some (.iload_n 2, 30, [])) none)))) (cond (Nat.blt pc 36) (cond (Nat.blt pc 32) (cond (Nat.beq pc 30) (some (.iload 6, 32, [])) none) (cond (Nat.blt pc 35) (cond (Nat.beq pc 32) (some (.invokevirtual 76, 35, [])) none) (cond (Nat.beq pc 35) (some (.isub, 36, [])) none))) (cond (Nat.blt pc 38) (cond (Nat.beq pc 36) (some (.iload 5, 38, [])) none) (cond (Nat.blt pc 39) (cond (Nat.beq pc 38) (some (.isub, 39, [])) none) (cond (Nat.beq pc 39) (some (.istore 7, 41, [])) none)))))) (cond (Nat.blt pc 64) (cond (Nat.blt pc 53) (cond (Nat.blt pc 47) (cond (Nat.blt pc 43) (cond (Nat.beq pc 41) (some (.iload 7, 43, [])) none) (cond (Nat.blt pc 46) (cond (Nat.beq pc 43) (some (.ifCond .ge 7, 46, [50])) none) (cond (Nat.beq pc 46) (some (.iconst 1, 47, [])) none))) (cond (Nat.blt pc 50) (cond (Nat.beq pc 47) (some (.goto 4, 50, [51])) none) (cond (Nat.blt pc 51) (cond (Nat.beq pc 50) (some (.iconst 0, 51, [])) none) (cond (Nat.beq pc 51) (some (.istore 5, 53, [])) none)))) (cond (Nat.blt pc 57) (cond (Nat.blt pc 54) (cond (Nat.beq pc 53) (some (.aload_n 0, 54, [])) none) (cond (Nat.blt pc 55) (cond (Nat.beq pc 54) (some (.iload_n 3, 55, [])) none) (cond (Nat.beq pc 55) (some (.iload 6, 57, [])) none))) (cond (Nat.blt pc 59) (cond (Nat.beq pc 57) (some (.iload 7, 59, [])) none) (cond (Nat.blt pc 62) (cond (Nat.beq pc 59) (some (.ifCond .ge 11, 62, [70])) none) (cond (Nat.beq pc 62) (some (.iload 7, 64, [])) none))))) (cond (Nat.blt pc 78) (cond (Nat.blt pc 70) (cond (Nat.blt pc 66) (cond (Nat.beq pc 64) (some (.ldc 84, 66, [])) none) (cond (Nat.blt pc 67) (cond (Nat.beq pc 66) (some (.iadd, 67, [])) none) (cond (Nat.beq pc 67) (some (.goto 5, 70, [72])) none))) (cond (Nat.blt pc 72) (cond (Nat.beq pc 70) (some (.iload 7, 72, [])) none) (cond (Nat.blt pc 75) (cond (Nat.beq pc 72) (some (.invokevirtual 80, 75, [])) none) (cond (Nat.beq pc 75) (some (.iinc 6 1, 78, [])) none)))) (cond (Nat.blt pc 83) (cond (Nat.blt pc 81) (cond (Nat.beq pc 78) (some (.goto (-64), 81, [14])) none) (cond (Nat.blt pc 82) (cond (Nat.beq pc 81) (some (.aload_n 0, 82, [])) none) (cond (Nat.beq pc 82) (some (.iload_n 3, 83, [])) none))) (cond (Nat.blt pc 85) (cond (Nat.beq pc 83) (some (.iload 4, 85, [])) none) (cond (Nat.blt pc 88) (cond (Nat.beq pc 85) (some (.invokevirtual 85, 88, [])) none) (cond (Nat.beq pc 88) (some (.return_, 89, [])) none)))))))
set_option maxRecDepth 100000 in
theorem kX8_difference : okT cX8_difference tX8_difference 89 8 = true := by decide +kernel
def tX8_product : Tt := tWn 148 (fun pc => cond (Nat.blt pc 70) (cond (Nat.blt pc 35) (cond (Nat.blt pc 15) (cond (Nat.blt pc 7) (cond (Nat.blt pc 4) (cond (Nat.blt pc 1) (cond (Nat.beq pc 0) (some (.aload_n 0, 1, [])) none) (cond (Nat.beq pc 1) (some (.getfield 13, 4, [])) none)) (cond (Nat.blt pc 5) (cond (Nat.beq pc 4) (some (.iload_n 1, 5, [])) none) (cond (Nat.blt pc 6) (cond (Nat.beq pc 5) (some (.iaload, 6, [])) none) (cond (Nat.beq pc 6) (some (.aload_n 0, 7, [])) none)))) (cond (Nat.blt pc 11) (cond (Nat.blt pc 10) (cond (Nat.beq pc 7) (some (.getfield 13, 10, [])) none) (cond (Nat.beq pc 10) (some (.iload_n 2, 11, [])) none)) (cond (Nat.blt pc 12) (cond (Nat.beq pc 11) (some (.iaload, 12, [])) none) (cond (Nat.blt pc 13) (cond (Nat.beq pc 12) (some (.iadd, 13, [])) none) (cond (Nat.beq pc 13) (some (.istore 4, 15, [])) none))))) (cond (Nat.blt pc 23) (cond (Nat.blt pc 18) (cond (Nat.blt pc 16) (cond (Nat.beq pc 15) (some (.lconst 0, 16, [])) none) (cond (Nat.beq pc 16) (some (.lstore 5, 18, [])) none)) (cond (Nat.blt pc 19) (cond (Nat.beq pc 18) (some (.iconst 0, 19, [])) none) (cond (Nat.blt pc 21) (cond (Nat.beq pc 19) (some (.istore 7, 21, [])) none) (cond (Nat.beq pc 21) (some (.iload 7, 23, [])) none)))) (cond (Nat.blt pc 30) (cond (Nat.blt pc 25) (cond (Nat.beq pc 23) (some (.iload 4, 25, [])) none) (cond (Nat.blt pc 28) (cond (Nat.beq pc 25) (some (.if_icmp .ge 115, 28, [140])) none) (cond (Nat.beq pc 28) (some (.iload 7, 30, [])) none))) (cond (Nat.blt pc 31) (cond (Nat.beq pc 30) (some (.aload_n 0, 31, [])) none) (cond (Nat.blt pc 34) (cond (Nat.beq pc 31) (some (.getfield 13, 34, [])) none) (cond (Nat.beq pc 34) (some (.iload_n 2, 35, [])) none)))))) (cond (Nat.blt pc 50) (cond (Nat.blt pc 42) (cond (Nat.blt pc 37) (cond (Nat.blt pc 36) (cond (Nat.beq pc 35) (some (.iaload, 36, [])) none) (cond (Nat.beq pc 36) (some (.isub, 37, [])) none)) (cond (Nat.blt pc 38) (cond (Nat.beq pc 37) (some (.iconst 1, 38, [])) none) (cond (Nat.blt pc 39) (cond (Nat.beq pc 38) (some (.iadd, 39, [])) none) (cond (Nat.beq pc 39) (some (.ifCond .le 17, 42, [56])) none)))) (cond (Nat.blt pc 45) (cond (Nat.blt pc 44) (cond (Nat.beq pc 42) (some (.iload 7, 44, [])) none) (cond (Nat.beq pc 44) (some (.aload_n 0, 45, [])) none)) (cond (Nat.blt pc 48) (cond (Nat.beq pc 45) (some (.getfield 13, 48, [])) none) (cond (Nat.blt pc 49) (cond (Nat.beq pc 48) (some (.iload_n 2, 49, [])) none) (cond (Nat.beq pc 49) (some (.iaload, 50, [])) none))))) (cond (Nat.blt pc 57) (cond (Nat.blt pc 52) (cond (Nat.blt pc 51) (cond (Nat.beq pc 50) (some (.isub, 51, [])) none) (cond (Nat.beq pc 51) (some (.iconst 1, 52, [])) none)) (cond (Nat.blt pc 53) (cond (Nat.beq pc 52) (some (.iadd, 53, [])) none) (cond (Nat.blt pc 56) (cond (Nat.beq pc 53) (some (.goto 4, 56, [57])) none) (cond (Nat.beq pc 56) (some (.iconst 0, 57, [])) none)))) (cond (Nat.blt pc 63) (cond (Nat.blt pc 59) (cond (Nat.beq pc 57) (some (.istore 8, 59, [])) none) (cond (Nat.blt pc 61) (cond (Nat.beq pc 59) (some (.iload 8, 61, [])) none) (cond (Nat.beq pc 61) (some (.istore 9, 63, [])) none))) (cond (Nat.blt pc 65) (cond (Nat.beq pc 63) (some (.iload 9, 65, [])) none) (cond (Nat.blt pc 67) (cond (Nat.beq pc 65) (some (.iload 7, 67, [])) none) (cond (Nat.beq pc 67) (some (.if_icmp .gt 45, 70, [112])) none))))))) (cond (Nat.blt pc 104) (cond (Nat.blt pc 87) (cond (Nat.blt pc 78) (cond (Nat.blt pc 73) (cond (Nat.blt pc 72) (cond (Nat.beq pc 70) (some (.iload 9, 72, [])) none) (cond (Nat.beq pc 72) (some (.aload_n 0, 73, [])) none)) (cond (Nat.blt pc 76) (cond (Nat.beq pc 73) (some (.getfield 13, 76, [])) none) (cond (Nat.blt pc 77) (cond (Nat.beq pc 76) (some (.iload_n 1, 77, [])) none) (cond (Nat.beq pc 77) (some (.iaload, 78, [])) none)))) (cond (Nat.blt pc 83) (cond (Nat.blt pc 81) (cond (Nat.beq pc 78) (some (.if_icmp .ge 34, 81, [112])) none) (cond (Nat.beq pc 81) (some (.lload 5, 83, [])) none)) (cond (Nat.blt pc 84) (cond (Nat.beq pc 83) (some (.aload_n 0, 84, [])) none) (cond (Nat.blt pc 85) (cond (Nat.beq pc 84) (some (.iload_n 1, 85, [])) none) (cond (Nat.beq pc 85) (some (.iload 9, 87, [])) none))))) (cond (Nat.blt pc 95) (cond (Nat.blt pc 91) (cond (Nat.blt pc 90) (cond (Nat.beq pc 87) (some (.invokevirtual 76, 90, [])) none) (cond (Nat.beq pc 90) (some (.i2l, 91, [])) none)) (cond (Nat.blt pc 92) (cond (Nat.beq pc 91) (some (.aload_n 0, 92, [])) none) (cond (Nat.blt pc 93) (cond (Nat.beq pc 92) (some (.iload_n 2, 93, [])) none) (cond (Nat.beq pc 93) (some (.iload 7, 95, [])) none)))) (cond (Nat.blt pc 101) (cond (Nat.blt pc 97) (cond (Nat.beq pc 95) (some (.iload 9, 97, [])) none) (cond (Nat.blt pc 98) (cond (Nat.beq pc 97) (some (.isub, 98, [])) none) (cond (Nat.beq pc 98) (some (.invokevirtual 76, 101, [])) none))) (cond (Nat.blt pc 102) (cond (Nat.beq pc 101) (some (.i2l, 102, [])) none) (cond (Nat.blt pc 103) (cond (Nat.beq pc 102) (some (.lmul, 103, [])) none) (cond (Nat.beq pc 103) (some (.ladd, 104, [])) none)))))) (cond (Nat.blt pc 126) (cond (Nat.blt pc 114) (cond (Nat.blt pc 109) (cond (Nat.blt pc 106) (cond (Nat.beq pc 104) (some (.lstore 5, 106, [])) none) (cond (Nat.beq pc 106) (some (.iinc 9 1, 109, [])) none)) (cond (Nat.blt pc 112) (cond (Nat.beq pc 109) (some (.goto (-46), 112, [63])) none) (cond (Nat.blt pc 113) (cond (Nat.beq pc 112) (some (.aload_n 0, 113, [])) none) (cond (Nat.beq pc 113) (some (.iload_n 3, 114, [])) none)))) (cond (Nat.blt pc 121) (cond (Nat.blt pc 116) (cond (Nat.beq pc 114) (some (.iload 7, 116, [])) none) (cond (Nat.blt pc 118) (cond (Nat.beq pc 116) (some (.lload 5, 118, [])) none) (cond (Nat.beq pc 118) (some (.ldc2_w 89, 121, [])) none))) (cond (Nat.blt pc 122) (cond (Nat.beq pc 121) (some (.lrem, 122, [])) none) (cond (Nat.blt pc 123) (cond (Nat.beq pc 122) (some (.l2i, 123, [])) none) (cond (Nat.beq pc 123) (some (.invokevirtual 80, 126, [])) none))))) (cond (Nat.blt pc 137) (cond (Nat.blt pc 131) (cond (Nat.blt pc 128) (cond (Nat.beq pc 126) (some (.lload 5, 128, [])) none) (cond (Nat.beq pc 128) (some (.ldc2_w 89, 131, [])) none)) (cond (Nat.blt pc 132) (cond (Nat.beq pc 131) (some (.ldiv, 132, [])) none) (cond (Nat.blt pc 134) (cond (Nat.beq pc 132) (some (.lstore 5, 134, [])) none) (cond (Nat.beq pc 134) (some (.iinc 7 1, 137, [])) none)))) (cond (Nat.blt pc 142) (cond (Nat.blt pc 140) (cond (Nat.beq pc 137) (some (.goto (-116), 140, [21])) none) (cond (Nat.blt pc 141) (cond (Nat.beq pc 140) (some (.aload_n 0, 141, [])) none) (cond (Nat.beq pc 141) (some (.iload_n 3, 142, [])) none))) (cond (Nat.blt pc 144) (cond (Nat.beq pc 142) (some (.iload 4, 144, [])) none) (cond (Nat.blt pc 147) (cond (Nat.beq pc 144) (some (.invokevirtual 85, 147, [])) none) (cond (Nat.beq pc 147) (some (.return_, 148, [])) none))))))))
set_option maxRecDepth 100000 in
theorem kX8_product : okT cX8_product tX8_product 148 10 = true := by decide +kernel
def tX8_divide : Tt := tWn 348 (fun pc => cond (Nat.blt pc 169) (cond (Nat.blt pc 79) (cond (Nat.blt pc 38) (cond (Nat.blt pc 20) (cond (Nat.blt pc 9) (cond (Nat.blt pc 5) (cond (Nat.blt pc 1) (cond (Nat.beq pc 0) (some (.aload_n 0, 1, [])) none) (cond (Nat.blt pc 4) (cond (Nat.beq pc 1) (some (.getfield 13, 4, [])) none) (cond (Nat.beq pc 4) (some (.iload_n 2, 5, [])) none))) (cond (Nat.blt pc 6) (cond (Nat.beq pc 5) (some (.iaload, 6, [])) none) (cond (Nat.blt pc 8) (cond (Nat.beq pc 6) (some (.istore 5, 8, [])) none) (cond (Nat.beq pc 8) (some (.aload_n 0, 9, [])) none)))) (cond (Nat.blt pc 14) (cond (Nat.blt pc 12) (cond (Nat.beq pc 9) (some (.getfield 13, 12, [])) none) (cond (Nat.blt pc 13) (cond (Nat.beq pc 12) (some (.iload_n 1, 13, [])) none) (cond (Nat.beq pc 13) (some (.iaload, 14, [])) none))) (cond (Nat.blt pc 16) (cond (Nat.beq pc 14) (some (.istore 6, 16, [])) none) (cond (Nat.blt pc 17) (cond (Nat.beq pc 16) (some (.aload_n 0, 17, [])) none) (cond (Nat.beq pc 17) (some (.getfield 13, 20, [])) none))))) (cond (Nat.blt pc 28) (cond (Nat.blt pc 24) (cond (Nat.blt pc 22) (cond (Nat.beq pc 20) (some (.iload 4, 22, [])) none) (cond (Nat.blt pc 23) (cond (Nat.beq pc 22) (some (.iconst 0, 23, [])) none) (cond (Nat.beq pc 23) (some (.iastore, 24, [])) none))) (cond (Nat.blt pc 25) (cond (Nat.beq pc 24) (some (.aload_n 0, 25, [])) none) (cond (Nat.blt pc 26) (cond (Nat.beq pc 25) (some (.iload_n 2, 26, [])) none) (cond (Nat.beq pc 26) (some (.iload 5, 28, [])) none)))) (cond (Nat.blt pc 33) (cond (Nat.blt pc 29) (cond (Nat.beq pc 28) (some (.iconst 1, 29, [])) none) (cond (Nat.blt pc 30) (cond (Nat.beq pc 29) (some (.isub, 30, [])) none) (cond (Nat.beq pc 30) (some (.invokevirtual 76, 33, [])) none))) (cond (Nat.blt pc 34) (cond (Nat.beq pc 33) (some (.i2l, 34, [])) none) (cond (Nat.blt pc 37) (cond (Nat.beq pc 34) (some (.ldc2_w 89, 37, [])) none) (cond (Nat.beq pc 37) (some (.lmul, 38, [])) none)))))) (cond (Nat.blt pc 55) (cond (Nat.blt pc 47) (cond (Nat.blt pc 42) (cond (Nat.blt pc 39) (cond (Nat.beq pc 38) (some (.aload_n 0, 39, [])) none) (cond (Nat.blt pc 40) (cond (Nat.beq pc 39) (some (.iload_n 2, 40, [])) none) (cond (Nat.beq pc 40) (some (.iload 5, 42, [])) none))) (cond (Nat.blt pc 43) (cond (Nat.beq pc 42) (some (.iconst 2, 43, [])) none) (cond (Nat.blt pc 44) (cond (Nat.beq pc 43) (some (.isub, 44, [])) none) (cond (Nat.beq pc 44) (some (.invokevirtual 76, 47, [])) none)))) (cond (Nat.blt pc 50) (cond (Nat.blt pc 48) (cond (Nat.beq pc 47) (some (.i2l, 48, [])) none) (cond (Nat.blt pc 49) (cond (Nat.beq pc 48) (some (.ladd, 49, [])) none) (cond (Nat.beq pc 49) (some (.lconst 1, 50, [])) none))) (cond (Nat.blt pc 51) (cond (Nat.beq pc 50) (some (.ladd, 51, [])) none) (cond (Nat.blt pc 53) (cond (Nat.beq pc 51) (some (.lstore 7, 53, [])) none) (cond (Nat.beq pc 53) (some (.iload 6, 55, [])) none))))) (cond (Nat.blt pc 65) (cond (Nat.blt pc 59) (cond (Nat.blt pc 56) (cond (Nat.beq pc 55) (some (.iconst 1, 56, [])) none) (cond (Nat.blt pc 57) (cond (Nat.beq pc 56) (some (.isub, 57, [])) none) (cond (Nat.beq pc 57) (some (.istore 9, 59, [])) none))) (cond (Nat.blt pc 61) (cond (Nat.beq pc 59) (some (.iload 9, 61, [])) none) (cond (Nat.blt pc 64) (cond (Nat.beq pc 61) (some (.ifCond .lt 279, 64, [340])) none) (cond (Nat.beq pc 64) (some (.aload_n 0, 65, [])) none)))) (cond (Nat.blt pc 71) (cond (Nat.blt pc 68) (cond (Nat.beq pc 65) (some (.getfield 13, 68, [])) none) (cond (Nat.blt pc 70) (cond (Nat.beq pc 68) (some (.iload 4, 70, [])) none) (cond (Nat.beq pc 70) (some (.iaload, 71, [])) none))) (cond (Nat.blt pc 75) (cond (Nat.blt pc 73) (cond (Nat.beq pc 71) (some (.istore 10, 73, [])) none) (cond (Nat.beq pc 73) (some (.iload 10, 75, [])) none)) (cond (Nat.blt pc 78) (cond (Nat.beq pc 75) (some (.ifCond .le 27, 78, [102])) none) (cond (Nat.beq pc 78) (some (.aload_n 0, 79, [])) none))))))) (cond (Nat.blt pc 126) (cond (Nat.blt pc 103) (cond (Nat.blt pc 89) (cond (Nat.blt pc 84) (cond (Nat.blt pc 81) (cond (Nat.beq pc 79) (some (.iload 4, 81, [])) none) (cond (Nat.blt pc 83) (cond (Nat.beq pc 81) (some (.iload 10, 83, [])) none) (cond (Nat.beq pc 83) (some (.aload_n 0, 84, [])) none))) (cond (Nat.blt pc 86) (cond (Nat.beq pc 84) (some (.iload 4, 86, [])) none) (cond (Nat.blt pc 88) (cond (Nat.beq pc 86) (some (.iload 10, 88, [])) none) (cond (Nat.beq pc 88) (some (.iconst 1, 89, [])) none)))) (cond (Nat.blt pc 96) (cond (Nat.blt pc 90) (cond (Nat.beq pc 89) (some (.isub, 90, [])) none) (cond (Nat.blt pc 93) (cond (Nat.beq pc 90) (some (.invokevirtual 76, 93, [])) none) (cond (Nat.beq pc 93) (some (.invokevirtual 80, 96, [])) none))) (cond (Nat.blt pc 99) (cond (Nat.beq pc 96) (some (.iinc 10 (-1), 99, [])) none) (cond (Nat.blt pc 102) (cond (Nat.beq pc 99) (some (.goto (-26), 102, [73])) none) (cond (Nat.beq pc 102) (some (.aload_n 0, 103, [])) none))))) (cond (Nat.blt pc 113) (cond (Nat.blt pc 107) (cond (Nat.blt pc 105) (cond (Nat.beq pc 103) (some (.iload 4, 105, [])) none) (cond (Nat.blt pc 106) (cond (Nat.beq pc 105) (some (.iconst 0, 106, [])) none) (cond (Nat.beq pc 106) (some (.aload_n 0, 107, [])) none))) (cond (Nat.blt pc 108) (cond (Nat.beq pc 107) (some (.iload_n 1, 108, [])) none) (cond (Nat.blt pc 110) (cond (Nat.beq pc 108) (some (.iload 9, 110, [])) none) (cond (Nat.beq pc 110) (some (.invokevirtual 76, 113, [])) none)))) (cond (Nat.blt pc 119) (cond (Nat.blt pc 116) (cond (Nat.beq pc 113) (some (.invokevirtual 80, 116, [])) none) (cond (Nat.blt pc 117) (cond (Nat.beq pc 116) (some (.aload_n 0, 117, [])) none) (cond (Nat.beq pc 117) (some (.iload 4, 119, [])) none))) (cond (Nat.blt pc 123) (cond (Nat.blt pc 120) (cond (Nat.beq pc 119) (some (.aload_n 0, 120, [])) none) (cond (Nat.beq pc 120) (some (.getfield 13, 123, [])) none)) (cond (Nat.blt pc 125) (cond (Nat.beq pc 123) (some (.iload 4, 125, [])) none) (cond (Nat.beq pc 125) (some (.iaload, 126, [])) none)))))) (cond (Nat.blt pc 147) (cond (Nat.blt pc 135) (cond (Nat.blt pc 131) (cond (Nat.blt pc 127) (cond (Nat.beq pc 126) (some (.iconst 1, 127, [])) none) (cond (Nat.blt pc 128) (cond (Nat.beq pc 127) (some (.iadd, 128, [])) none) (cond (Nat.beq pc 128) (some (.invokevirtual 85, 131, [])) none))) (cond (Nat.blt pc 132) (cond (Nat.beq pc 131) (some (.iconst 0, 132, [])) none) (cond (Nat.blt pc 134) (cond (Nat.beq pc 132) (some (.istore 10, 134, [])) none) (cond (Nat.beq pc 134) (some (.aload_n 0, 135, [])) none)))) (cond (Nat.blt pc 141) (cond (Nat.blt pc 137) (cond (Nat.beq pc 135) (some (.iload 4, 137, [])) none) (cond (Nat.blt pc 138) (cond (Nat.beq pc 137) (some (.iload_n 2, 138, [])) none) (cond (Nat.beq pc 138) (some (.invokevirtual 91, 141, [])) none))) (cond (Nat.blt pc 144) (cond (Nat.beq pc 141) (some (.ifCond .lt 184, 144, [325])) none) (cond (Nat.blt pc 145) (cond (Nat.beq pc 144) (some (.aload_n 0, 145, [])) none) (cond (Nat.beq pc 145) (some (.iload 4, 147, [])) none))))) (cond (Nat.blt pc 158) (cond (Nat.blt pc 153) (cond (Nat.blt pc 149) (cond (Nat.beq pc 147) (some (.iload 5, 149, [])) none) (cond (Nat.blt pc 152) (cond (Nat.beq pc 149) (some (.invokevirtual 76, 152, [])) none) (cond (Nat.beq pc 152) (some (.i2l, 153, [])) none))) (cond (Nat.blt pc 156) (cond (Nat.beq pc 153) (some (.ldc2_w 89, 156, [])) none) (cond (Nat.blt pc 157) (cond (Nat.beq pc 156) (some (.lmul, 157, [])) none) (cond (Nat.beq pc 157) (some (.aload_n 0, 158, [])) none)))) (cond (Nat.blt pc 163) (cond (Nat.blt pc 160) (cond (Nat.beq pc 158) (some (.iload 4, 160, [])) none) (cond (Nat.blt pc 162) (cond (Nat.beq pc 160) (some (.iload 5, 162, [])) none) (cond (Nat.beq pc 162) (some (.iconst 1, 163, [])) none))) (cond (Nat.blt pc 167) (cond (Nat.blt pc 164) (cond (Nat.beq pc 163) (some (.isub, 164, [])) none) (cond (Nat.beq pc 164) (some (.invokevirtual 76, 167, [])) none)) (cond (Nat.blt pc 168) (cond (Nat.beq pc 167) (some (.i2l, 168, [])) none) (cond (Nat.beq pc 168) (some (.ladd, 169, [])) none)))))))) (cond (Nat.blt pc 256) (cond (Nat.blt pc 212) (cond (Nat.blt pc 189) (cond (Nat.blt pc 179) (cond (Nat.blt pc 174) (cond (Nat.blt pc 172) (cond (Nat.beq pc 169) (some (.ldc2_w 89, 172, [])) none) (cond (Nat.blt pc 173) (cond (Nat.beq pc 172) (some (.lmul, 173, [])) none) (cond (Nat.beq pc 173) (some (.aload_n 0, 174, [])) none))) (cond (Nat.blt pc 176) (cond (Nat.beq pc 174) (some (.iload 4, 176, [])) none) (cond (Nat.blt pc 178) (cond (Nat.beq pc 176) (some (.iload 5, 178, [])) none) (cond (Nat.beq pc 178) (some (.iconst 2, 179, [])) none)))) (cond (Nat.blt pc 184) (cond (Nat.blt pc 180) (cond (Nat.beq pc 179) (some (.isub, 180, [])) none) (cond (Nat.blt pc 183) (cond (Nat.beq pc 180) (some (.invokevirtual 76, 183, [])) none) (cond (Nat.beq pc 183) (some (.i2l, 184, [])) none))) (cond (Nat.blt pc 185) (cond (Nat.beq pc 184) (some (.ladd, 185, [])) none) (cond (Nat.blt pc 187) (cond (Nat.beq pc 185) (some (.lstore 11, 187, [])) none) (cond (Nat.beq pc 187) (some (.lload 11, 189, [])) none))))) (cond (Nat.blt pc 200) (cond (Nat.blt pc 193) (cond (Nat.blt pc 191) (cond (Nat.beq pc 189) (some (.lload 7, 191, [])) none) (cond (Nat.blt pc 192) (cond (Nat.beq pc 191) (some (.ldiv, 192, [])) none) (cond (Nat.beq pc 192) (some (.l2i, 193, [])) none))) (cond (Nat.blt pc 195) (cond (Nat.beq pc 193) (some (.istore 13, 195, [])) none) (cond (Nat.blt pc 197) (cond (Nat.beq pc 195) (some (.iload 13, 197, [])) none) (cond (Nat.beq pc 197) (some (.ifCond .ne 7, 200, [204])) none)))) (cond (Nat.blt pc 206) (cond (Nat.blt pc 201) (cond (Nat.beq pc 200) (some (.iconst 1, 201, [])) none) (cond (Nat.blt pc 204) (cond (Nat.beq pc 201) (some (.goto 5, 204, [206])) none) (cond (Nat.beq pc 204) (some (.iload 13, 206, [])) none))) (cond (Nat.blt pc 208) (cond (Nat.beq pc 206) (some (.istore 13, 208, [])) none) (cond (Nat.blt pc 210) (cond (Nat.beq pc 208) (some (.iload 10, 210, [])) none) (cond (Nat.beq pc 210) (some (.iload 13, 212, [])) none)))))) (cond (Nat.blt pc 232) (cond (Nat.blt pc 222) (cond (Nat.blt pc 216) (cond (Nat.blt pc 213) (cond (Nat.beq pc 212) (some (.iadd, 213, [])) none) (cond (Nat.blt pc 215) (cond (Nat.beq pc 213) (some (.istore 10, 215, [])) none) (cond (Nat.beq pc 215) (some (.lconst 0, 216, [])) none))) (cond (Nat.blt pc 218) (cond (Nat.beq pc 216) (some (.lstore 14, 218, [])) none) (cond (Nat.blt pc 219) (cond (Nat.beq pc 218) (some (.aload_n 0, 219, [])) none) (cond (Nat.beq pc 219) (some (.getfield 13, 222, [])) none)))) (cond (Nat.blt pc 227) (cond (Nat.blt pc 224) (cond (Nat.beq pc 222) (some (.iload 4, 224, [])) none) (cond (Nat.blt pc 225) (cond (Nat.beq pc 224) (some (.iaload, 225, [])) none) (cond (Nat.beq pc 225) (some (.istore 16, 227, [])) none))) (cond (Nat.blt pc 228) (cond (Nat.beq pc 227) (some (.iconst 0, 228, [])) none) (cond (Nat.blt pc 230) (cond (Nat.beq pc 228) (some (.istore 17, 230, [])) none) (cond (Nat.beq pc 230) (some (.iload 17, 232, [])) none))))) (cond (Nat.blt pc 245) (cond (Nat.blt pc 238) (cond (Nat.blt pc 234) (cond (Nat.beq pc 232) (some (.iload 16, 234, [])) none) (cond (Nat.blt pc 237) (cond (Nat.beq pc 234) (some (.if_icmp .ge 80, 237, [314])) none) (cond (Nat.beq pc 237) (some (.aload_n 0, 238, [])) none))) (cond (Nat.blt pc 240) (cond (Nat.beq pc 238) (some (.iload 4, 240, [])) none) (cond (Nat.blt pc 242) (cond (Nat.beq pc 240) (some (.iload 17, 242, [])) none) (cond (Nat.beq pc 242) (some (.invokevirtual 76, 245, [])) none)))) (cond (Nat.blt pc 249) (cond (Nat.blt pc 246) (cond (Nat.beq pc 245) (some (.i2l, 246, [])) none) (cond (Nat.blt pc 248) (cond (Nat.beq pc 246) (some (.iload 13, 248, [])) none) (cond (Nat.beq pc 248) (some (.i2l, 249, [])) none))) (cond (Nat.blt pc 251) (cond (Nat.blt pc 250) (cond (Nat.beq pc 249) (some (.aload_n 0, 250, [])) none) (cond (Nat.beq pc 250) (some (.iload_n 2, 251, [])) none)) (cond (Nat.blt pc 253) (cond (Nat.beq pc 251) (some (.iload 17, 253, [])) none) (cond (Nat.beq pc 253) (some (.invokevirtual 76, 256, [])) none))))))) (cond (Nat.blt pc 297) (cond (Nat.blt pc 274) (cond (Nat.blt pc 264) (cond (Nat.blt pc 259) (cond (Nat.blt pc 257) (cond (Nat.beq pc 256) (some (.i2l, 257, [])) none) (cond (Nat.blt pc 258) (cond (Nat.beq pc 257) (some (.lmul, 258, [])) none) (cond (Nat.beq pc 258) (some (.lsub, 259, [])) none))) (cond (Nat.blt pc 261) (cond (Nat.beq pc 259) (some (.lload 14, 261, [])) none) (cond (Nat.blt pc 262) (cond (Nat.beq pc 261) (some (.lsub, 262, [])) none) (cond (Nat.beq pc 262) (some (.lstore 18, 264, [])) none)))) (cond (Nat.blt pc 268) (cond (Nat.blt pc 266) (cond (Nat.beq pc 264) (some (.lload 18, 266, [])) none) (cond (Nat.blt pc 267) (cond (Nat.beq pc 266) (some (.lconst 0, 267, [])) none) (cond (Nat.beq pc 267) (some (.lcmp, 268, [])) none))) (cond (Nat.blt pc 271) (cond (Nat.beq pc 268) (some (.ifCond .ge 19, 271, [287])) none) (cond (Nat.blt pc 273) (cond (Nat.beq pc 271) (some (.lload 18, 273, [])) none) (cond (Nat.beq pc 273) (some (.lneg, 274, [])) none))))) (cond (Nat.blt pc 284) (cond (Nat.blt pc 279) (cond (Nat.blt pc 277) (cond (Nat.beq pc 274) (some (.ldc2_w 89, 277, [])) none) (cond (Nat.blt pc 278) (cond (Nat.beq pc 277) (some (.ladd, 278, [])) none) (cond (Nat.beq pc 278) (some (.lconst 1, 279, [])) none))) (cond (Nat.blt pc 280) (cond (Nat.beq pc 279) (some (.lsub, 280, [])) none) (cond (Nat.blt pc 283) (cond (Nat.beq pc 280) (some (.ldc2_w 89, 283, [])) none) (cond (Nat.beq pc 283) (some (.ldiv, 284, [])) none)))) (cond (Nat.blt pc 290) (cond (Nat.blt pc 287) (cond (Nat.beq pc 284) (some (.goto 4, 287, [288])) none) (cond (Nat.blt pc 288) (cond (Nat.beq pc 287) (some (.lconst 0, 288, [])) none) (cond (Nat.beq pc 288) (some (.lstore 14, 290, [])) none))) (cond (Nat.blt pc 293) (cond (Nat.blt pc 291) (cond (Nat.beq pc 290) (some (.aload_n 0, 291, [])) none) (cond (Nat.beq pc 291) (some (.iload 4, 293, [])) none)) (cond (Nat.blt pc 295) (cond (Nat.beq pc 293) (some (.iload 17, 295, [])) none) (cond (Nat.beq pc 295) (some (.lload 18, 297, [])) none)))))) (cond (Nat.blt pc 322) (cond (Nat.blt pc 308) (cond (Nat.blt pc 303) (cond (Nat.blt pc 299) (cond (Nat.beq pc 297) (some (.lload 14, 299, [])) none) (cond (Nat.blt pc 302) (cond (Nat.beq pc 299) (some (.ldc2_w 89, 302, [])) none) (cond (Nat.beq pc 302) (some (.lmul, 303, [])) none))) (cond (Nat.blt pc 304) (cond (Nat.beq pc 303) (some (.ladd, 304, [])) none) (cond (Nat.blt pc 305) (cond (Nat.beq pc 304) (some (.l2i, 305, [])) none) (cond (Nat.beq pc 305) (some (.invokevirtual 80, 308, [])) none)))) (cond (Nat.blt pc 315) (cond (Nat.blt pc 311) (cond (Nat.beq pc 308) (some (.iinc 17 1, 311, [])) none) (cond (Nat.blt pc 314) (cond (Nat.beq pc 311) (some (.goto (-81), 314, [230])) none) (cond (Nat.beq pc 314) (some (.aload_n 0, 315, [])) none))) (cond (Nat.blt pc 317) (cond (Nat.beq pc 315) (some (.iload 4, 317, [])) none) (cond (Nat.blt pc 319) (cond (Nat.beq pc 317) (some (.iload 16, 319, [])) none) (cond (Nat.beq pc 319) (some (.invokevirtual 85, 322, [])) none))))) (cond (Nat.blt pc 334) (cond (Nat.blt pc 327) (cond (Nat.blt pc 325) (cond (Nat.beq pc 322) (some (.goto (-188), 325, [134])) none) (cond (Nat.blt pc 326) (cond (Nat.beq pc 325) (some (.aload_n 0, 326, [])) none) (cond (Nat.beq pc 326) (some (.iload_n 3, 327, [])) none))) (cond (Nat.blt pc 329) (cond (Nat.beq pc 327) (some (.iload 9, 329, [])) none) (cond (Nat.blt pc 331) (cond (Nat.beq pc 329) (some (.iload 10, 331, [])) none) (cond (Nat.beq pc 331) (some (.invokevirtual 80, 334, [])) none)))) (cond (Nat.blt pc 341) (cond (Nat.blt pc 337) (cond (Nat.beq pc 334) (some (.iinc 9 (-1), 337, [])) none) (cond (Nat.blt pc 340) (cond (Nat.beq pc 337) (some (.goto (-278), 340, [59])) none) (cond (Nat.beq pc 340) (some (.aload_n 0, 341, [])) none))) (cond (Nat.blt pc 344) (cond (Nat.blt pc 342) (cond (Nat.beq pc 341) (some (.iload_n 3, 342, [])) none) (cond (Nat.beq pc 342) (some (.iload 6, 344, [])) none)) (cond (Nat.blt pc 347) (cond (Nat.beq pc 344) (some (.invokevirtual 85, 347, [])) none) (cond (Nat.beq pc 347) (some (.return_, 348, [])) none)))))))))
set_option maxRecDepth 100000 in
theorem kX8_divide : okT cX8_divide tX8_divide 348 20 = true := by decide +kernel
def tX8_bits : Tt := tWn 53 (fun pc => cond (Nat.blt pc 25) (cond (Nat.blt pc 14) (cond (Nat.blt pc 6) (cond (Nat.blt pc 4) (cond (Nat.blt pc 1) (cond (Nat.beq pc 0) (some (.aload_n 0, 1, [])) none) (cond (Nat.beq pc 1) (some (.getfield 13, 4, [])) none)) (cond (Nat.blt pc 5) (cond (Nat.beq pc 4) (some (.iload_n 1, 5, [])) none) (cond (Nat.beq pc 5) (some (.iaload, 6, [])) none))) (cond (Nat.blt pc 10) (cond (Nat.blt pc 9) (cond (Nat.beq pc 6) (some (.ifCond .ne 5, 9, [11])) none) (cond (Nat.beq pc 9) (some (.iconst 0, 10, [])) none)) (cond (Nat.blt pc 11) (cond (Nat.beq pc 10) (some (.ireturn, 11, [])) none) (cond (Nat.blt pc 13) (cond (Nat.beq pc 11) (some (.bipush 15, 13, [])) none) (cond (Nat.beq pc 13) (some (.aload_n 0, 14, [])) none))))) (cond (Nat.blt pc 20) (cond (Nat.blt pc 18) (cond (Nat.blt pc 17) (cond (Nat.beq pc 14) (some (.getfield 13, 17, [])) none) (cond (Nat.beq pc 17) (some (.iload_n 1, 18, [])) none)) (cond (Nat.blt pc 19) (cond (Nat.beq pc 18) (some (.iaload, 19, [])) none) (cond (Nat.beq pc 19) (some (.iconst 1, 20, [])) none))) (cond (Nat.blt pc 22) (cond (Nat.blt pc 21) (cond (Nat.beq pc 20) (some (.isub, 21, [])) none) (cond (Nat.beq pc 21) (some (.imul, 22, [])) none)) (cond (Nat.blt pc 23) (cond (Nat.beq pc 22) (some (.istore_n 2, 23, [])) none) (cond (Nat.blt pc 24) (cond (Nat.beq pc 23) (some (.aload_n 0, 24, [])) none) (cond (Nat.beq pc 24) (some (.iload_n 1, 25, [])) none)))))) (cond (Nat.blt pc 38) (cond (Nat.blt pc 31) (cond (Nat.blt pc 29) (cond (Nat.blt pc 26) (cond (Nat.beq pc 25) (some (.aload_n 0, 26, [])) none) (cond (Nat.beq pc 26) (some (.getfield 13, 29, [])) none)) (cond (Nat.blt pc 30) (cond (Nat.beq pc 29) (some (.iload_n 1, 30, [])) none) (cond (Nat.beq pc 30) (some (.iaload, 31, [])) none))) (cond (Nat.blt pc 33) (cond (Nat.blt pc 32) (cond (Nat.beq pc 31) (some (.iconst 1, 32, [])) none) (cond (Nat.beq pc 32) (some (.isub, 33, [])) none)) (cond (Nat.blt pc 36) (cond (Nat.beq pc 33) (some (.invokevirtual 76, 36, [])) none) (cond (Nat.blt pc 37) (cond (Nat.beq pc 36) (some (.istore_n 3, 37, [])) none) (cond (Nat.beq pc 37) (some (.iload_n 3, 38, [])) none))))) (cond (Nat.blt pc 46) (cond (Nat.blt pc 44) (cond (Nat.blt pc 41) (cond (Nat.beq pc 38) (some (.ifCond .le 13, 41, [51])) none) (cond (Nat.beq pc 41) (some (.iinc 2 1, 44, [])) none)) (cond (Nat.blt pc 45) (cond (Nat.beq pc 44) (some (.iload_n 3, 45, [])) none) (cond (Nat.beq pc 45) (some (.iconst 2, 46, [])) none))) (cond (Nat.blt pc 48) (cond (Nat.blt pc 47) (cond (Nat.beq pc 46) (some (.idiv, 47, [])) none) (cond (Nat.beq pc 47) (some (.istore_n 3, 48, [])) none)) (cond (Nat.blt pc 51) (cond (Nat.beq pc 48) (some (.goto (-11), 51, [37])) none) (cond (Nat.blt pc 52) (cond (Nat.beq pc 51) (some (.iload_n 2, 52, [])) none) (cond (Nat.beq pc 52) (some (.ireturn, 53, [])) none)))))))
set_option maxRecDepth 100000 in
theorem kX8_bits : okT cX8_bits tX8_bits 53 4 = true := by decide +kernel
def tX8_bit : Tt := tWn 17 (fun pc => cond (Nat.blt pc 9) (cond (Nat.blt pc 3) (cond (Nat.blt pc 1) (cond (Nat.beq pc 0) (some (.aload_n 0, 1, [])) none) (cond (Nat.blt pc 2) (cond (Nat.beq pc 1) (some (.iload_n 1, 2, [])) none) (cond (Nat.beq pc 2) (some (.iload_n 2, 3, [])) none))) (cond (Nat.blt pc 5) (cond (Nat.beq pc 3) (some (.bipush 15, 5, [])) none) (cond (Nat.blt pc 6) (cond (Nat.beq pc 5) (some (.idiv, 6, [])) none) (cond (Nat.beq pc 6) (some (.invokevirtual 76, 9, [])) none)))) (cond (Nat.blt pc 13) (cond (Nat.blt pc 10) (cond (Nat.beq pc 9) (some (.iload_n 2, 10, [])) none) (cond (Nat.blt pc 12) (cond (Nat.beq pc 10) (some (.bipush 15, 12, [])) none) (cond (Nat.beq pc 12) (some (.irem, 13, [])) none))) (cond (Nat.blt pc 15) (cond (Nat.blt pc 14) (cond (Nat.beq pc 13) (some (.ishr, 14, [])) none) (cond (Nat.beq pc 14) (some (.iconst 1, 15, [])) none)) (cond (Nat.blt pc 16) (cond (Nat.beq pc 15) (some (.iand, 16, [])) none) (cond (Nat.beq pc 16) (some (.ireturn, 17, [])) none)))))
set_option maxRecDepth 100000 in
theorem kX8_bit : okT cX8_bit tX8_bit 17 3 = true := by decide +kernel
def tX8_power : Tt := tWn 112 (fun pc => cond (Nat.blt pc 51) (cond (Nat.blt pc 23) (cond (Nat.blt pc 11) (cond (Nat.blt pc 4) (cond (Nat.blt pc 1) (cond (Nat.beq pc 0) (some (.aload_n 0, 1, [])) none) (cond (Nat.blt pc 3) (cond (Nat.beq pc 1) (some (.bipush 35, 3, [])) none) (cond (Nat.beq pc 3) (some (.iconst 1, 4, [])) none))) (cond (Nat.blt pc 8) (cond (Nat.blt pc 7) (cond (Nat.beq pc 4) (some (.invokevirtual 94, 7, [])) none) (cond (Nat.beq pc 7) (some (.aload_n 0, 8, [])) none)) (cond (Nat.blt pc 10) (cond (Nat.beq pc 8) (some (.bipush 35, 10, [])) none) (cond (Nat.beq pc 10) (some (.iload_n 3, 11, [])) none)))) (cond (Nat.blt pc 18) (cond (Nat.blt pc 13) (cond (Nat.beq pc 11) (some (.bipush 31, 13, [])) none) (cond (Nat.blt pc 15) (cond (Nat.beq pc 13) (some (.iload 4, 15, [])) none) (cond (Nat.beq pc 15) (some (.invokevirtual 97, 18, [])) none))) (cond (Nat.blt pc 20) (cond (Nat.blt pc 19) (cond (Nat.beq pc 18) (some (.aload_n 0, 19, [])) none) (cond (Nat.beq pc 19) (some (.iload_n 1, 20, [])) none)) (cond (Nat.blt pc 21) (cond (Nat.beq pc 20) (some (.iload_n 3, 21, [])) none) (cond (Nat.beq pc 21) (some (.bipush 31, 23, [])) none))))) (cond (Nat.blt pc 37) (cond (Nat.blt pc 29) (cond (Nat.blt pc 25) (cond (Nat.beq pc 23) (some (.bipush 36, 25, [])) none) (cond (Nat.blt pc 28) (cond (Nat.beq pc 25) (some (.invokevirtual 97, 28, [])) none) (cond (Nat.beq pc 28) (some (.aload_n 0, 29, [])) none))) (cond (Nat.blt pc 33) (cond (Nat.blt pc 31) (cond (Nat.beq pc 29) (some (.bipush 36, 31, [])) none) (cond (Nat.beq pc 31) (some (.bipush 30, 33, [])) none)) (cond (Nat.blt pc 36) (cond (Nat.beq pc 33) (some (.invokevirtual 101, 36, [])) none) (cond (Nat.beq pc 36) (some (.aload_n 0, 37, [])) none)))) (cond (Nat.blt pc 43) (cond (Nat.blt pc 41) (cond (Nat.blt pc 38) (cond (Nat.beq pc 37) (some (.iload_n 2, 38, [])) none) (cond (Nat.beq pc 38) (some (.invokevirtual 104, 41, [])) none)) (cond (Nat.blt pc 42) (cond (Nat.beq pc 41) (some (.iconst 1, 42, [])) none) (cond (Nat.beq pc 42) (some (.isub, 43, [])) none))) (cond (Nat.blt pc 47) (cond (Nat.blt pc 45) (cond (Nat.beq pc 43) (some (.istore 5, 45, [])) none) (cond (Nat.beq pc 45) (some (.iload 5, 47, [])) none)) (cond (Nat.blt pc 50) (cond (Nat.beq pc 47) (some (.ifCond .lt 64, 50, [111])) none) (cond (Nat.beq pc 50) (some (.aload_n 0, 51, [])) none)))))) (cond (Nat.blt pc 81) (cond (Nat.blt pc 64) (cond (Nat.blt pc 57) (cond (Nat.blt pc 53) (cond (Nat.beq pc 51) (some (.iload 4, 53, [])) none) (cond (Nat.blt pc 55) (cond (Nat.beq pc 53) (some (.iload 4, 55, [])) none) (cond (Nat.beq pc 55) (some (.bipush 35, 57, [])) none))) (cond (Nat.blt pc 61) (cond (Nat.blt pc 60) (cond (Nat.beq pc 57) (some (.invokevirtual 108, 60, [])) none) (cond (Nat.beq pc 60) (some (.aload_n 0, 61, [])) none)) (cond (Nat.blt pc 63) (cond (Nat.beq pc 61) (some (.bipush 35, 63, [])) none) (cond (Nat.beq pc 63) (some (.iload_n 3, 64, [])) none)))) (cond (Nat.blt pc 72) (cond (Nat.blt pc 68) (cond (Nat.blt pc 66) (cond (Nat.beq pc 64) (some (.bipush 31, 66, [])) none) (cond (Nat.beq pc 66) (some (.iload 4, 68, [])) none)) (cond (Nat.blt pc 71) (cond (Nat.beq pc 68) (some (.invokevirtual 97, 71, [])) none) (cond (Nat.beq pc 71) (some (.aload_n 0, 72, [])) none))) (cond (Nat.blt pc 75) (cond (Nat.blt pc 73) (cond (Nat.beq pc 72) (some (.iload_n 2, 73, [])) none) (cond (Nat.beq pc 73) (some (.iload 5, 75, [])) none)) (cond (Nat.blt pc 78) (cond (Nat.beq pc 75) (some (.invokevirtual 111, 78, [])) none) (cond (Nat.beq pc 78) (some (.ifCond .ne 6, 81, [84])) none))))) (cond (Nat.blt pc 95) (cond (Nat.blt pc 87) (cond (Nat.blt pc 84) (cond (Nat.beq pc 81) (some (.goto 24, 84, [105])) none) (cond (Nat.blt pc 85) (cond (Nat.beq pc 84) (some (.aload_n 0, 85, [])) none) (cond (Nat.beq pc 85) (some (.iload 4, 87, [])) none))) (cond (Nat.blt pc 91) (cond (Nat.blt pc 89) (cond (Nat.beq pc 87) (some (.bipush 30, 89, [])) none) (cond (Nat.beq pc 89) (some (.bipush 35, 91, [])) none)) (cond (Nat.blt pc 94) (cond (Nat.beq pc 91) (some (.invokevirtual 108, 94, [])) none) (cond (Nat.beq pc 94) (some (.aload_n 0, 95, [])) none)))) (cond (Nat.blt pc 102) (cond (Nat.blt pc 98) (cond (Nat.blt pc 97) (cond (Nat.beq pc 95) (some (.bipush 35, 97, [])) none) (cond (Nat.beq pc 97) (some (.iload_n 3, 98, [])) none)) (cond (Nat.blt pc 100) (cond (Nat.beq pc 98) (some (.bipush 31, 100, [])) none) (cond (Nat.beq pc 100) (some (.iload 4, 102, [])) none))) (cond (Nat.blt pc 108) (cond (Nat.blt pc 105) (cond (Nat.beq pc 102) (some (.invokevirtual 97, 105, [])) none) (cond (Nat.beq pc 105) (some (.iinc 5 (-1), 108, [])) none)) (cond (Nat.blt pc 111) (cond (Nat.beq pc 108) (some (.goto (-63), 111, [45])) none) (cond (Nat.beq pc 111) (some (.return_, 112, [])) none)))))))
set_option maxRecDepth 100000 in
theorem kX8_power : okT cX8_power tX8_power 112 6 = true := by decide +kernel
def tX8_end : Tt := tWn 115 (fun pc => cond (Nat.blt pc 55) (cond (Nat.blt pc 27) (cond (Nat.blt pc 12) (cond (Nat.blt pc 4) (cond (Nat.blt pc 2) (cond (Nat.blt pc 1) (cond (Nat.beq pc 0) (some (.iconst 0, 1, [])) none) (cond (Nat.beq pc 1) (some (.istore_n 1, 2, [])) none)) (cond (Nat.blt pc 3) (cond (Nat.beq pc 2) (some (.iconst 0, 3, [])) none) (cond (Nat.beq pc 3) (some (.istore_n 2, 4, [])) none))) (cond (Nat.blt pc 6) (cond (Nat.blt pc 5) (cond (Nat.beq pc 4) (some (.iload_n 2, 5, [])) none) (cond (Nat.beq pc 5) (some (.aload_n 0, 6, [])) none)) (cond (Nat.blt pc 9) (cond (Nat.beq pc 6) (some (.getfield 67, 9, [])) none) (cond (Nat.beq pc 9) (some (.if_icmp .ge 53, 12, [62])) none)))) (cond (Nat.blt pc 18) (cond (Nat.blt pc 16) (cond (Nat.blt pc 13) (cond (Nat.beq pc 12) (some (.aload_n 0, 13, [])) none) (cond (Nat.beq pc 13) (some (.getfield 16, 16, [])) none)) (cond (Nat.blt pc 17) (cond (Nat.beq pc 16) (some (.iload_n 2, 17, [])) none) (cond (Nat.beq pc 17) (some (.baload, 18, [])) none))) (cond (Nat.blt pc 22) (cond (Nat.blt pc 21) (cond (Nat.beq pc 18) (some (.ifCond .eq 36, 21, [54])) none) (cond (Nat.beq pc 21) (some (.aload_n 0, 22, [])) none)) (cond (Nat.blt pc 25) (cond (Nat.beq pc 22) (some (.getfield 23, 25, [])) none) (cond (Nat.blt pc 26) (cond (Nat.beq pc 25) (some (.iload_n 2, 26, [])) none) (cond (Nat.beq pc 26) (some (.iaload, 27, [])) none)))))) (cond (Nat.blt pc 42) (cond (Nat.blt pc 33) (cond (Nat.blt pc 31) (cond (Nat.blt pc 28) (cond (Nat.beq pc 27) (some (.aload_n 0, 28, [])) none) (cond (Nat.beq pc 28) (some (.getfield 20, 31, [])) none)) (cond (Nat.blt pc 32) (cond (Nat.beq pc 31) (some (.iload_n 2, 32, [])) none) (cond (Nat.beq pc 32) (some (.iaload, 33, [])) none))) (cond (Nat.blt pc 35) (cond (Nat.blt pc 34) (cond (Nat.beq pc 33) (some (.iadd, 34, [])) none) (cond (Nat.beq pc 34) (some (.iload_n 1, 35, [])) none)) (cond (Nat.blt pc 38) (cond (Nat.beq pc 35) (some (.if_icmp .le 19, 38, [54])) none) (cond (Nat.blt pc 39) (cond (Nat.beq pc 38) (some (.aload_n 0, 39, [])) none) (cond (Nat.beq pc 39) (some (.getfield 23, 42, [])) none))))) (cond (Nat.blt pc 48) (cond (Nat.blt pc 44) (cond (Nat.blt pc 43) (cond (Nat.beq pc 42) (some (.iload_n 2, 43, [])) none) (cond (Nat.beq pc 43) (some (.iaload, 44, [])) none)) (cond (Nat.blt pc 45) (cond (Nat.beq pc 44) (some (.aload_n 0, 45, [])) none) (cond (Nat.beq pc 45) (some (.getfield 20, 48, [])) none))) (cond (Nat.blt pc 50) (cond (Nat.blt pc 49) (cond (Nat.beq pc 48) (some (.iload_n 2, 49, [])) none) (cond (Nat.beq pc 49) (some (.iaload, 50, [])) none)) (cond (Nat.blt pc 51) (cond (Nat.beq pc 50) (some (.iadd, 51, [])) none) (cond (Nat.blt pc 54) (cond (Nat.beq pc 51) (some (.goto 4, 54, [55])) none) (cond (Nat.beq pc 54) (some (.iload_n 1, 55, [])) none))))))) (cond (Nat.blt pc 85) (cond (Nat.blt pc 72) (cond (Nat.blt pc 63) (cond (Nat.blt pc 59) (cond (Nat.blt pc 56) (cond (Nat.beq pc 55) (some (.istore_n 1, 56, [])) none) (cond (Nat.beq pc 56) (some (.iinc 2 1, 59, [])) none)) (cond (Nat.blt pc 62) (cond (Nat.beq pc 59) (some (.goto (-55), 62, [4])) none) (cond (Nat.beq pc 62) (some (.iconst 0, 63, [])) none))) (cond (Nat.blt pc 65) (cond (Nat.blt pc 64) (cond (Nat.beq pc 63) (some (.istore_n 2, 64, [])) none) (cond (Nat.beq pc 64) (some (.iload_n 2, 65, [])) none)) (cond (Nat.blt pc 66) (cond (Nat.beq pc 65) (some (.aload_n 0, 66, [])) none) (cond (Nat.blt pc 69) (cond (Nat.beq pc 66) (some (.getfield 114, 69, [])) none) (cond (Nat.beq pc 69) (some (.if_icmp .ge 44, 72, [113])) none))))) (cond (Nat.blt pc 78) (cond (Nat.blt pc 76) (cond (Nat.blt pc 73) (cond (Nat.beq pc 72) (some (.aload_n 0, 73, [])) none) (cond (Nat.beq pc 73) (some (.getfield 26, 76, [])) none)) (cond (Nat.blt pc 77) (cond (Nat.beq pc 76) (some (.iload_n 2, 77, [])) none) (cond (Nat.beq pc 77) (some (.iaload, 78, [])) none))) (cond (Nat.blt pc 82) (cond (Nat.blt pc 79) (cond (Nat.beq pc 78) (some (.aload_n 0, 79, [])) none) (cond (Nat.beq pc 79) (some (.getfield 29, 82, [])) none)) (cond (Nat.blt pc 83) (cond (Nat.beq pc 82) (some (.iload_n 2, 83, [])) none) (cond (Nat.blt pc 84) (cond (Nat.beq pc 83) (some (.iaload, 84, [])) none) (cond (Nat.beq pc 84) (some (.iadd, 85, [])) none)))))) (cond (Nat.blt pc 100) (cond (Nat.blt pc 93) (cond (Nat.blt pc 89) (cond (Nat.blt pc 86) (cond (Nat.beq pc 85) (some (.iload_n 1, 86, [])) none) (cond (Nat.beq pc 86) (some (.if_icmp .le 19, 89, [105])) none)) (cond (Nat.blt pc 90) (cond (Nat.beq pc 89) (some (.aload_n 0, 90, [])) none) (cond (Nat.beq pc 90) (some (.getfield 26, 93, [])) none))) (cond (Nat.blt pc 95) (cond (Nat.blt pc 94) (cond (Nat.beq pc 93) (some (.iload_n 2, 94, [])) none) (cond (Nat.beq pc 94) (some (.iaload, 95, [])) none)) (cond (Nat.blt pc 96) (cond (Nat.beq pc 95) (some (.aload_n 0, 96, [])) none) (cond (Nat.blt pc 99) (cond (Nat.beq pc 96) (some (.getfield 29, 99, [])) none) (cond (Nat.beq pc 99) (some (.iload_n 2, 100, [])) none))))) (cond (Nat.blt pc 106) (cond (Nat.blt pc 102) (cond (Nat.blt pc 101) (cond (Nat.beq pc 100) (some (.iaload, 101, [])) none) (cond (Nat.beq pc 101) (some (.iadd, 102, [])) none)) (cond (Nat.blt pc 105) (cond (Nat.beq pc 102) (some (.goto 4, 105, [106])) none) (cond (Nat.beq pc 105) (some (.iload_n 1, 106, [])) none))) (cond (Nat.blt pc 110) (cond (Nat.blt pc 107) (cond (Nat.beq pc 106) (some (.istore_n 1, 107, [])) none) (cond (Nat.beq pc 107) (some (.iinc 2 1, 110, [])) none)) (cond (Nat.blt pc 113) (cond (Nat.beq pc 110) (some (.goto (-46), 113, [64])) none) (cond (Nat.blt pc 114) (cond (Nat.beq pc 113) (some (.iload_n 1, 114, [])) none) (cond (Nat.beq pc 114) (some (.ireturn, 115, [])) none))))))))
set_option maxRecDepth 100000 in
theorem kX8_end : okT cX8_end tX8_end 115 3 = true := by decide +kernel
def tX8_slide : Tt := tWn 182 (fun pc => cond (Nat.blt pc 89) (cond (Nat.blt pc 44) (cond (Nat.blt pc 19) (cond (Nat.blt pc 10) (cond (Nat.blt pc 5) (cond (Nat.blt pc 1) (cond (Nat.beq pc 0) (some (.aload_n 0, 1, [])) none) (cond (Nat.blt pc 2) (cond (Nat.beq pc 1) (some (.dup, 2, [])) none) (cond (Nat.beq pc 2) (some (.getfield 117, 5, [])) none))) (cond (Nat.blt pc 6) (cond (Nat.beq pc 5) (some (.iconst 1, 6, [])) none) (cond (Nat.blt pc 7) (cond (Nat.beq pc 6) (some (.iadd, 7, [])) none) (cond (Nat.beq pc 7) (some (.putfield 117, 10, [])) none)))) (cond (Nat.blt pc 13) (cond (Nat.blt pc 11) (cond (Nat.beq pc 10) (some (.iconst 0, 11, [])) none) (cond (Nat.blt pc 12) (cond (Nat.beq pc 11) (some (.istore_n 1, 12, [])) none) (cond (Nat.beq pc 12) (some (.iconst 0, 13, [])) none))) (cond (Nat.blt pc 15) (cond (Nat.blt pc 14) (cond (Nat.beq pc 13) (some (.istore_n 2, 14, [])) none) (cond (Nat.beq pc 14) (some (.iload_n 2, 15, [])) none)) (cond (Nat.blt pc 16) (cond (Nat.beq pc 15) (some (.aload_n 0, 16, [])) none) (cond (Nat.beq pc 16) (some (.getfield 70, 19, [])) none))))) (cond (Nat.blt pc 29) (cond (Nat.blt pc 24) (cond (Nat.blt pc 22) (cond (Nat.beq pc 19) (some (.if_icmp .ge 162, 22, [181])) none) (cond (Nat.blt pc 23) (cond (Nat.beq pc 22) (some (.iconst 0, 23, [])) none) (cond (Nat.beq pc 23) (some (.istore_n 3, 24, [])) none))) (cond (Nat.blt pc 25) (cond (Nat.beq pc 24) (some (.iconst 0, 25, [])) none) (cond (Nat.blt pc 27) (cond (Nat.beq pc 25) (some (.istore 4, 27, [])) none) (cond (Nat.beq pc 27) (some (.iload 4, 29, [])) none)))) (cond (Nat.blt pc 36) (cond (Nat.blt pc 30) (cond (Nat.beq pc 29) (some (.aload_n 0, 30, [])) none) (cond (Nat.blt pc 33) (cond (Nat.beq pc 30) (some (.getfield 67, 33, [])) none) (cond (Nat.beq pc 33) (some (.if_icmp .ge 67, 36, [100])) none))) (cond (Nat.blt pc 40) (cond (Nat.blt pc 37) (cond (Nat.beq pc 36) (some (.iload_n 3, 37, [])) none) (cond (Nat.beq pc 37) (some (.ifCond .ne 63, 40, [100])) none)) (cond (Nat.blt pc 41) (cond (Nat.beq pc 40) (some (.aload_n 0, 41, [])) none) (cond (Nat.beq pc 41) (some (.getfield 16, 44, [])) none)))))) (cond (Nat.blt pc 67) (cond (Nat.blt pc 56) (cond (Nat.blt pc 50) (cond (Nat.blt pc 46) (cond (Nat.beq pc 44) (some (.iload 4, 46, [])) none) (cond (Nat.blt pc 47) (cond (Nat.beq pc 46) (some (.baload, 47, [])) none) (cond (Nat.beq pc 47) (some (.ifCond .eq 47, 50, [94])) none))) (cond (Nat.blt pc 51) (cond (Nat.beq pc 50) (some (.aload_n 0, 51, [])) none) (cond (Nat.blt pc 54) (cond (Nat.beq pc 51) (some (.getfield 23, 54, [])) none) (cond (Nat.beq pc 54) (some (.iload 4, 56, [])) none)))) (cond (Nat.blt pc 61) (cond (Nat.blt pc 57) (cond (Nat.beq pc 56) (some (.iaload, 57, [])) none) (cond (Nat.blt pc 58) (cond (Nat.beq pc 57) (some (.iload_n 2, 58, [])) none) (cond (Nat.beq pc 58) (some (.if_icmp .eq 6, 61, [64])) none))) (cond (Nat.blt pc 65) (cond (Nat.blt pc 64) (cond (Nat.beq pc 61) (some (.goto 33, 64, [94])) none) (cond (Nat.beq pc 64) (some (.iconst 1, 65, [])) none)) (cond (Nat.blt pc 66) (cond (Nat.beq pc 65) (some (.istore_n 3, 66, [])) none) (cond (Nat.beq pc 66) (some (.aload_n 0, 67, [])) none))))) (cond (Nat.blt pc 79) (cond (Nat.blt pc 73) (cond (Nat.blt pc 70) (cond (Nat.beq pc 67) (some (.getfield 23, 70, [])) none) (cond (Nat.blt pc 72) (cond (Nat.beq pc 70) (some (.iload 4, 72, [])) none) (cond (Nat.beq pc 72) (some (.iload_n 1, 73, [])) none))) (cond (Nat.blt pc 75) (cond (Nat.blt pc 74) (cond (Nat.beq pc 73) (some (.iastore, 74, [])) none) (cond (Nat.beq pc 74) (some (.iload_n 1, 75, [])) none)) (cond (Nat.blt pc 76) (cond (Nat.beq pc 75) (some (.aload_n 0, 76, [])) none) (cond (Nat.beq pc 76) (some (.getfield 20, 79, [])) none)))) (cond (Nat.blt pc 83) (cond (Nat.blt pc 81) (cond (Nat.beq pc 79) (some (.iload 4, 81, [])) none) (cond (Nat.blt pc 82) (cond (Nat.beq pc 81) (some (.iaload, 82, [])) none) (cond (Nat.beq pc 82) (some (.iadd, 83, [])) none))) (cond (Nat.blt pc 85) (cond (Nat.blt pc 84) (cond (Nat.beq pc 83) (some (.istore_n 1, 84, [])) none) (cond (Nat.beq pc 84) (some (.iload_n 2, 85, [])) none)) (cond (Nat.blt pc 86) (cond (Nat.beq pc 85) (some (.aload_n 0, 86, [])) none) (cond (Nat.beq pc 86) (some (.getfield 20, 89, [])) none))))))) (cond (Nat.blt pc 139) (cond (Nat.blt pc 113) (cond (Nat.blt pc 100) (cond (Nat.blt pc 93) (cond (Nat.blt pc 91) (cond (Nat.beq pc 89) (some (.iload 4, 91, [])) none) (cond (Nat.blt pc 92) (cond (Nat.beq pc 91) (some (.iaload, 92, [])) none) (cond (Nat.beq pc 92) (some (.iadd, 93, [])) none))) (cond (Nat.blt pc 94) (cond (Nat.beq pc 93) (some (.istore_n 2, 94, [])) none) (cond (Nat.blt pc 97) (cond (Nat.beq pc 94) (some (.iinc 4 1, 97, [])) none) (cond (Nat.beq pc 97) (some (.goto (-70), 100, [27])) none)))) (cond (Nat.blt pc 105) (cond (Nat.blt pc 101) (cond (Nat.beq pc 100) (some (.iconst 0, 101, [])) none) (cond (Nat.blt pc 103) (cond (Nat.beq pc 101) (some (.istore 4, 103, [])) none) (cond (Nat.beq pc 103) (some (.iload 4, 105, [])) none))) (cond (Nat.blt pc 109) (cond (Nat.blt pc 106) (cond (Nat.beq pc 105) (some (.aload_n 0, 106, [])) none) (cond (Nat.beq pc 106) (some (.getfield 114, 109, [])) none)) (cond (Nat.blt pc 112) (cond (Nat.beq pc 109) (some (.if_icmp .ge 57, 112, [166])) none) (cond (Nat.beq pc 112) (some (.iload_n 3, 113, [])) none))))) (cond (Nat.blt pc 127) (cond (Nat.blt pc 120) (cond (Nat.blt pc 116) (cond (Nat.beq pc 113) (some (.ifCond .ne 53, 116, [166])) none) (cond (Nat.blt pc 117) (cond (Nat.beq pc 116) (some (.aload_n 0, 117, [])) none) (cond (Nat.beq pc 117) (some (.getfield 26, 120, [])) none))) (cond (Nat.blt pc 123) (cond (Nat.blt pc 122) (cond (Nat.beq pc 120) (some (.iload 4, 122, [])) none) (cond (Nat.beq pc 122) (some (.iaload, 123, [])) none)) (cond (Nat.blt pc 124) (cond (Nat.beq pc 123) (some (.iload_n 2, 124, [])) none) (cond (Nat.beq pc 124) (some (.if_icmp .eq 6, 127, [130])) none)))) (cond (Nat.blt pc 132) (cond (Nat.blt pc 130) (cond (Nat.beq pc 127) (some (.goto 33, 130, [160])) none) (cond (Nat.blt pc 131) (cond (Nat.beq pc 130) (some (.iconst 1, 131, [])) none) (cond (Nat.beq pc 131) (some (.istore_n 3, 132, [])) none))) (cond (Nat.blt pc 136) (cond (Nat.blt pc 133) (cond (Nat.beq pc 132) (some (.aload_n 0, 133, [])) none) (cond (Nat.beq pc 133) (some (.getfield 26, 136, [])) none)) (cond (Nat.blt pc 138) (cond (Nat.beq pc 136) (some (.iload 4, 138, [])) none) (cond (Nat.beq pc 138) (some (.iload_n 1, 139, [])) none)))))) (cond (Nat.blt pc 158) (cond (Nat.blt pc 148) (cond (Nat.blt pc 142) (cond (Nat.blt pc 140) (cond (Nat.beq pc 139) (some (.iastore, 140, [])) none) (cond (Nat.blt pc 141) (cond (Nat.beq pc 140) (some (.iload_n 1, 141, [])) none) (cond (Nat.beq pc 141) (some (.aload_n 0, 142, [])) none))) (cond (Nat.blt pc 145) (cond (Nat.beq pc 142) (some (.getfield 29, 145, [])) none) (cond (Nat.blt pc 147) (cond (Nat.beq pc 145) (some (.iload 4, 147, [])) none) (cond (Nat.beq pc 147) (some (.iaload, 148, [])) none)))) (cond (Nat.blt pc 151) (cond (Nat.blt pc 149) (cond (Nat.beq pc 148) (some (.iadd, 149, [])) none) (cond (Nat.blt pc 150) (cond (Nat.beq pc 149) (some (.istore_n 1, 150, [])) none) (cond (Nat.beq pc 150) (some (.iload_n 2, 151, [])) none))) (cond (Nat.blt pc 155) (cond (Nat.blt pc 152) (cond (Nat.beq pc 151) (some (.aload_n 0, 152, [])) none) (cond (Nat.beq pc 152) (some (.getfield 29, 155, [])) none)) (cond (Nat.blt pc 157) (cond (Nat.beq pc 155) (some (.iload 4, 157, [])) none) (cond (Nat.beq pc 157) (some (.iaload, 158, [])) none))))) (cond (Nat.blt pc 171) (cond (Nat.blt pc 163) (cond (Nat.blt pc 159) (cond (Nat.beq pc 158) (some (.iadd, 159, [])) none) (cond (Nat.blt pc 160) (cond (Nat.beq pc 159) (some (.istore_n 2, 160, [])) none) (cond (Nat.beq pc 160) (some (.iinc 4 1, 163, [])) none))) (cond (Nat.blt pc 167) (cond (Nat.blt pc 166) (cond (Nat.beq pc 163) (some (.goto (-60), 166, [103])) none) (cond (Nat.beq pc 166) (some (.iload_n 2, 167, [])) none)) (cond (Nat.blt pc 168) (cond (Nat.beq pc 167) (some (.iload_n 3, 168, [])) none) (cond (Nat.beq pc 168) (some (.ifCond .eq 7, 171, [175])) none)))) (cond (Nat.blt pc 176) (cond (Nat.blt pc 172) (cond (Nat.beq pc 171) (some (.iconst 0, 172, [])) none) (cond (Nat.blt pc 175) (cond (Nat.beq pc 172) (some (.goto 4, 175, [176])) none) (cond (Nat.beq pc 175) (some (.iconst 1, 176, [])) none))) (cond (Nat.blt pc 178) (cond (Nat.blt pc 177) (cond (Nat.beq pc 176) (some (.iadd, 177, [])) none) (cond (Nat.beq pc 177) (some (.istore_n 2, 178, [])) none)) (cond (Nat.blt pc 181) (cond (Nat.beq pc 178) (some (.goto (-164), 181, [14])) none) (cond (Nat.beq pc 181) (some (.return_, 182, [])) none))))))))
set_option maxRecDepth 100000 in
theorem kX8_slide : okT cX8_slide tX8_slide 182 5 = true := by decide +kernel
def tX8_take : Tt := tWn 78 (fun pc => cond (Nat.blt pc 41) (cond (Nat.blt pc 19) (cond (Nat.blt pc 7) (cond (Nat.blt pc 4) (cond (Nat.blt pc 1) (cond (Nat.beq pc 0) (some (.iload_n 1, 1, [])) none) (cond (Nat.beq pc 1) (some (.ifCond .gt 5, 4, [6])) none)) (cond (Nat.blt pc 5) (cond (Nat.beq pc 4) (some (.iconst 1, 5, [])) none) (cond (Nat.blt pc 6) (cond (Nat.beq pc 5) (some (.ireturn, 6, [])) none) (cond (Nat.beq pc 6) (some (.aload_n 0, 7, [])) none)))) (cond (Nat.blt pc 12) (cond (Nat.blt pc 10) (cond (Nat.beq pc 7) (some (.invokevirtual 120, 10, [])) none) (cond (Nat.blt pc 11) (cond (Nat.beq pc 10) (some (.iload_n 1, 11, [])) none) (cond (Nat.beq pc 11) (some (.iadd, 12, [])) none))) (cond (Nat.blt pc 13) (cond (Nat.beq pc 12) (some (.aload_n 0, 13, [])) none) (cond (Nat.blt pc 16) (cond (Nat.beq pc 13) (some (.getfield 70, 16, [])) none) (cond (Nat.beq pc 16) (some (.if_icmp .le 7, 19, [23])) none))))) (cond (Nat.blt pc 29) (cond (Nat.blt pc 24) (cond (Nat.blt pc 20) (cond (Nat.beq pc 19) (some (.aload_n 0, 20, [])) none) (cond (Nat.blt pc 23) (cond (Nat.beq pc 20) (some (.invokevirtual 124, 23, [])) none) (cond (Nat.beq pc 23) (some (.aload_n 0, 24, [])) none))) (cond (Nat.blt pc 27) (cond (Nat.beq pc 24) (some (.invokevirtual 120, 27, [])) none) (cond (Nat.blt pc 28) (cond (Nat.beq pc 27) (some (.iload_n 1, 28, [])) none) (cond (Nat.beq pc 28) (some (.iadd, 29, [])) none)))) (cond (Nat.blt pc 36) (cond (Nat.blt pc 30) (cond (Nat.beq pc 29) (some (.aload_n 0, 30, [])) none) (cond (Nat.blt pc 33) (cond (Nat.beq pc 30) (some (.getfield 70, 33, [])) none) (cond (Nat.beq pc 33) (some (.if_icmp .le 10, 36, [43])) none))) (cond (Nat.blt pc 37) (cond (Nat.beq pc 36) (some (.aload_n 0, 37, [])) none) (cond (Nat.blt pc 38) (cond (Nat.beq pc 37) (some (.iconst 0, 38, [])) none) (cond (Nat.beq pc 38) (some (.putfield 114, 41, [])) none)))))) (cond (Nat.blt pc 60) (cond (Nat.blt pc 48) (cond (Nat.blt pc 43) (cond (Nat.blt pc 42) (cond (Nat.beq pc 41) (some (.iconst 0, 42, [])) none) (cond (Nat.beq pc 42) (some (.ireturn, 43, [])) none)) (cond (Nat.blt pc 44) (cond (Nat.beq pc 43) (some (.aload_n 0, 44, [])) none) (cond (Nat.blt pc 47) (cond (Nat.beq pc 44) (some (.getfield 26, 47, [])) none) (cond (Nat.beq pc 47) (some (.aload_n 0, 48, [])) none)))) (cond (Nat.blt pc 55) (cond (Nat.blt pc 51) (cond (Nat.beq pc 48) (some (.getfield 114, 51, [])) none) (cond (Nat.blt pc 52) (cond (Nat.beq pc 51) (some (.aload_n 0, 52, [])) none) (cond (Nat.beq pc 52) (some (.invokevirtual 120, 55, [])) none))) (cond (Nat.blt pc 56) (cond (Nat.beq pc 55) (some (.iastore, 56, [])) none) (cond (Nat.blt pc 57) (cond (Nat.beq pc 56) (some (.aload_n 0, 57, [])) none) (cond (Nat.beq pc 57) (some (.getfield 29, 60, [])) none))))) (cond (Nat.blt pc 68) (cond (Nat.blt pc 65) (cond (Nat.blt pc 61) (cond (Nat.beq pc 60) (some (.aload_n 0, 61, [])) none) (cond (Nat.blt pc 64) (cond (Nat.beq pc 61) (some (.getfield 114, 64, [])) none) (cond (Nat.beq pc 64) (some (.iload_n 1, 65, [])) none))) (cond (Nat.blt pc 66) (cond (Nat.beq pc 65) (some (.iastore, 66, [])) none) (cond (Nat.blt pc 67) (cond (Nat.beq pc 66) (some (.aload_n 0, 67, [])) none) (cond (Nat.beq pc 67) (some (.dup, 68, [])) none)))) (cond (Nat.blt pc 73) (cond (Nat.blt pc 71) (cond (Nat.beq pc 68) (some (.getfield 114, 71, [])) none) (cond (Nat.blt pc 72) (cond (Nat.beq pc 71) (some (.iconst 1, 72, [])) none) (cond (Nat.beq pc 72) (some (.iadd, 73, [])) none))) (cond (Nat.blt pc 76) (cond (Nat.beq pc 73) (some (.putfield 114, 76, [])) none) (cond (Nat.blt pc 77) (cond (Nat.beq pc 76) (some (.iconst 1, 77, [])) none) (cond (Nat.beq pc 77) (some (.ireturn, 78, [])) none)))))))
set_option maxRecDepth 100000 in
theorem kX8_take : okT cX8_take tX8_take 78 2 = true := by decide +kernel
def tX8_gets : Tt := tWn 31 (fun pc => cond (Nat.blt pc 16) (cond (Nat.blt pc 7) (cond (Nat.blt pc 2) (cond (Nat.blt pc 1) (cond (Nat.beq pc 0) (some (.iload_n 2, 1, [])) none) (cond (Nat.beq pc 1) (some (.aload_n 0, 2, [])) none)) (cond (Nat.blt pc 5) (cond (Nat.beq pc 2) (some (.getfield 20, 5, [])) none) (cond (Nat.blt pc 6) (cond (Nat.beq pc 5) (some (.iload_n 1, 6, [])) none) (cond (Nat.beq pc 6) (some (.iaload, 7, [])) none)))) (cond (Nat.blt pc 11) (cond (Nat.blt pc 10) (cond (Nat.beq pc 7) (some (.if_icmp .gt 4, 10, [11])) none) (cond (Nat.beq pc 10) (some (.return_, 11, [])) none)) (cond (Nat.blt pc 12) (cond (Nat.beq pc 11) (some (.aload_n 0, 12, [])) none) (cond (Nat.blt pc 15) (cond (Nat.beq pc 12) (some (.getfield 23, 15, [])) none) (cond (Nat.beq pc 15) (some (.iload_n 1, 16, [])) none))))) (cond (Nat.blt pc 23) (cond (Nat.blt pc 20) (cond (Nat.blt pc 17) (cond (Nat.beq pc 16) (some (.aload_n 0, 17, [])) none) (cond (Nat.beq pc 17) (some (.getfield 26, 20, [])) none)) (cond (Nat.blt pc 21) (cond (Nat.beq pc 20) (some (.iload_n 3, 21, [])) none) (cond (Nat.blt pc 22) (cond (Nat.beq pc 21) (some (.iaload, 22, [])) none) (cond (Nat.beq pc 22) (some (.iastore, 23, [])) none)))) (cond (Nat.blt pc 28) (cond (Nat.blt pc 24) (cond (Nat.beq pc 23) (some (.aload_n 0, 24, [])) none) (cond (Nat.blt pc 27) (cond (Nat.beq pc 24) (some (.getfield 20, 27, [])) none) (cond (Nat.beq pc 27) (some (.iload_n 1, 28, [])) none))) (cond (Nat.blt pc 29) (cond (Nat.beq pc 28) (some (.iload_n 2, 29, [])) none) (cond (Nat.blt pc 30) (cond (Nat.beq pc 29) (some (.iastore, 30, [])) none) (cond (Nat.beq pc 30) (some (.return_, 31, [])) none))))))
set_option maxRecDepth 100000 in
theorem kX8_gets : okT cX8_gets tX8_gets 31 4 = true := by decide +kernel
def tX8_isLive : Tt := tWn 29 (fun pc => cond (Nat.blt pc 14) (cond (Nat.blt pc 6) (cond (Nat.blt pc 2) (cond (Nat.blt pc 1) (cond (Nat.beq pc 0) (some (.iload_n 1, 1, [])) none) (cond (Nat.beq pc 1) (some (.iconst 0, 2, [])) none)) (cond (Nat.blt pc 3) (cond (Nat.beq pc 2) (some (.aload_n 0, 3, [])) none) (cond (Nat.beq pc 3) (some (.getfield 67, 6, [])) none))) (cond (Nat.blt pc 8) (cond (Nat.blt pc 7) (cond (Nat.beq pc 6) (some (.iconst 1, 7, [])) none) (cond (Nat.beq pc 7) (some (.isub, 8, [])) none)) (cond (Nat.blt pc 11) (cond (Nat.beq pc 8) (some (.invokestatic 127, 11, [])) none) (cond (Nat.beq pc 11) (some (.ifCond .eq 16, 14, [27])) none)))) (cond (Nat.blt pc 20) (cond (Nat.blt pc 18) (cond (Nat.blt pc 15) (cond (Nat.beq pc 14) (some (.aload_n 0, 15, [])) none) (cond (Nat.beq pc 15) (some (.getfield 16, 18, [])) none)) (cond (Nat.blt pc 19) (cond (Nat.beq pc 18) (some (.iload_n 1, 19, [])) none) (cond (Nat.beq pc 19) (some (.baload, 20, [])) none))) (cond (Nat.blt pc 24) (cond (Nat.blt pc 23) (cond (Nat.beq pc 20) (some (.ifCond .eq 7, 23, [27])) none) (cond (Nat.beq pc 23) (some (.iconst 1, 24, [])) none)) (cond (Nat.blt pc 27) (cond (Nat.beq pc 24) (some (.goto 4, 27, [28])) none) (cond (Nat.blt pc 28) (cond (Nat.beq pc 27) (some (.iconst 0, 28, [])) none) (cond (Nat.beq pc 28) (some (.ireturn, 29, [])) none))))))
set_option maxRecDepth 100000 in
theorem kX8_isLive : okT cX8_isLive tX8_isLive 29 2 = true := by decide +kernel
def tX8_comes : Tt := tWn 53 (fun pc => cond (Nat.blt pc 28) (cond (Nat.blt pc 12) (cond (Nat.blt pc 6) (cond (Nat.blt pc 4) (cond (Nat.blt pc 1) (cond (Nat.beq pc 0) (some (.aload_n 0, 1, [])) none) (cond (Nat.beq pc 1) (some (.getfield 13, 4, [])) none)) (cond (Nat.blt pc 5) (cond (Nat.beq pc 4) (some (.iload_n 1, 5, [])) none) (cond (Nat.beq pc 5) (some (.iaload, 6, [])) none))) (cond (Nat.blt pc 8) (cond (Nat.blt pc 7) (cond (Nat.beq pc 6) (some (.istore_n 3, 7, [])) none) (cond (Nat.beq pc 7) (some (.iload_n 3, 8, [])) none)) (cond (Nat.blt pc 9) (cond (Nat.beq pc 8) (some (.aload_n 0, 9, [])) none) (cond (Nat.beq pc 9) (some (.getfield 20, 12, [])) none)))) (cond (Nat.blt pc 18) (cond (Nat.blt pc 14) (cond (Nat.blt pc 13) (cond (Nat.beq pc 12) (some (.iload_n 2, 13, [])) none) (cond (Nat.beq pc 13) (some (.iaload, 14, [])) none)) (cond (Nat.blt pc 17) (cond (Nat.beq pc 14) (some (.if_icmp .le 14, 17, [28])) none) (cond (Nat.beq pc 17) (some (.aload_n 0, 18, [])) none))) (cond (Nat.blt pc 22) (cond (Nat.blt pc 19) (cond (Nat.beq pc 18) (some (.iload_n 3, 19, [])) none) (cond (Nat.beq pc 19) (some (.invokevirtual 131, 22, [])) none)) (cond (Nat.blt pc 25) (cond (Nat.beq pc 22) (some (.ifCond .ne 6, 25, [28])) none) (cond (Nat.blt pc 27) (cond (Nat.beq pc 25) (some (.bipush (-4), 27, [])) none) (cond (Nat.beq pc 27) (some (.ireturn, 28, [])) none)))))) (cond (Nat.blt pc 40) (cond (Nat.blt pc 32) (cond (Nat.blt pc 30) (cond (Nat.blt pc 29) (cond (Nat.beq pc 28) (some (.aload_n 0, 29, [])) none) (cond (Nat.beq pc 29) (some (.iload_n 2, 30, [])) none)) (cond (Nat.blt pc 31) (cond (Nat.beq pc 30) (some (.iload_n 3, 31, [])) none) (cond (Nat.beq pc 31) (some (.aload_n 0, 32, [])) none))) (cond (Nat.blt pc 36) (cond (Nat.blt pc 35) (cond (Nat.beq pc 32) (some (.getfield 114, 35, [])) none) (cond (Nat.beq pc 35) (some (.iconst 1, 36, [])) none)) (cond (Nat.blt pc 37) (cond (Nat.beq pc 36) (some (.isub, 37, [])) none) (cond (Nat.beq pc 37) (some (.invokevirtual 135, 40, [])) none)))) (cond (Nat.blt pc 46) (cond (Nat.blt pc 42) (cond (Nat.blt pc 41) (cond (Nat.beq pc 40) (some (.aload_n 0, 41, [])) none) (cond (Nat.beq pc 41) (some (.iconst 0, 42, [])) none)) (cond (Nat.blt pc 45) (cond (Nat.beq pc 42) (some (.putfield 114, 45, [])) none) (cond (Nat.beq pc 45) (some (.aload_n 0, 46, [])) none))) (cond (Nat.blt pc 48) (cond (Nat.blt pc 47) (cond (Nat.beq pc 46) (some (.iload_n 1, 47, [])) none) (cond (Nat.beq pc 47) (some (.iload_n 2, 48, [])) none)) (cond (Nat.blt pc 51) (cond (Nat.beq pc 48) (some (.invokevirtual 101, 51, [])) none) (cond (Nat.blt pc 52) (cond (Nat.beq pc 51) (some (.iload_n 3, 52, [])) none) (cond (Nat.beq pc 52) (some (.ireturn, 53, [])) none)))))))
set_option maxRecDepth 100000 in
theorem kX8_comes : okT cX8_comes tX8_comes 53 4 = true := by decide +kernel
def tX8_alloc : Tt := tWn 100 (fun pc => cond (Nat.blt pc 57) (cond (Nat.blt pc 27) (cond (Nat.blt pc 13) (cond (Nat.blt pc 4) (cond (Nat.blt pc 1) (cond (Nat.beq pc 0) (some (.iload_n 1, 1, [])) none) (cond (Nat.blt pc 2) (cond (Nat.beq pc 1) (some (.iconst 1, 2, [])) none) (cond (Nat.beq pc 2) (some (.bipush 64, 4, [])) none))) (cond (Nat.blt pc 10) (cond (Nat.blt pc 7) (cond (Nat.beq pc 4) (some (.invokestatic 127, 7, [])) none) (cond (Nat.beq pc 7) (some (.ifCond .ne 6, 10, [13])) none)) (cond (Nat.blt pc 12) (cond (Nat.beq pc 10) (some (.bipush (-3), 12, [])) none) (cond (Nat.beq pc 12) (some (.ireturn, 13, [])) none)))) (cond (Nat.blt pc 17) (cond (Nat.blt pc 15) (cond (Nat.blt pc 14) (cond (Nat.beq pc 13) (some (.iconst 0, 14, [])) none) (cond (Nat.beq pc 14) (some (.istore_n 2, 15, [])) none)) (cond (Nat.blt pc 16) (cond (Nat.beq pc 15) (some (.iload_n 2, 16, [])) none) (cond (Nat.beq pc 16) (some (.aload_n 0, 17, [])) none))) (cond (Nat.blt pc 23) (cond (Nat.blt pc 20) (cond (Nat.beq pc 17) (some (.getfield 67, 20, [])) none) (cond (Nat.beq pc 20) (some (.if_icmp .ge 18, 23, [38])) none)) (cond (Nat.blt pc 24) (cond (Nat.beq pc 23) (some (.aload_n 0, 24, [])) none) (cond (Nat.beq pc 24) (some (.getfield 16, 27, [])) none))))) (cond (Nat.blt pc 40) (cond (Nat.blt pc 32) (cond (Nat.blt pc 28) (cond (Nat.beq pc 27) (some (.iload_n 2, 28, [])) none) (cond (Nat.blt pc 29) (cond (Nat.beq pc 28) (some (.baload, 29, [])) none) (cond (Nat.beq pc 29) (some (.ifCond .eq 9, 32, [38])) none))) (cond (Nat.blt pc 38) (cond (Nat.blt pc 35) (cond (Nat.beq pc 32) (some (.iinc 2 1, 35, [])) none) (cond (Nat.beq pc 35) (some (.goto (-20), 38, [15])) none)) (cond (Nat.blt pc 39) (cond (Nat.beq pc 38) (some (.iload_n 2, 39, [])) none) (cond (Nat.beq pc 39) (some (.aload_n 0, 40, [])) none)))) (cond (Nat.blt pc 49) (cond (Nat.blt pc 46) (cond (Nat.blt pc 43) (cond (Nat.beq pc 40) (some (.getfield 67, 43, [])) none) (cond (Nat.beq pc 43) (some (.if_icmp .ne 6, 46, [49])) none)) (cond (Nat.blt pc 48) (cond (Nat.beq pc 46) (some (.bipush (-9), 48, [])) none) (cond (Nat.beq pc 48) (some (.ireturn, 49, [])) none))) (cond (Nat.blt pc 51) (cond (Nat.blt pc 50) (cond (Nat.beq pc 49) (some (.aload_n 0, 50, [])) none) (cond (Nat.beq pc 50) (some (.iload_n 1, 51, [])) none)) (cond (Nat.blt pc 54) (cond (Nat.beq pc 51) (some (.invokevirtual 131, 54, [])) none) (cond (Nat.beq pc 54) (some (.ifCond .ne 6, 57, [60])) none)))))) (cond (Nat.blt pc 79) (cond (Nat.blt pc 67) (cond (Nat.blt pc 61) (cond (Nat.blt pc 59) (cond (Nat.beq pc 57) (some (.bipush (-4), 59, [])) none) (cond (Nat.blt pc 60) (cond (Nat.beq pc 59) (some (.ireturn, 60, [])) none) (cond (Nat.beq pc 60) (some (.aload_n 0, 61, [])) none))) (cond (Nat.blt pc 65) (cond (Nat.blt pc 64) (cond (Nat.beq pc 61) (some (.getfield 16, 64, [])) none) (cond (Nat.beq pc 64) (some (.iload_n 2, 65, [])) none)) (cond (Nat.blt pc 66) (cond (Nat.beq pc 65) (some (.iconst 1, 66, [])) none) (cond (Nat.beq pc 66) (some (.bastore, 67, [])) none)))) (cond (Nat.blt pc 73) (cond (Nat.blt pc 71) (cond (Nat.blt pc 68) (cond (Nat.beq pc 67) (some (.aload_n 0, 68, [])) none) (cond (Nat.beq pc 68) (some (.getfield 23, 71, [])) none)) (cond (Nat.blt pc 72) (cond (Nat.beq pc 71) (some (.iload_n 2, 72, [])) none) (cond (Nat.beq pc 72) (some (.aload_n 0, 73, [])) none))) (cond (Nat.blt pc 77) (cond (Nat.blt pc 76) (cond (Nat.beq pc 73) (some (.getfield 26, 76, [])) none) (cond (Nat.beq pc 76) (some (.iconst 0, 77, [])) none)) (cond (Nat.blt pc 78) (cond (Nat.beq pc 77) (some (.iaload, 78, [])) none) (cond (Nat.beq pc 78) (some (.iastore, 79, [])) none))))) (cond (Nat.blt pc 90) (cond (Nat.blt pc 84) (cond (Nat.blt pc 80) (cond (Nat.beq pc 79) (some (.aload_n 0, 80, [])) none) (cond (Nat.blt pc 83) (cond (Nat.beq pc 80) (some (.getfield 20, 83, [])) none) (cond (Nat.beq pc 83) (some (.iload_n 2, 84, [])) none))) (cond (Nat.blt pc 86) (cond (Nat.blt pc 85) (cond (Nat.beq pc 84) (some (.iload_n 1, 85, [])) none) (cond (Nat.beq pc 85) (some (.iastore, 86, [])) none)) (cond (Nat.blt pc 87) (cond (Nat.beq pc 86) (some (.aload_n 0, 87, [])) none) (cond (Nat.beq pc 87) (some (.getfield 13, 90, [])) none)))) (cond (Nat.blt pc 94) (cond (Nat.blt pc 92) (cond (Nat.blt pc 91) (cond (Nat.beq pc 90) (some (.iload_n 2, 91, [])) none) (cond (Nat.beq pc 91) (some (.iconst 0, 92, [])) none)) (cond (Nat.blt pc 93) (cond (Nat.beq pc 92) (some (.iastore, 93, [])) none) (cond (Nat.beq pc 93) (some (.aload_n 0, 94, [])) none))) (cond (Nat.blt pc 98) (cond (Nat.blt pc 95) (cond (Nat.beq pc 94) (some (.iconst 0, 95, [])) none) (cond (Nat.beq pc 95) (some (.putfield 114, 98, [])) none)) (cond (Nat.blt pc 99) (cond (Nat.beq pc 98) (some (.iload_n 2, 99, [])) none) (cond (Nat.beq pc 99) (some (.ireturn, 100, [])) none)))))))
set_option maxRecDepth 100000 in
theorem kX8_alloc : okT cX8_alloc tX8_alloc 100 3 = true := by decide +kernel
def tX8_release : Tt := tWn 20 (fun pc => cond (Nat.blt pc 11) (cond (Nat.blt pc 5) (cond (Nat.blt pc 1) (cond (Nat.beq pc 0) (some (.aload_n 0, 1, [])) none) (cond (Nat.blt pc 2) (cond (Nat.beq pc 1) (some (.iload_n 1, 2, [])) none) (cond (Nat.beq pc 2) (some (.invokevirtual 138, 5, [])) none))) (cond (Nat.blt pc 8) (cond (Nat.beq pc 5) (some (.ifCond .ne 6, 8, [11])) none) (cond (Nat.blt pc 10) (cond (Nat.beq pc 8) (some (.bipush (-2), 10, [])) none) (cond (Nat.beq pc 10) (some (.ireturn, 11, [])) none)))) (cond (Nat.blt pc 16) (cond (Nat.blt pc 12) (cond (Nat.beq pc 11) (some (.aload_n 0, 12, [])) none) (cond (Nat.blt pc 15) (cond (Nat.beq pc 12) (some (.getfield 16, 15, [])) none) (cond (Nat.beq pc 15) (some (.iload_n 1, 16, [])) none))) (cond (Nat.blt pc 18) (cond (Nat.blt pc 17) (cond (Nat.beq pc 16) (some (.iconst 0, 17, [])) none) (cond (Nat.beq pc 17) (some (.bastore, 18, [])) none)) (cond (Nat.blt pc 19) (cond (Nat.beq pc 18) (some (.iconst 0, 19, [])) none) (cond (Nat.beq pc 19) (some (.ireturn, 20, [])) none)))))
set_option maxRecDepth 100000 in
theorem kX8_release : okT cX8_release tX8_release 20 2 = true := by decide +kernel
def tX8_resize : Tt := tWn 83 (fun pc => cond (Nat.blt pc 44) (cond (Nat.blt pc 22) (cond (Nat.blt pc 11) (cond (Nat.blt pc 5) (cond (Nat.blt pc 1) (cond (Nat.beq pc 0) (some (.aload_n 0, 1, [])) none) (cond (Nat.blt pc 2) (cond (Nat.beq pc 1) (some (.iload_n 1, 2, [])) none) (cond (Nat.beq pc 2) (some (.invokevirtual 138, 5, [])) none))) (cond (Nat.blt pc 8) (cond (Nat.beq pc 5) (some (.ifCond .ne 6, 8, [11])) none) (cond (Nat.blt pc 10) (cond (Nat.beq pc 8) (some (.bipush (-2), 10, [])) none) (cond (Nat.beq pc 10) (some (.ireturn, 11, [])) none)))) (cond (Nat.blt pc 15) (cond (Nat.blt pc 12) (cond (Nat.beq pc 11) (some (.iload_n 2, 12, [])) none) (cond (Nat.blt pc 13) (cond (Nat.beq pc 12) (some (.iconst 1, 13, [])) none) (cond (Nat.beq pc 13) (some (.bipush 64, 15, [])) none))) (cond (Nat.blt pc 18) (cond (Nat.beq pc 15) (some (.invokestatic 127, 18, [])) none) (cond (Nat.blt pc 21) (cond (Nat.beq pc 18) (some (.ifCond .eq 13, 21, [31])) none) (cond (Nat.beq pc 21) (some (.iload_n 2, 22, [])) none))))) (cond (Nat.blt pc 33) (cond (Nat.blt pc 27) (cond (Nat.blt pc 23) (cond (Nat.beq pc 22) (some (.aload_n 0, 23, [])) none) (cond (Nat.blt pc 26) (cond (Nat.beq pc 23) (some (.getfield 13, 26, [])) none) (cond (Nat.beq pc 26) (some (.iload_n 1, 27, [])) none))) (cond (Nat.blt pc 28) (cond (Nat.beq pc 27) (some (.iaload, 28, [])) none) (cond (Nat.blt pc 31) (cond (Nat.beq pc 28) (some (.if_icmp .ge 6, 31, [34])) none) (cond (Nat.beq pc 31) (some (.bipush (-3), 33, [])) none)))) (cond (Nat.blt pc 36) (cond (Nat.blt pc 34) (cond (Nat.beq pc 33) (some (.ireturn, 34, [])) none) (cond (Nat.blt pc 35) (cond (Nat.beq pc 34) (some (.iload_n 2, 35, [])) none) (cond (Nat.beq pc 35) (some (.aload_n 0, 36, [])) none))) (cond (Nat.blt pc 40) (cond (Nat.blt pc 39) (cond (Nat.beq pc 36) (some (.getfield 20, 39, [])) none) (cond (Nat.beq pc 39) (some (.iload_n 1, 40, [])) none)) (cond (Nat.blt pc 41) (cond (Nat.beq pc 40) (some (.iaload, 41, [])) none) (cond (Nat.beq pc 41) (some (.if_icmp .ne 5, 44, [46])) none)))))) (cond (Nat.blt pc 66) (cond (Nat.blt pc 54) (cond (Nat.blt pc 47) (cond (Nat.blt pc 45) (cond (Nat.beq pc 44) (some (.iconst 0, 45, [])) none) (cond (Nat.blt pc 46) (cond (Nat.beq pc 45) (some (.ireturn, 46, [])) none) (cond (Nat.beq pc 46) (some (.aload_n 0, 47, [])) none))) (cond (Nat.blt pc 48) (cond (Nat.beq pc 47) (some (.iload_n 2, 48, [])) none) (cond (Nat.blt pc 51) (cond (Nat.beq pc 48) (some (.invokevirtual 131, 51, [])) none) (cond (Nat.beq pc 51) (some (.ifCond .ne 6, 54, [57])) none)))) (cond (Nat.blt pc 58) (cond (Nat.blt pc 56) (cond (Nat.beq pc 54) (some (.bipush (-4), 56, [])) none) (cond (Nat.blt pc 57) (cond (Nat.beq pc 56) (some (.ireturn, 57, [])) none) (cond (Nat.beq pc 57) (some (.aload_n 0, 58, [])) none))) (cond (Nat.blt pc 62) (cond (Nat.blt pc 61) (cond (Nat.beq pc 58) (some (.getfield 23, 61, [])) none) (cond (Nat.beq pc 61) (some (.iload_n 1, 62, [])) none)) (cond (Nat.blt pc 63) (cond (Nat.beq pc 62) (some (.aload_n 0, 63, [])) none) (cond (Nat.beq pc 63) (some (.getfield 26, 66, [])) none))))) (cond (Nat.blt pc 74) (cond (Nat.blt pc 69) (cond (Nat.blt pc 67) (cond (Nat.beq pc 66) (some (.iconst 0, 67, [])) none) (cond (Nat.blt pc 68) (cond (Nat.beq pc 67) (some (.iaload, 68, [])) none) (cond (Nat.beq pc 68) (some (.iastore, 69, [])) none))) (cond (Nat.blt pc 70) (cond (Nat.beq pc 69) (some (.aload_n 0, 70, [])) none) (cond (Nat.blt pc 73) (cond (Nat.beq pc 70) (some (.getfield 20, 73, [])) none) (cond (Nat.beq pc 73) (some (.iload_n 1, 74, [])) none)))) (cond (Nat.blt pc 77) (cond (Nat.blt pc 75) (cond (Nat.beq pc 74) (some (.iload_n 2, 75, [])) none) (cond (Nat.blt pc 76) (cond (Nat.beq pc 75) (some (.iastore, 76, [])) none) (cond (Nat.beq pc 76) (some (.aload_n 0, 77, [])) none))) (cond (Nat.blt pc 81) (cond (Nat.blt pc 78) (cond (Nat.beq pc 77) (some (.iconst 0, 78, [])) none) (cond (Nat.beq pc 78) (some (.putfield 114, 81, [])) none)) (cond (Nat.blt pc 82) (cond (Nat.beq pc 81) (some (.iconst 0, 82, [])) none) (cond (Nat.beq pc 82) (some (.ireturn, 83, [])) none)))))))
set_option maxRecDepth 100000 in
theorem kX8_resize : okT cX8_resize tX8_resize 83 3 = true := by decide +kernel
def tX8_setLimb : Tt := tWn 116 (fun pc => cond (Nat.blt pc 59) (cond (Nat.blt pc 28) (cond (Nat.blt pc 13) (cond (Nat.blt pc 8) (cond (Nat.blt pc 2) (cond (Nat.blt pc 1) (cond (Nat.beq pc 0) (some (.aload_n 0, 1, [])) none) (cond (Nat.beq pc 1) (some (.iload_n 1, 2, [])) none)) (cond (Nat.blt pc 5) (cond (Nat.beq pc 2) (some (.invokevirtual 138, 5, [])) none) (cond (Nat.beq pc 5) (some (.ifCond .ne 6, 8, [11])) none))) (cond (Nat.blt pc 11) (cond (Nat.blt pc 10) (cond (Nat.beq pc 8) (some (.bipush (-2), 10, [])) none) (cond (Nat.beq pc 10) (some (.ireturn, 11, [])) none)) (cond (Nat.blt pc 12) (cond (Nat.beq pc 11) (some (.iload_n 2, 12, [])) none) (cond (Nat.beq pc 12) (some (.iconst 0, 13, [])) none)))) (cond (Nat.blt pc 19) (cond (Nat.blt pc 17) (cond (Nat.blt pc 14) (cond (Nat.beq pc 13) (some (.aload_n 0, 14, [])) none) (cond (Nat.beq pc 14) (some (.getfield 20, 17, [])) none)) (cond (Nat.blt pc 18) (cond (Nat.beq pc 17) (some (.iload_n 1, 18, [])) none) (cond (Nat.beq pc 18) (some (.iaload, 19, [])) none))) (cond (Nat.blt pc 21) (cond (Nat.blt pc 20) (cond (Nat.beq pc 19) (some (.iconst 1, 20, [])) none) (cond (Nat.beq pc 20) (some (.isub, 21, [])) none)) (cond (Nat.blt pc 24) (cond (Nat.beq pc 21) (some (.invokestatic 127, 24, [])) none) (cond (Nat.blt pc 27) (cond (Nat.beq pc 24) (some (.ifCond .eq 14, 27, [38])) none) (cond (Nat.beq pc 27) (some (.iload_n 3, 28, [])) none)))))) (cond (Nat.blt pc 45) (cond (Nat.blt pc 38) (cond (Nat.blt pc 32) (cond (Nat.blt pc 29) (cond (Nat.beq pc 28) (some (.iconst 0, 29, [])) none) (cond (Nat.beq pc 29) (some (.sipush 32767, 32, [])) none)) (cond (Nat.blt pc 35) (cond (Nat.beq pc 32) (some (.invokestatic 127, 35, [])) none) (cond (Nat.beq pc 35) (some (.ifCond .ne 6, 38, [41])) none))) (cond (Nat.blt pc 41) (cond (Nat.blt pc 40) (cond (Nat.beq pc 38) (some (.bipush (-3), 40, [])) none) (cond (Nat.beq pc 40) (some (.ireturn, 41, [])) none)) (cond (Nat.blt pc 42) (cond (Nat.beq pc 41) (some (.aload_n 0, 42, [])) none) (cond (Nat.beq pc 42) (some (.getfield 13, 45, [])) none)))) (cond (Nat.blt pc 51) (cond (Nat.blt pc 47) (cond (Nat.blt pc 46) (cond (Nat.beq pc 45) (some (.iload_n 1, 46, [])) none) (cond (Nat.beq pc 46) (some (.iaload, 47, [])) none)) (cond (Nat.blt pc 49) (cond (Nat.beq pc 47) (some (.istore 4, 49, [])) none) (cond (Nat.beq pc 49) (some (.iload 4, 51, [])) none))) (cond (Nat.blt pc 55) (cond (Nat.blt pc 52) (cond (Nat.beq pc 51) (some (.iload_n 2, 52, [])) none) (cond (Nat.beq pc 52) (some (.if_icmp .gt 17, 55, [69])) none)) (cond (Nat.blt pc 56) (cond (Nat.beq pc 55) (some (.aload_n 0, 56, [])) none) (cond (Nat.blt pc 57) (cond (Nat.beq pc 56) (some (.iload_n 1, 57, [])) none) (cond (Nat.beq pc 57) (some (.iload 4, 59, [])) none))))))) (cond (Nat.blt pc 90) (cond (Nat.blt pc 75) (cond (Nat.blt pc 69) (cond (Nat.blt pc 63) (cond (Nat.blt pc 60) (cond (Nat.beq pc 59) (some (.iconst 0, 60, [])) none) (cond (Nat.beq pc 60) (some (.invokevirtual 80, 63, [])) none)) (cond (Nat.blt pc 66) (cond (Nat.beq pc 63) (some (.iinc 4 1, 66, [])) none) (cond (Nat.beq pc 66) (some (.goto (-17), 69, [49])) none))) (cond (Nat.blt pc 73) (cond (Nat.blt pc 70) (cond (Nat.beq pc 69) (some (.aload_n 0, 70, [])) none) (cond (Nat.beq pc 70) (some (.getfield 13, 73, [])) none)) (cond (Nat.blt pc 74) (cond (Nat.beq pc 73) (some (.iload_n 1, 74, [])) none) (cond (Nat.beq pc 74) (some (.iaload, 75, [])) none)))) (cond (Nat.blt pc 81) (cond (Nat.blt pc 77) (cond (Nat.blt pc 76) (cond (Nat.beq pc 75) (some (.iload_n 2, 76, [])) none) (cond (Nat.beq pc 76) (some (.iconst 1, 77, [])) none)) (cond (Nat.blt pc 78) (cond (Nat.beq pc 77) (some (.iadd, 78, [])) none) (cond (Nat.beq pc 78) (some (.if_icmp .le 12, 81, [90])) none))) (cond (Nat.blt pc 85) (cond (Nat.blt pc 82) (cond (Nat.beq pc 81) (some (.aload_n 0, 82, [])) none) (cond (Nat.beq pc 82) (some (.getfield 13, 85, [])) none)) (cond (Nat.blt pc 86) (cond (Nat.beq pc 85) (some (.iload_n 1, 86, [])) none) (cond (Nat.blt pc 87) (cond (Nat.beq pc 86) (some (.iaload, 87, [])) none) (cond (Nat.beq pc 87) (some (.goto 6, 90, [93])) none)))))) (cond (Nat.blt pc 102) (cond (Nat.blt pc 95) (cond (Nat.blt pc 92) (cond (Nat.blt pc 91) (cond (Nat.beq pc 90) (some (.iload_n 2, 91, [])) none) (cond (Nat.beq pc 91) (some (.iconst 1, 92, [])) none)) (cond (Nat.blt pc 93) (cond (Nat.beq pc 92) (some (.iadd, 93, [])) none) (cond (Nat.beq pc 93) (some (.istore 4, 95, [])) none))) (cond (Nat.blt pc 97) (cond (Nat.blt pc 96) (cond (Nat.beq pc 95) (some (.aload_n 0, 96, [])) none) (cond (Nat.beq pc 96) (some (.iload_n 1, 97, [])) none)) (cond (Nat.blt pc 98) (cond (Nat.beq pc 97) (some (.iload_n 2, 98, [])) none) (cond (Nat.blt pc 99) (cond (Nat.beq pc 98) (some (.iload_n 3, 99, [])) none) (cond (Nat.beq pc 99) (some (.invokevirtual 80, 102, [])) none))))) (cond (Nat.blt pc 109) (cond (Nat.blt pc 104) (cond (Nat.blt pc 103) (cond (Nat.beq pc 102) (some (.aload_n 0, 103, [])) none) (cond (Nat.beq pc 103) (some (.iload_n 1, 104, [])) none)) (cond (Nat.blt pc 106) (cond (Nat.beq pc 104) (some (.iload 4, 106, [])) none) (cond (Nat.beq pc 106) (some (.invokevirtual 85, 109, [])) none))) (cond (Nat.blt pc 113) (cond (Nat.blt pc 110) (cond (Nat.beq pc 109) (some (.aload_n 0, 110, [])) none) (cond (Nat.beq pc 110) (some (.getfield 13, 113, [])) none)) (cond (Nat.blt pc 114) (cond (Nat.beq pc 113) (some (.iload_n 1, 114, [])) none) (cond (Nat.blt pc 115) (cond (Nat.beq pc 114) (some (.iaload, 115, [])) none) (cond (Nat.beq pc 115) (some (.ireturn, 116, [])) none))))))))
set_option maxRecDepth 100000 in
theorem kX8_setLimb : okT cX8_setLimb tX8_setLimb 116 5 = true := by decide +kernel
def tX8_limb : Tt := tWn 28 (fun pc => cond (Nat.blt pc 14) (cond (Nat.blt pc 5) (cond (Nat.blt pc 1) (cond (Nat.beq pc 0) (some (.aload_n 0, 1, [])) none) (cond (Nat.blt pc 2) (cond (Nat.beq pc 1) (some (.iload_n 1, 2, [])) none) (cond (Nat.beq pc 2) (some (.invokevirtual 138, 5, [])) none))) (cond (Nat.blt pc 10) (cond (Nat.blt pc 8) (cond (Nat.beq pc 5) (some (.ifCond .ne 8, 8, [13])) none) (cond (Nat.beq pc 8) (some (.bipush (-2), 10, [])) none)) (cond (Nat.blt pc 13) (cond (Nat.beq pc 10) (some (.goto 17, 13, [27])) none) (cond (Nat.beq pc 13) (some (.iload_n 2, 14, [])) none)))) (cond (Nat.blt pc 22) (cond (Nat.blt pc 18) (cond (Nat.blt pc 17) (cond (Nat.beq pc 14) (some (.ifCond .ge 7, 17, [21])) none) (cond (Nat.beq pc 17) (some (.iconst (-1), 18, [])) none)) (cond (Nat.blt pc 21) (cond (Nat.beq pc 18) (some (.goto 9, 21, [27])) none) (cond (Nat.beq pc 21) (some (.aload_n 0, 22, [])) none))) (cond (Nat.blt pc 24) (cond (Nat.blt pc 23) (cond (Nat.beq pc 22) (some (.iload_n 1, 23, [])) none) (cond (Nat.beq pc 23) (some (.iload_n 2, 24, [])) none)) (cond (Nat.blt pc 27) (cond (Nat.beq pc 24) (some (.invokevirtual 76, 27, [])) none) (cond (Nat.beq pc 27) (some (.ireturn, 28, [])) none)))))
set_option maxRecDepth 100000 in
theorem kX8_limb : okT cX8_limb tX8_limb 28 3 = true := by decide +kernel
def tX8_look : Tt := tWn 67 (fun pc => cond (Nat.blt pc 34) (cond (Nat.blt pc 16) (cond (Nat.blt pc 8) (cond (Nat.blt pc 2) (cond (Nat.blt pc 1) (cond (Nat.beq pc 0) (some (.aload_n 0, 1, [])) none) (cond (Nat.beq pc 1) (some (.iload_n 1, 2, [])) none)) (cond (Nat.blt pc 5) (cond (Nat.beq pc 2) (some (.invokevirtual 138, 5, [])) none) (cond (Nat.beq pc 5) (some (.ifCond .ne 6, 8, [11])) none))) (cond (Nat.blt pc 11) (cond (Nat.blt pc 10) (cond (Nat.beq pc 8) (some (.bipush (-2), 10, [])) none) (cond (Nat.beq pc 10) (some (.ireturn, 11, [])) none)) (cond (Nat.blt pc 12) (cond (Nat.beq pc 11) (some (.iload_n 2, 12, [])) none) (cond (Nat.blt pc 15) (cond (Nat.beq pc 12) (some (.ifCond .ne 12, 15, [24])) none) (cond (Nat.beq pc 15) (some (.aload_n 0, 16, [])) none))))) (cond (Nat.blt pc 25) (cond (Nat.blt pc 20) (cond (Nat.blt pc 19) (cond (Nat.beq pc 16) (some (.getfield 13, 19, [])) none) (cond (Nat.beq pc 19) (some (.iload_n 1, 20, [])) none)) (cond (Nat.blt pc 21) (cond (Nat.beq pc 20) (some (.iaload, 21, [])) none) (cond (Nat.blt pc 24) (cond (Nat.beq pc 21) (some (.goto 45, 24, [66])) none) (cond (Nat.beq pc 24) (some (.iload_n 2, 25, [])) none)))) (cond (Nat.blt pc 29) (cond (Nat.blt pc 26) (cond (Nat.beq pc 25) (some (.iconst 1, 26, [])) none) (cond (Nat.beq pc 26) (some (.if_icmp .ne 12, 29, [38])) none)) (cond (Nat.blt pc 30) (cond (Nat.beq pc 29) (some (.aload_n 0, 30, [])) none) (cond (Nat.blt pc 33) (cond (Nat.beq pc 30) (some (.getfield 20, 33, [])) none) (cond (Nat.beq pc 33) (some (.iload_n 1, 34, [])) none)))))) (cond (Nat.blt pc 49) (cond (Nat.blt pc 40) (cond (Nat.blt pc 38) (cond (Nat.blt pc 35) (cond (Nat.beq pc 34) (some (.iaload, 35, [])) none) (cond (Nat.beq pc 35) (some (.goto 31, 38, [66])) none)) (cond (Nat.blt pc 39) (cond (Nat.beq pc 38) (some (.iload_n 2, 39, [])) none) (cond (Nat.beq pc 39) (some (.iconst 2, 40, [])) none))) (cond (Nat.blt pc 44) (cond (Nat.blt pc 43) (cond (Nat.beq pc 40) (some (.if_icmp .ne 12, 43, [52])) none) (cond (Nat.beq pc 43) (some (.aload_n 0, 44, [])) none)) (cond (Nat.blt pc 47) (cond (Nat.beq pc 44) (some (.getfield 23, 47, [])) none) (cond (Nat.blt pc 48) (cond (Nat.beq pc 47) (some (.iload_n 1, 48, [])) none) (cond (Nat.beq pc 48) (some (.iaload, 49, [])) none))))) (cond (Nat.blt pc 58) (cond (Nat.blt pc 53) (cond (Nat.blt pc 52) (cond (Nat.beq pc 49) (some (.goto 17, 52, [66])) none) (cond (Nat.beq pc 52) (some (.iload_n 2, 53, [])) none)) (cond (Nat.blt pc 54) (cond (Nat.beq pc 53) (some (.iconst 3, 54, [])) none) (cond (Nat.blt pc 57) (cond (Nat.beq pc 54) (some (.if_icmp .ne 11, 57, [65])) none) (cond (Nat.beq pc 57) (some (.aload_n 0, 58, [])) none)))) (cond (Nat.blt pc 62) (cond (Nat.blt pc 59) (cond (Nat.beq pc 58) (some (.iload_n 1, 59, [])) none) (cond (Nat.beq pc 59) (some (.invokevirtual 104, 62, [])) none)) (cond (Nat.blt pc 65) (cond (Nat.beq pc 62) (some (.goto 4, 65, [66])) none) (cond (Nat.blt pc 66) (cond (Nat.beq pc 65) (some (.iconst (-1), 66, [])) none) (cond (Nat.beq pc 66) (some (.ireturn, 67, [])) none)))))))
set_option maxRecDepth 100000 in
theorem kX8_look : okT cX8_look tX8_look 67 3 = true := by decide +kernel
def tX8_allRooms : Tt := tWn 42 (fun pc => cond (Nat.blt pc 19) (cond (Nat.blt pc 6) (cond (Nat.blt pc 3) (cond (Nat.blt pc 1) (cond (Nat.beq pc 0) (some (.iconst 0, 1, [])) none) (cond (Nat.blt pc 2) (cond (Nat.beq pc 1) (some (.istore_n 1, 2, [])) none) (cond (Nat.beq pc 2) (some (.iconst 0, 3, [])) none))) (cond (Nat.blt pc 4) (cond (Nat.beq pc 3) (some (.istore_n 2, 4, [])) none) (cond (Nat.blt pc 5) (cond (Nat.beq pc 4) (some (.iload_n 2, 5, [])) none) (cond (Nat.beq pc 5) (some (.aload_n 0, 6, [])) none)))) (cond (Nat.blt pc 13) (cond (Nat.blt pc 9) (cond (Nat.beq pc 6) (some (.getfield 67, 9, [])) none) (cond (Nat.blt pc 12) (cond (Nat.beq pc 9) (some (.if_icmp .ge 31, 12, [40])) none) (cond (Nat.beq pc 12) (some (.iload_n 1, 13, [])) none))) (cond (Nat.blt pc 17) (cond (Nat.blt pc 14) (cond (Nat.beq pc 13) (some (.aload_n 0, 14, [])) none) (cond (Nat.beq pc 14) (some (.getfield 16, 17, [])) none)) (cond (Nat.blt pc 18) (cond (Nat.beq pc 17) (some (.iload_n 2, 18, [])) none) (cond (Nat.beq pc 18) (some (.baload, 19, [])) none))))) (cond (Nat.blt pc 31) (cond (Nat.blt pc 26) (cond (Nat.blt pc 22) (cond (Nat.beq pc 19) (some (.ifCond .eq 12, 22, [31])) none) (cond (Nat.blt pc 23) (cond (Nat.beq pc 22) (some (.aload_n 0, 23, [])) none) (cond (Nat.beq pc 23) (some (.getfield 20, 26, [])) none))) (cond (Nat.blt pc 27) (cond (Nat.beq pc 26) (some (.iload_n 2, 27, [])) none) (cond (Nat.blt pc 28) (cond (Nat.beq pc 27) (some (.iaload, 28, [])) none) (cond (Nat.beq pc 28) (some (.goto 4, 31, [32])) none)))) (cond (Nat.blt pc 34) (cond (Nat.blt pc 32) (cond (Nat.beq pc 31) (some (.iconst 0, 32, [])) none) (cond (Nat.blt pc 33) (cond (Nat.beq pc 32) (some (.iadd, 33, [])) none) (cond (Nat.beq pc 33) (some (.istore_n 1, 34, [])) none))) (cond (Nat.blt pc 40) (cond (Nat.blt pc 37) (cond (Nat.beq pc 34) (some (.iinc 2 1, 37, [])) none) (cond (Nat.beq pc 37) (some (.goto (-33), 40, [4])) none)) (cond (Nat.blt pc 41) (cond (Nat.beq pc 40) (some (.iload_n 1, 41, [])) none) (cond (Nat.beq pc 41) (some (.ireturn, 42, [])) none))))))
set_option maxRecDepth 100000 in
theorem kX8_allRooms : okT cX8_allRooms tX8_allRooms 42 3 = true := by decide +kernel
def tX8_about : Tt := tWn 132 (fun pc => cond (Nat.blt pc 92) (cond (Nat.blt pc 18) (cond (Nat.blt pc 6) (cond (Nat.blt pc 3) (cond (Nat.blt pc 1) (cond (Nat.beq pc 0) (some (.iconst 0, 1, [])) none) (cond (Nat.blt pc 2) (cond (Nat.beq pc 1) (some (.istore_n 2, 2, [])) none) (cond (Nat.beq pc 2) (some (.iconst 0, 3, [])) none))) (cond (Nat.blt pc 4) (cond (Nat.beq pc 3) (some (.istore_n 3, 4, [])) none) (cond (Nat.blt pc 5) (cond (Nat.beq pc 4) (some (.iload_n 3, 5, [])) none) (cond (Nat.beq pc 5) (some (.aload_n 0, 6, [])) none)))) (cond (Nat.blt pc 13) (cond (Nat.blt pc 9) (cond (Nat.beq pc 6) (some (.getfield 67, 9, [])) none) (cond (Nat.blt pc 12) (cond (Nat.beq pc 9) (some (.if_icmp .ge 26, 12, [35])) none) (cond (Nat.beq pc 12) (some (.iload_n 2, 13, [])) none))) (cond (Nat.blt pc 14) (cond (Nat.beq pc 13) (some (.aload_n 0, 14, [])) none) (cond (Nat.blt pc 17) (cond (Nat.beq pc 14) (some (.getfield 16, 17, [])) none) (cond (Nat.beq pc 17) (some (.iload_n 3, 18, [])) none))))) (cond (Nat.blt pc 28) (cond (Nat.blt pc 23) (cond (Nat.blt pc 19) (cond (Nat.beq pc 18) (some (.baload, 19, [])) none) (cond (Nat.blt pc 22) (cond (Nat.beq pc 19) (some (.ifCond .eq 7, 22, [26])) none) (cond (Nat.beq pc 22) (some (.iconst 1, 23, [])) none))) (cond (Nat.blt pc 26) (cond (Nat.beq pc 23) (some (.goto 4, 26, [27])) none) (cond (Nat.blt pc 27) (cond (Nat.beq pc 26) (some (.iconst 0, 27, [])) none) (cond (Nat.beq pc 27) (some (.iadd, 28, [])) none)))) (cond (Nat.blt pc 35) (cond (Nat.blt pc 29) (cond (Nat.beq pc 28) (some (.istore_n 2, 29, [])) none) (cond (Nat.blt pc 32) (cond (Nat.beq pc 29) (some (.iinc 3 1, 32, [])) none) (cond (Nat.beq pc 32) (some (.goto (-28), 35, [4])) none))) (cond (Nat.blt pc 88) (cond (Nat.blt pc 36) (cond (Nat.beq pc 35) (some (.iload_n 1, 36, [])) none) (cond (Nat.beq pc 36) (some (.tableswitch 94 0 8 #[52, 57, 62, 67, 69, 74, 79, 84, 89], 88, [130, 88, 93, 98, 103, 105, 110, 115, 120, 125])) none)) (cond (Nat.blt pc 89) (cond (Nat.beq pc 88) (some (.aload_n 0, 89, [])) none) (cond (Nat.beq pc 89) (some (.invokevirtual 141, 92, [])) none)))))) (cond (Nat.blt pc 111) (cond (Nat.blt pc 102) (cond (Nat.blt pc 97) (cond (Nat.blt pc 93) (cond (Nat.beq pc 92) (some (.ireturn, 93, [])) none) (cond (Nat.blt pc 94) (cond (Nat.beq pc 93) (some (.aload_n 0, 94, [])) none) (cond (Nat.beq pc 94) (some (.invokevirtual 120, 97, [])) none))) (cond (Nat.blt pc 98) (cond (Nat.beq pc 97) (some (.ireturn, 98, [])) none) (cond (Nat.blt pc 99) (cond (Nat.beq pc 98) (some (.aload_n 0, 99, [])) none) (cond (Nat.beq pc 99) (some (.getfield 117, 102, [])) none)))) (cond (Nat.blt pc 105) (cond (Nat.blt pc 103) (cond (Nat.beq pc 102) (some (.ireturn, 103, [])) none) (cond (Nat.blt pc 104) (cond (Nat.beq pc 103) (some (.iload_n 2, 104, [])) none) (cond (Nat.beq pc 104) (some (.ireturn, 105, [])) none))) (cond (Nat.blt pc 109) (cond (Nat.blt pc 106) (cond (Nat.beq pc 105) (some (.aload_n 0, 106, [])) none) (cond (Nat.beq pc 106) (some (.getfield 144, 109, [])) none)) (cond (Nat.blt pc 110) (cond (Nat.beq pc 109) (some (.ireturn, 110, [])) none) (cond (Nat.beq pc 110) (some (.aload_n 0, 111, [])) none))))) (cond (Nat.blt pc 121) (cond (Nat.blt pc 116) (cond (Nat.blt pc 114) (cond (Nat.beq pc 111) (some (.getfield 67, 114, [])) none) (cond (Nat.blt pc 115) (cond (Nat.beq pc 114) (some (.ireturn, 115, [])) none) (cond (Nat.beq pc 115) (some (.aload_n 0, 116, [])) none))) (cond (Nat.blt pc 119) (cond (Nat.beq pc 116) (some (.getfield 70, 119, [])) none) (cond (Nat.blt pc 120) (cond (Nat.beq pc 119) (some (.ireturn, 120, [])) none) (cond (Nat.beq pc 120) (some (.aload_n 0, 121, [])) none)))) (cond (Nat.blt pc 126) (cond (Nat.blt pc 124) (cond (Nat.beq pc 121) (some (.getfield 73, 124, [])) none) (cond (Nat.blt pc 125) (cond (Nat.beq pc 124) (some (.ireturn, 125, [])) none) (cond (Nat.beq pc 125) (some (.aload_n 0, 126, [])) none))) (cond (Nat.blt pc 130) (cond (Nat.blt pc 129) (cond (Nat.beq pc 126) (some (.getfield 147, 129, [])) none) (cond (Nat.beq pc 129) (some (.ireturn, 130, [])) none)) (cond (Nat.blt pc 131) (cond (Nat.beq pc 130) (some (.iconst (-1), 131, [])) none) (cond (Nat.beq pc 131) (some (.ireturn, 132, [])) none)))))))
set_option maxRecDepth 100000 in
theorem kX8_about : okT cX8_about tX8_about 132 4 = true := by decide +kernel
def tX8_cell : Tt := tWn 69 (fun pc => cond (Nat.blt pc 33) (cond (Nat.blt pc 16) (cond (Nat.blt pc 7) (cond (Nat.blt pc 2) (cond (Nat.blt pc 1) (cond (Nat.beq pc 0) (some (.iconst 0, 1, [])) none) (cond (Nat.beq pc 1) (some (.istore_n 2, 2, [])) none)) (cond (Nat.blt pc 3) (cond (Nat.beq pc 2) (some (.iload_n 2, 3, [])) none) (cond (Nat.blt pc 4) (cond (Nat.beq pc 3) (some (.aload_n 0, 4, [])) none) (cond (Nat.beq pc 4) (some (.getfield 67, 7, [])) none)))) (cond (Nat.blt pc 11) (cond (Nat.blt pc 10) (cond (Nat.beq pc 7) (some (.if_icmp .ge 60, 10, [67])) none) (cond (Nat.beq pc 10) (some (.aload_n 0, 11, [])) none)) (cond (Nat.blt pc 14) (cond (Nat.beq pc 11) (some (.getfield 16, 14, [])) none) (cond (Nat.blt pc 15) (cond (Nat.beq pc 14) (some (.iload_n 2, 15, [])) none) (cond (Nat.beq pc 15) (some (.baload, 16, [])) none))))) (cond (Nat.blt pc 25) (cond (Nat.blt pc 20) (cond (Nat.blt pc 19) (cond (Nat.beq pc 16) (some (.ifCond .eq 45, 19, [61])) none) (cond (Nat.beq pc 19) (some (.iload_n 1, 20, [])) none)) (cond (Nat.blt pc 21) (cond (Nat.beq pc 20) (some (.aload_n 0, 21, [])) none) (cond (Nat.blt pc 24) (cond (Nat.beq pc 21) (some (.getfield 23, 24, [])) none) (cond (Nat.beq pc 24) (some (.iload_n 2, 25, [])) none)))) (cond (Nat.blt pc 30) (cond (Nat.blt pc 26) (cond (Nat.beq pc 25) (some (.iaload, 26, [])) none) (cond (Nat.blt pc 27) (cond (Nat.beq pc 26) (some (.aload_n 0, 27, [])) none) (cond (Nat.beq pc 27) (some (.getfield 23, 30, [])) none))) (cond (Nat.blt pc 31) (cond (Nat.beq pc 30) (some (.iload_n 2, 31, [])) none) (cond (Nat.blt pc 32) (cond (Nat.beq pc 31) (some (.iaload, 32, [])) none) (cond (Nat.beq pc 32) (some (.aload_n 0, 33, [])) none)))))) (cond (Nat.blt pc 50) (cond (Nat.blt pc 40) (cond (Nat.blt pc 37) (cond (Nat.blt pc 36) (cond (Nat.beq pc 33) (some (.getfield 20, 36, [])) none) (cond (Nat.beq pc 36) (some (.iload_n 2, 37, [])) none)) (cond (Nat.blt pc 38) (cond (Nat.beq pc 37) (some (.iaload, 38, [])) none) (cond (Nat.blt pc 39) (cond (Nat.beq pc 38) (some (.iadd, 39, [])) none) (cond (Nat.beq pc 39) (some (.iconst 1, 40, [])) none)))) (cond (Nat.blt pc 47) (cond (Nat.blt pc 41) (cond (Nat.beq pc 40) (some (.isub, 41, [])) none) (cond (Nat.blt pc 44) (cond (Nat.beq pc 41) (some (.invokestatic 127, 44, [])) none) (cond (Nat.beq pc 44) (some (.ifCond .eq 17, 47, [61])) none))) (cond (Nat.blt pc 48) (cond (Nat.beq pc 47) (some (.aload_n 0, 48, [])) none) (cond (Nat.blt pc 49) (cond (Nat.beq pc 48) (some (.iload_n 2, 49, [])) none) (cond (Nat.beq pc 49) (some (.iload_n 1, 50, [])) none))))) (cond (Nat.blt pc 57) (cond (Nat.blt pc 54) (cond (Nat.blt pc 51) (cond (Nat.beq pc 50) (some (.aload_n 0, 51, [])) none) (cond (Nat.beq pc 51) (some (.getfield 23, 54, [])) none)) (cond (Nat.blt pc 55) (cond (Nat.beq pc 54) (some (.iload_n 2, 55, [])) none) (cond (Nat.blt pc 56) (cond (Nat.beq pc 55) (some (.iaload, 56, [])) none) (cond (Nat.beq pc 56) (some (.isub, 57, [])) none)))) (cond (Nat.blt pc 64) (cond (Nat.blt pc 60) (cond (Nat.beq pc 57) (some (.invokevirtual 76, 60, [])) none) (cond (Nat.blt pc 61) (cond (Nat.beq pc 60) (some (.ireturn, 61, [])) none) (cond (Nat.beq pc 61) (some (.iinc 2 1, 64, [])) none))) (cond (Nat.blt pc 67) (cond (Nat.beq pc 64) (some (.goto (-62), 67, [2])) none) (cond (Nat.blt pc 68) (cond (Nat.beq pc 67) (some (.iconst (-1), 68, [])) none) (cond (Nat.beq pc 68) (some (.ireturn, 69, [])) none)))))))
set_option maxRecDepth 100000 in
theorem kX8_cell : okT cX8_cell tX8_cell 69 3 = true := by decide +kernel
def tX8_add : Tt := tWn 60 (fun pc => cond (Nat.blt pc 29) (cond (Nat.blt pc 16) (cond (Nat.blt pc 8) (cond (Nat.blt pc 2) (cond (Nat.blt pc 1) (cond (Nat.beq pc 0) (some (.aload_n 0, 1, [])) none) (cond (Nat.beq pc 1) (some (.iload_n 1, 2, [])) none)) (cond (Nat.blt pc 5) (cond (Nat.beq pc 2) (some (.invokevirtual 138, 5, [])) none) (cond (Nat.beq pc 5) (some (.ifCond .eq 19, 8, [24])) none))) (cond (Nat.blt pc 10) (cond (Nat.blt pc 9) (cond (Nat.beq pc 8) (some (.aload_n 0, 9, [])) none) (cond (Nat.beq pc 9) (some (.iload_n 2, 10, [])) none)) (cond (Nat.blt pc 13) (cond (Nat.beq pc 10) (some (.invokevirtual 138, 13, [])) none) (cond (Nat.beq pc 13) (some (.ifCond .eq 11, 16, [24])) none)))) (cond (Nat.blt pc 24) (cond (Nat.blt pc 18) (cond (Nat.blt pc 17) (cond (Nat.beq pc 16) (some (.aload_n 0, 17, [])) none) (cond (Nat.beq pc 17) (some (.iload_n 3, 18, [])) none)) (cond (Nat.blt pc 21) (cond (Nat.beq pc 18) (some (.invokevirtual 138, 21, [])) none) (cond (Nat.beq pc 21) (some (.ifCond .ne 6, 24, [27])) none))) (cond (Nat.blt pc 27) (cond (Nat.blt pc 26) (cond (Nat.beq pc 24) (some (.bipush (-2), 26, [])) none) (cond (Nat.beq pc 26) (some (.ireturn, 27, [])) none)) (cond (Nat.blt pc 28) (cond (Nat.beq pc 27) (some (.aload_n 0, 28, [])) none) (cond (Nat.beq pc 28) (some (.iload_n 2, 29, [])) none))))) (cond (Nat.blt pc 44) (cond (Nat.blt pc 36) (cond (Nat.blt pc 32) (cond (Nat.blt pc 30) (cond (Nat.beq pc 29) (some (.iload_n 3, 30, [])) none) (cond (Nat.beq pc 30) (some (.bipush 24, 32, [])) none)) (cond (Nat.blt pc 35) (cond (Nat.beq pc 32) (some (.invokevirtual 150, 35, [])) none) (cond (Nat.beq pc 35) (some (.aload_n 0, 36, [])) none))) (cond (Nat.blt pc 41) (cond (Nat.blt pc 39) (cond (Nat.beq pc 36) (some (.getfield 13, 39, [])) none) (cond (Nat.beq pc 39) (some (.bipush 24, 41, [])) none)) (cond (Nat.blt pc 42) (cond (Nat.beq pc 41) (some (.iaload, 42, [])) none) (cond (Nat.beq pc 42) (some (.bipush 64, 44, [])) none)))) (cond (Nat.blt pc 53) (cond (Nat.blt pc 49) (cond (Nat.blt pc 47) (cond (Nat.beq pc 44) (some (.if_icmp .le 8, 47, [52])) none) (cond (Nat.beq pc 47) (some (.bipush (-8), 49, [])) none)) (cond (Nat.blt pc 52) (cond (Nat.beq pc 49) (some (.goto 10, 52, [59])) none) (cond (Nat.beq pc 52) (some (.aload_n 0, 53, [])) none))) (cond (Nat.blt pc 56) (cond (Nat.blt pc 55) (cond (Nat.beq pc 53) (some (.bipush 24, 55, [])) none) (cond (Nat.beq pc 55) (some (.iload_n 1, 56, [])) none)) (cond (Nat.blt pc 59) (cond (Nat.beq pc 56) (some (.invokevirtual 153, 59, [])) none) (cond (Nat.beq pc 59) (some (.ireturn, 60, [])) none))))))
set_option maxRecDepth 100000 in
theorem kX8_add : okT cX8_add tX8_add 60 4 = true := by decide +kernel
def tX8_sub : Tt := tWn 55 (fun pc => cond (Nat.blt pc 28) (cond (Nat.blt pc 13) (cond (Nat.blt pc 5) (cond (Nat.blt pc 1) (cond (Nat.beq pc 0) (some (.aload_n 0, 1, [])) none) (cond (Nat.blt pc 2) (cond (Nat.beq pc 1) (some (.iload_n 1, 2, [])) none) (cond (Nat.beq pc 2) (some (.invokevirtual 138, 5, [])) none))) (cond (Nat.blt pc 9) (cond (Nat.blt pc 8) (cond (Nat.beq pc 5) (some (.ifCond .eq 19, 8, [24])) none) (cond (Nat.beq pc 8) (some (.aload_n 0, 9, [])) none)) (cond (Nat.blt pc 10) (cond (Nat.beq pc 9) (some (.iload_n 2, 10, [])) none) (cond (Nat.beq pc 10) (some (.invokevirtual 138, 13, [])) none)))) (cond (Nat.blt pc 21) (cond (Nat.blt pc 17) (cond (Nat.blt pc 16) (cond (Nat.beq pc 13) (some (.ifCond .eq 11, 16, [24])) none) (cond (Nat.beq pc 16) (some (.aload_n 0, 17, [])) none)) (cond (Nat.blt pc 18) (cond (Nat.beq pc 17) (some (.iload_n 3, 18, [])) none) (cond (Nat.beq pc 18) (some (.invokevirtual 138, 21, [])) none))) (cond (Nat.blt pc 26) (cond (Nat.blt pc 24) (cond (Nat.beq pc 21) (some (.ifCond .ne 6, 24, [27])) none) (cond (Nat.beq pc 24) (some (.bipush (-2), 26, [])) none)) (cond (Nat.blt pc 27) (cond (Nat.beq pc 26) (some (.ireturn, 27, [])) none) (cond (Nat.beq pc 27) (some (.aload_n 0, 28, [])) none))))) (cond (Nat.blt pc 41) (cond (Nat.blt pc 36) (cond (Nat.blt pc 30) (cond (Nat.blt pc 29) (cond (Nat.beq pc 28) (some (.iload_n 2, 29, [])) none) (cond (Nat.beq pc 29) (some (.iload_n 3, 30, [])) none)) (cond (Nat.blt pc 33) (cond (Nat.beq pc 30) (some (.invokevirtual 91, 33, [])) none) (cond (Nat.beq pc 33) (some (.ifCond .ge 6, 36, [39])) none))) (cond (Nat.blt pc 39) (cond (Nat.blt pc 38) (cond (Nat.beq pc 36) (some (.bipush (-5), 38, [])) none) (cond (Nat.beq pc 38) (some (.ireturn, 39, [])) none)) (cond (Nat.blt pc 40) (cond (Nat.beq pc 39) (some (.aload_n 0, 40, [])) none) (cond (Nat.beq pc 40) (some (.iload_n 2, 41, [])) none)))) (cond (Nat.blt pc 48) (cond (Nat.blt pc 44) (cond (Nat.blt pc 42) (cond (Nat.beq pc 41) (some (.iload_n 3, 42, [])) none) (cond (Nat.beq pc 42) (some (.bipush 24, 44, [])) none)) (cond (Nat.blt pc 47) (cond (Nat.beq pc 44) (some (.invokevirtual 156, 47, [])) none) (cond (Nat.beq pc 47) (some (.aload_n 0, 48, [])) none))) (cond (Nat.blt pc 51) (cond (Nat.blt pc 50) (cond (Nat.beq pc 48) (some (.bipush 24, 50, [])) none) (cond (Nat.beq pc 50) (some (.iload_n 1, 51, [])) none)) (cond (Nat.blt pc 54) (cond (Nat.beq pc 51) (some (.invokevirtual 153, 54, [])) none) (cond (Nat.beq pc 54) (some (.ireturn, 55, [])) none))))))
set_option maxRecDepth 100000 in
theorem kX8_sub : okT cX8_sub tX8_sub 55 4 = true := by decide +kernel
def tX8_mul : Tt := tWn 107 (fun pc => cond (Nat.blt pc 55) (cond (Nat.blt pc 28) (cond (Nat.blt pc 13) (cond (Nat.blt pc 5) (cond (Nat.blt pc 1) (cond (Nat.beq pc 0) (some (.aload_n 0, 1, [])) none) (cond (Nat.blt pc 2) (cond (Nat.beq pc 1) (some (.iload_n 1, 2, [])) none) (cond (Nat.beq pc 2) (some (.invokevirtual 138, 5, [])) none))) (cond (Nat.blt pc 9) (cond (Nat.blt pc 8) (cond (Nat.beq pc 5) (some (.ifCond .eq 19, 8, [24])) none) (cond (Nat.beq pc 8) (some (.aload_n 0, 9, [])) none)) (cond (Nat.blt pc 10) (cond (Nat.beq pc 9) (some (.iload_n 2, 10, [])) none) (cond (Nat.beq pc 10) (some (.invokevirtual 138, 13, [])) none)))) (cond (Nat.blt pc 21) (cond (Nat.blt pc 17) (cond (Nat.blt pc 16) (cond (Nat.beq pc 13) (some (.ifCond .eq 11, 16, [24])) none) (cond (Nat.beq pc 16) (some (.aload_n 0, 17, [])) none)) (cond (Nat.blt pc 18) (cond (Nat.beq pc 17) (some (.iload_n 3, 18, [])) none) (cond (Nat.beq pc 18) (some (.invokevirtual 138, 21, [])) none))) (cond (Nat.blt pc 26) (cond (Nat.blt pc 24) (cond (Nat.beq pc 21) (some (.ifCond .ne 6, 24, [27])) none) (cond (Nat.beq pc 24) (some (.bipush (-2), 26, [])) none)) (cond (Nat.blt pc 27) (cond (Nat.beq pc 26) (some (.ireturn, 27, [])) none) (cond (Nat.beq pc 27) (some (.aload_n 0, 28, [])) none))))) (cond (Nat.blt pc 41) (cond (Nat.blt pc 33) (cond (Nat.blt pc 31) (cond (Nat.beq pc 28) (some (.getfield 13, 31, [])) none) (cond (Nat.blt pc 32) (cond (Nat.beq pc 31) (some (.iload_n 2, 32, [])) none) (cond (Nat.beq pc 32) (some (.iaload, 33, [])) none))) (cond (Nat.blt pc 37) (cond (Nat.blt pc 36) (cond (Nat.beq pc 33) (some (.ifCond .le 33, 36, [66])) none) (cond (Nat.beq pc 36) (some (.aload_n 0, 37, [])) none)) (cond (Nat.blt pc 40) (cond (Nat.beq pc 37) (some (.getfield 13, 40, [])) none) (cond (Nat.beq pc 40) (some (.iload_n 3, 41, [])) none)))) (cond (Nat.blt pc 49) (cond (Nat.blt pc 45) (cond (Nat.blt pc 42) (cond (Nat.beq pc 41) (some (.iaload, 42, [])) none) (cond (Nat.beq pc 42) (some (.ifCond .le 24, 45, [66])) none)) (cond (Nat.blt pc 46) (cond (Nat.beq pc 45) (some (.aload_n 0, 46, [])) none) (cond (Nat.beq pc 46) (some (.getfield 13, 49, [])) none))) (cond (Nat.blt pc 51) (cond (Nat.blt pc 50) (cond (Nat.beq pc 49) (some (.iload_n 2, 50, [])) none) (cond (Nat.beq pc 50) (some (.iaload, 51, [])) none)) (cond (Nat.blt pc 52) (cond (Nat.beq pc 51) (some (.aload_n 0, 52, [])) none) (cond (Nat.beq pc 52) (some (.getfield 13, 55, [])) none)))))) (cond (Nat.blt pc 79) (cond (Nat.blt pc 66) (cond (Nat.blt pc 58) (cond (Nat.blt pc 56) (cond (Nat.beq pc 55) (some (.iload_n 3, 56, [])) none) (cond (Nat.blt pc 57) (cond (Nat.beq pc 56) (some (.iaload, 57, [])) none) (cond (Nat.beq pc 57) (some (.iadd, 58, [])) none))) (cond (Nat.blt pc 63) (cond (Nat.blt pc 60) (cond (Nat.beq pc 58) (some (.bipush 64, 60, [])) none) (cond (Nat.beq pc 60) (some (.if_icmp .le 6, 63, [66])) none)) (cond (Nat.blt pc 65) (cond (Nat.beq pc 63) (some (.bipush (-8), 65, [])) none) (cond (Nat.beq pc 65) (some (.ireturn, 66, [])) none)))) (cond (Nat.blt pc 71) (cond (Nat.blt pc 68) (cond (Nat.blt pc 67) (cond (Nat.beq pc 66) (some (.aload_n 0, 67, [])) none) (cond (Nat.beq pc 67) (some (.iload_n 2, 68, [])) none)) (cond (Nat.blt pc 69) (cond (Nat.beq pc 68) (some (.iload_n 3, 69, [])) none) (cond (Nat.beq pc 69) (some (.bipush 24, 71, [])) none))) (cond (Nat.blt pc 75) (cond (Nat.blt pc 74) (cond (Nat.beq pc 71) (some (.invokevirtual 108, 74, [])) none) (cond (Nat.beq pc 74) (some (.aload_n 0, 75, [])) none)) (cond (Nat.blt pc 76) (cond (Nat.beq pc 75) (some (.aload_n 0, 76, [])) none) (cond (Nat.beq pc 76) (some (.getfield 13, 79, [])) none))))) (cond (Nat.blt pc 91) (cond (Nat.blt pc 85) (cond (Nat.blt pc 81) (cond (Nat.blt pc 80) (cond (Nat.beq pc 79) (some (.iload_n 2, 80, [])) none) (cond (Nat.beq pc 80) (some (.iaload, 81, [])) none)) (cond (Nat.blt pc 82) (cond (Nat.beq pc 81) (some (.aload_n 0, 82, [])) none) (cond (Nat.beq pc 82) (some (.getfield 13, 85, [])) none))) (cond (Nat.blt pc 87) (cond (Nat.blt pc 86) (cond (Nat.beq pc 85) (some (.iload_n 3, 86, [])) none) (cond (Nat.beq pc 86) (some (.iaload, 87, [])) none)) (cond (Nat.blt pc 88) (cond (Nat.beq pc 87) (some (.iadd, 88, [])) none) (cond (Nat.beq pc 88) (some (.invokevirtual 131, 91, [])) none)))) (cond (Nat.blt pc 98) (cond (Nat.blt pc 95) (cond (Nat.blt pc 94) (cond (Nat.beq pc 91) (some (.ifCond .eq 13, 94, [104])) none) (cond (Nat.beq pc 94) (some (.aload_n 0, 95, [])) none)) (cond (Nat.blt pc 97) (cond (Nat.beq pc 95) (some (.bipush 24, 97, [])) none) (cond (Nat.beq pc 97) (some (.iload_n 1, 98, [])) none))) (cond (Nat.blt pc 104) (cond (Nat.blt pc 101) (cond (Nat.beq pc 98) (some (.invokevirtual 153, 101, [])) none) (cond (Nat.beq pc 101) (some (.goto 5, 104, [106])) none)) (cond (Nat.blt pc 106) (cond (Nat.beq pc 104) (some (.bipush (-4), 106, [])) none) (cond (Nat.beq pc 106) (some (.ireturn, 107, [])) none)))))))
set_option maxRecDepth 100000 in
theorem kX8_mul : okT cX8_mul tX8_mul 107 4 = true := by decide +kernel
def tX8_divmod : Tt := tWn 291 (fun pc => cond (Nat.blt pc 145) (cond (Nat.blt pc 73) (cond (Nat.blt pc 37) (cond (Nat.blt pc 18) (cond (Nat.blt pc 7) (cond (Nat.blt pc 2) (cond (Nat.blt pc 1) (cond (Nat.beq pc 0) (some (.iload_n 1, 1, [])) none) (cond (Nat.beq pc 1) (some (.iconst (-1), 2, [])) none)) (cond (Nat.blt pc 5) (cond (Nat.beq pc 2) (some (.if_icmp .eq 11, 5, [13])) none) (cond (Nat.blt pc 6) (cond (Nat.beq pc 5) (some (.aload_n 0, 6, [])) none) (cond (Nat.beq pc 6) (some (.iload_n 1, 7, [])) none)))) (cond (Nat.blt pc 13) (cond (Nat.blt pc 10) (cond (Nat.beq pc 7) (some (.invokevirtual 138, 10, [])) none) (cond (Nat.beq pc 10) (some (.ifCond .eq 33, 13, [43])) none)) (cond (Nat.blt pc 14) (cond (Nat.beq pc 13) (some (.iload_n 2, 14, [])) none) (cond (Nat.blt pc 15) (cond (Nat.beq pc 14) (some (.iconst (-1), 15, [])) none) (cond (Nat.beq pc 15) (some (.if_icmp .eq 11, 18, [26])) none))))) (cond (Nat.blt pc 27) (cond (Nat.blt pc 20) (cond (Nat.blt pc 19) (cond (Nat.beq pc 18) (some (.aload_n 0, 19, [])) none) (cond (Nat.beq pc 19) (some (.iload_n 2, 20, [])) none)) (cond (Nat.blt pc 23) (cond (Nat.beq pc 20) (some (.invokevirtual 138, 23, [])) none) (cond (Nat.blt pc 26) (cond (Nat.beq pc 23) (some (.ifCond .eq 20, 26, [43])) none) (cond (Nat.beq pc 26) (some (.aload_n 0, 27, [])) none)))) (cond (Nat.blt pc 31) (cond (Nat.blt pc 28) (cond (Nat.beq pc 27) (some (.iload_n 3, 28, [])) none) (cond (Nat.beq pc 28) (some (.invokevirtual 138, 31, [])) none)) (cond (Nat.blt pc 34) (cond (Nat.beq pc 31) (some (.ifCond .eq 12, 34, [43])) none) (cond (Nat.blt pc 35) (cond (Nat.beq pc 34) (some (.aload_n 0, 35, [])) none) (cond (Nat.beq pc 35) (some (.iload 4, 37, [])) none)))))) (cond (Nat.blt pc 58) (cond (Nat.blt pc 47) (cond (Nat.blt pc 43) (cond (Nat.blt pc 40) (cond (Nat.beq pc 37) (some (.invokevirtual 138, 40, [])) none) (cond (Nat.beq pc 40) (some (.ifCond .ne 6, 43, [46])) none)) (cond (Nat.blt pc 45) (cond (Nat.beq pc 43) (some (.bipush (-2), 45, [])) none) (cond (Nat.blt pc 46) (cond (Nat.beq pc 45) (some (.ireturn, 46, [])) none) (cond (Nat.beq pc 46) (some (.aload_n 0, 47, [])) none)))) (cond (Nat.blt pc 52) (cond (Nat.blt pc 50) (cond (Nat.beq pc 47) (some (.getfield 13, 50, [])) none) (cond (Nat.beq pc 50) (some (.iload 4, 52, [])) none)) (cond (Nat.blt pc 53) (cond (Nat.beq pc 52) (some (.iaload, 53, [])) none) (cond (Nat.blt pc 56) (cond (Nat.beq pc 53) (some (.ifCond .ne 6, 56, [59])) none) (cond (Nat.beq pc 56) (some (.bipush (-6), 58, [])) none))))) (cond (Nat.blt pc 65) (cond (Nat.blt pc 60) (cond (Nat.blt pc 59) (cond (Nat.beq pc 58) (some (.ireturn, 59, [])) none) (cond (Nat.beq pc 59) (some (.iload_n 1, 60, [])) none)) (cond (Nat.blt pc 61) (cond (Nat.beq pc 60) (some (.iload_n 2, 61, [])) none) (cond (Nat.blt pc 64) (cond (Nat.beq pc 61) (some (.if_icmp .ne 11, 64, [72])) none) (cond (Nat.beq pc 64) (some (.iload_n 1, 65, [])) none)))) (cond (Nat.blt pc 69) (cond (Nat.blt pc 66) (cond (Nat.beq pc 65) (some (.iconst (-1), 66, [])) none) (cond (Nat.beq pc 66) (some (.if_icmp .eq 6, 69, [72])) none)) (cond (Nat.blt pc 71) (cond (Nat.beq pc 69) (some (.bipush (-7), 71, [])) none) (cond (Nat.blt pc 72) (cond (Nat.beq pc 71) (some (.ireturn, 72, [])) none) (cond (Nat.beq pc 72) (some (.aload_n 0, 73, [])) none))))))) (cond (Nat.blt pc 109) (cond (Nat.blt pc 90) (cond (Nat.blt pc 83) (cond (Nat.blt pc 76) (cond (Nat.blt pc 74) (cond (Nat.beq pc 73) (some (.iload_n 3, 74, [])) none) (cond (Nat.beq pc 74) (some (.iload 4, 76, [])) none)) (cond (Nat.blt pc 78) (cond (Nat.beq pc 76) (some (.bipush 24, 78, [])) none) (cond (Nat.blt pc 80) (cond (Nat.beq pc 78) (some (.bipush 25, 80, [])) none) (cond (Nat.beq pc 80) (some (.invokevirtual 97, 83, [])) none)))) (cond (Nat.blt pc 85) (cond (Nat.blt pc 84) (cond (Nat.beq pc 83) (some (.aload_n 0, 84, [])) none) (cond (Nat.beq pc 84) (some (.aload_n 0, 85, [])) none)) (cond (Nat.blt pc 88) (cond (Nat.beq pc 85) (some (.getfield 13, 88, [])) none) (cond (Nat.blt pc 89) (cond (Nat.beq pc 88) (some (.iload_n 3, 89, [])) none) (cond (Nat.beq pc 89) (some (.iaload, 90, [])) none))))) (cond (Nat.blt pc 99) (cond (Nat.blt pc 92) (cond (Nat.blt pc 91) (cond (Nat.beq pc 90) (some (.iconst 1, 91, [])) none) (cond (Nat.beq pc 91) (some (.iadd, 92, [])) none)) (cond (Nat.blt pc 95) (cond (Nat.beq pc 92) (some (.invokevirtual 131, 95, [])) none) (cond (Nat.blt pc 98) (cond (Nat.beq pc 95) (some (.ifCond .eq 40, 98, [135])) none) (cond (Nat.beq pc 98) (some (.aload_n 0, 99, [])) none)))) (cond (Nat.blt pc 103) (cond (Nat.blt pc 100) (cond (Nat.beq pc 99) (some (.aload_n 0, 100, [])) none) (cond (Nat.beq pc 100) (some (.getfield 13, 103, [])) none)) (cond (Nat.blt pc 105) (cond (Nat.beq pc 103) (some (.iload 4, 105, [])) none) (cond (Nat.blt pc 106) (cond (Nat.beq pc 105) (some (.iaload, 106, [])) none) (cond (Nat.beq pc 106) (some (.invokevirtual 131, 109, [])) none)))))) (cond (Nat.blt pc 126) (cond (Nat.blt pc 118) (cond (Nat.blt pc 113) (cond (Nat.blt pc 112) (cond (Nat.beq pc 109) (some (.ifCond .eq 26, 112, [135])) none) (cond (Nat.beq pc 112) (some (.aload_n 0, 113, [])) none)) (cond (Nat.blt pc 114) (cond (Nat.beq pc 113) (some (.aload_n 0, 114, [])) none) (cond (Nat.blt pc 117) (cond (Nat.beq pc 114) (some (.getfield 13, 117, [])) none) (cond (Nat.beq pc 117) (some (.iload_n 3, 118, [])) none)))) (cond (Nat.blt pc 120) (cond (Nat.blt pc 119) (cond (Nat.beq pc 118) (some (.iaload, 119, [])) none) (cond (Nat.beq pc 119) (some (.aload_n 0, 120, [])) none)) (cond (Nat.blt pc 123) (cond (Nat.beq pc 120) (some (.getfield 13, 123, [])) none) (cond (Nat.blt pc 125) (cond (Nat.beq pc 123) (some (.iload 4, 125, [])) none) (cond (Nat.beq pc 125) (some (.iaload, 126, [])) none))))) (cond (Nat.blt pc 135) (cond (Nat.blt pc 128) (cond (Nat.blt pc 127) (cond (Nat.beq pc 126) (some (.isub, 127, [])) none) (cond (Nat.beq pc 127) (some (.iconst 1, 128, [])) none)) (cond (Nat.blt pc 129) (cond (Nat.beq pc 128) (some (.iadd, 129, [])) none) (cond (Nat.blt pc 132) (cond (Nat.beq pc 129) (some (.invokevirtual 131, 132, [])) none) (cond (Nat.beq pc 132) (some (.ifCond .ne 6, 135, [138])) none)))) (cond (Nat.blt pc 139) (cond (Nat.blt pc 137) (cond (Nat.beq pc 135) (some (.bipush (-4), 137, [])) none) (cond (Nat.blt pc 138) (cond (Nat.beq pc 137) (some (.ireturn, 138, [])) none) (cond (Nat.beq pc 138) (some (.aload_n 0, 139, [])) none))) (cond (Nat.blt pc 142) (cond (Nat.beq pc 139) (some (.getfield 114, 142, [])) none) (cond (Nat.blt pc 144) (cond (Nat.beq pc 142) (some (.istore 5, 144, [])) none) (cond (Nat.beq pc 144) (some (.iload_n 1, 145, [])) none)))))))) (cond (Nat.blt pc 220) (cond (Nat.blt pc 182) (cond (Nat.blt pc 162) (cond (Nat.blt pc 155) (cond (Nat.blt pc 149) (cond (Nat.blt pc 146) (cond (Nat.beq pc 145) (some (.iconst (-1), 146, [])) none) (cond (Nat.beq pc 146) (some (.if_icmp .eq 36, 149, [182])) none)) (cond (Nat.blt pc 150) (cond (Nat.beq pc 149) (some (.aload_n 0, 150, [])) none) (cond (Nat.blt pc 153) (cond (Nat.beq pc 150) (some (.getfield 13, 153, [])) none) (cond (Nat.beq pc 153) (some (.bipush 24, 155, [])) none)))) (cond (Nat.blt pc 157) (cond (Nat.blt pc 156) (cond (Nat.beq pc 155) (some (.iaload, 156, [])) none) (cond (Nat.beq pc 156) (some (.aload_n 0, 157, [])) none)) (cond (Nat.blt pc 160) (cond (Nat.beq pc 157) (some (.getfield 20, 160, [])) none) (cond (Nat.blt pc 161) (cond (Nat.beq pc 160) (some (.iload_n 1, 161, [])) none) (cond (Nat.beq pc 161) (some (.iaload, 162, [])) none))))) (cond (Nat.blt pc 172) (cond (Nat.blt pc 166) (cond (Nat.blt pc 165) (cond (Nat.beq pc 162) (some (.if_icmp .le 20, 165, [182])) none) (cond (Nat.beq pc 165) (some (.aload_n 0, 166, [])) none)) (cond (Nat.blt pc 167) (cond (Nat.beq pc 166) (some (.aload_n 0, 167, [])) none) (cond (Nat.blt pc 170) (cond (Nat.beq pc 167) (some (.getfield 13, 170, [])) none) (cond (Nat.beq pc 170) (some (.bipush 24, 172, [])) none)))) (cond (Nat.blt pc 176) (cond (Nat.blt pc 173) (cond (Nat.beq pc 172) (some (.iaload, 173, [])) none) (cond (Nat.beq pc 173) (some (.invokevirtual 131, 176, [])) none)) (cond (Nat.blt pc 179) (cond (Nat.beq pc 176) (some (.ifCond .ne 6, 179, [182])) none) (cond (Nat.blt pc 181) (cond (Nat.beq pc 179) (some (.bipush (-4), 181, [])) none) (cond (Nat.beq pc 181) (some (.ireturn, 182, [])) none)))))) (cond (Nat.blt pc 200) (cond (Nat.blt pc 190) (cond (Nat.blt pc 186) (cond (Nat.blt pc 183) (cond (Nat.beq pc 182) (some (.aload_n 0, 183, [])) none) (cond (Nat.beq pc 183) (some (.getfield 114, 186, [])) none)) (cond (Nat.blt pc 188) (cond (Nat.beq pc 186) (some (.istore 6, 188, [])) none) (cond (Nat.blt pc 189) (cond (Nat.beq pc 188) (some (.iload_n 2, 189, [])) none) (cond (Nat.beq pc 189) (some (.iconst (-1), 190, [])) none)))) (cond (Nat.blt pc 194) (cond (Nat.blt pc 193) (cond (Nat.beq pc 190) (some (.if_icmp .eq 36, 193, [226])) none) (cond (Nat.beq pc 193) (some (.aload_n 0, 194, [])) none)) (cond (Nat.blt pc 197) (cond (Nat.beq pc 194) (some (.getfield 13, 197, [])) none) (cond (Nat.blt pc 199) (cond (Nat.beq pc 197) (some (.bipush 25, 199, [])) none) (cond (Nat.beq pc 199) (some (.iaload, 200, [])) none))))) (cond (Nat.blt pc 209) (cond (Nat.blt pc 204) (cond (Nat.blt pc 201) (cond (Nat.beq pc 200) (some (.aload_n 0, 201, [])) none) (cond (Nat.beq pc 201) (some (.getfield 20, 204, [])) none)) (cond (Nat.blt pc 205) (cond (Nat.beq pc 204) (some (.iload_n 2, 205, [])) none) (cond (Nat.blt pc 206) (cond (Nat.beq pc 205) (some (.iaload, 206, [])) none) (cond (Nat.beq pc 206) (some (.if_icmp .le 20, 209, [226])) none)))) (cond (Nat.blt pc 214) (cond (Nat.blt pc 210) (cond (Nat.beq pc 209) (some (.aload_n 0, 210, [])) none) (cond (Nat.blt pc 211) (cond (Nat.beq pc 210) (some (.aload_n 0, 211, [])) none) (cond (Nat.beq pc 211) (some (.getfield 13, 214, [])) none))) (cond (Nat.blt pc 216) (cond (Nat.beq pc 214) (some (.bipush 25, 216, [])) none) (cond (Nat.blt pc 217) (cond (Nat.beq pc 216) (some (.iaload, 217, [])) none) (cond (Nat.beq pc 217) (some (.invokevirtual 131, 220, [])) none))))))) (cond (Nat.blt pc 254) (cond (Nat.blt pc 237) (cond (Nat.blt pc 228) (cond (Nat.blt pc 225) (cond (Nat.blt pc 223) (cond (Nat.beq pc 220) (some (.ifCond .ne 6, 223, [226])) none) (cond (Nat.beq pc 223) (some (.bipush (-4), 225, [])) none)) (cond (Nat.blt pc 226) (cond (Nat.beq pc 225) (some (.ireturn, 226, [])) none) (cond (Nat.blt pc 227) (cond (Nat.beq pc 226) (some (.iload_n 1, 227, [])) none) (cond (Nat.beq pc 227) (some (.iconst (-1), 228, [])) none)))) (cond (Nat.blt pc 232) (cond (Nat.blt pc 231) (cond (Nat.beq pc 228) (some (.if_icmp .eq 24, 231, [252])) none) (cond (Nat.beq pc 231) (some (.aload_n 0, 232, [])) none)) (cond (Nat.blt pc 233) (cond (Nat.beq pc 232) (some (.iload_n 1, 233, [])) none) (cond (Nat.blt pc 234) (cond (Nat.beq pc 233) (some (.aload_n 0, 234, [])) none) (cond (Nat.beq pc 234) (some (.getfield 13, 237, [])) none))))) (cond (Nat.blt pc 246) (cond (Nat.blt pc 240) (cond (Nat.blt pc 239) (cond (Nat.beq pc 237) (some (.bipush 24, 239, [])) none) (cond (Nat.beq pc 239) (some (.iaload, 240, [])) none)) (cond (Nat.blt pc 242) (cond (Nat.beq pc 240) (some (.iload 5, 242, [])) none) (cond (Nat.blt pc 245) (cond (Nat.beq pc 242) (some (.invokevirtual 135, 245, [])) none) (cond (Nat.beq pc 245) (some (.aload_n 0, 246, [])) none)))) (cond (Nat.blt pc 249) (cond (Nat.blt pc 248) (cond (Nat.beq pc 246) (some (.bipush 24, 248, [])) none) (cond (Nat.beq pc 248) (some (.iload_n 1, 249, [])) none)) (cond (Nat.blt pc 252) (cond (Nat.beq pc 249) (some (.invokevirtual 101, 252, [])) none) (cond (Nat.blt pc 253) (cond (Nat.beq pc 252) (some (.iload_n 2, 253, [])) none) (cond (Nat.beq pc 253) (some (.iconst (-1), 254, [])) none)))))) (cond (Nat.blt pc 272) (cond (Nat.blt pc 263) (cond (Nat.blt pc 258) (cond (Nat.blt pc 257) (cond (Nat.beq pc 254) (some (.if_icmp .eq 24, 257, [278])) none) (cond (Nat.beq pc 257) (some (.aload_n 0, 258, [])) none)) (cond (Nat.blt pc 259) (cond (Nat.beq pc 258) (some (.iload_n 2, 259, [])) none) (cond (Nat.blt pc 260) (cond (Nat.beq pc 259) (some (.aload_n 0, 260, [])) none) (cond (Nat.beq pc 260) (some (.getfield 13, 263, [])) none)))) (cond (Nat.blt pc 266) (cond (Nat.blt pc 265) (cond (Nat.beq pc 263) (some (.bipush 25, 265, [])) none) (cond (Nat.beq pc 265) (some (.iaload, 266, [])) none)) (cond (Nat.blt pc 268) (cond (Nat.beq pc 266) (some (.iload 6, 268, [])) none) (cond (Nat.blt pc 271) (cond (Nat.beq pc 268) (some (.invokevirtual 135, 271, [])) none) (cond (Nat.beq pc 271) (some (.aload_n 0, 272, [])) none))))) (cond (Nat.blt pc 280) (cond (Nat.blt pc 275) (cond (Nat.blt pc 274) (cond (Nat.beq pc 272) (some (.bipush 25, 274, [])) none) (cond (Nat.beq pc 274) (some (.iload_n 2, 275, [])) none)) (cond (Nat.blt pc 278) (cond (Nat.beq pc 275) (some (.invokevirtual 101, 278, [])) none) (cond (Nat.blt pc 279) (cond (Nat.beq pc 278) (some (.aload_n 0, 279, [])) none) (cond (Nat.beq pc 279) (some (.iconst 0, 280, [])) none)))) (cond (Nat.blt pc 287) (cond (Nat.blt pc 283) (cond (Nat.beq pc 280) (some (.putfield 114, 283, [])) none) (cond (Nat.blt pc 284) (cond (Nat.beq pc 283) (some (.aload_n 0, 284, [])) none) (cond (Nat.beq pc 284) (some (.getfield 13, 287, [])) none))) (cond (Nat.blt pc 289) (cond (Nat.beq pc 287) (some (.bipush 24, 289, [])) none) (cond (Nat.blt pc 290) (cond (Nat.beq pc 289) (some (.iaload, 290, [])) none) (cond (Nat.beq pc 290) (some (.ireturn, 291, [])) none)))))))))
set_option maxRecDepth 100000 in
theorem kX8_divmod : okT cX8_divmod tX8_divmod 291 7 = true := by decide +kernel
def tX8_powmod : Tt := tWn 136 (fun pc => cond (Nat.blt pc 68) (cond (Nat.blt pc 36) (cond (Nat.blt pc 17) (cond (Nat.blt pc 8) (cond (Nat.blt pc 2) (cond (Nat.blt pc 1) (cond (Nat.beq pc 0) (some (.aload_n 0, 1, [])) none) (cond (Nat.beq pc 1) (some (.iload_n 1, 2, [])) none)) (cond (Nat.blt pc 5) (cond (Nat.beq pc 2) (some (.invokevirtual 138, 5, [])) none) (cond (Nat.beq pc 5) (some (.ifCond .eq 28, 8, [33])) none))) (cond (Nat.blt pc 10) (cond (Nat.blt pc 9) (cond (Nat.beq pc 8) (some (.aload_n 0, 9, [])) none) (cond (Nat.beq pc 9) (some (.iload_n 2, 10, [])) none)) (cond (Nat.blt pc 13) (cond (Nat.beq pc 10) (some (.invokevirtual 138, 13, [])) none) (cond (Nat.blt pc 16) (cond (Nat.beq pc 13) (some (.ifCond .eq 20, 16, [33])) none) (cond (Nat.beq pc 16) (some (.aload_n 0, 17, [])) none))))) (cond (Nat.blt pc 25) (cond (Nat.blt pc 21) (cond (Nat.blt pc 18) (cond (Nat.beq pc 17) (some (.iload_n 3, 18, [])) none) (cond (Nat.beq pc 18) (some (.invokevirtual 138, 21, [])) none)) (cond (Nat.blt pc 24) (cond (Nat.beq pc 21) (some (.ifCond .eq 12, 24, [33])) none) (cond (Nat.beq pc 24) (some (.aload_n 0, 25, [])) none))) (cond (Nat.blt pc 30) (cond (Nat.blt pc 27) (cond (Nat.beq pc 25) (some (.iload 4, 27, [])) none) (cond (Nat.beq pc 27) (some (.invokevirtual 138, 30, [])) none)) (cond (Nat.blt pc 33) (cond (Nat.beq pc 30) (some (.ifCond .ne 6, 33, [36])) none) (cond (Nat.blt pc 35) (cond (Nat.beq pc 33) (some (.bipush (-2), 35, [])) none) (cond (Nat.beq pc 35) (some (.ireturn, 36, [])) none)))))) (cond (Nat.blt pc 53) (cond (Nat.blt pc 43) (cond (Nat.blt pc 40) (cond (Nat.blt pc 37) (cond (Nat.beq pc 36) (some (.aload_n 0, 37, [])) none) (cond (Nat.beq pc 37) (some (.getfield 13, 40, [])) none)) (cond (Nat.blt pc 42) (cond (Nat.beq pc 40) (some (.iload 4, 42, [])) none) (cond (Nat.beq pc 42) (some (.iaload, 43, [])) none))) (cond (Nat.blt pc 48) (cond (Nat.blt pc 46) (cond (Nat.beq pc 43) (some (.ifCond .ne 6, 46, [49])) none) (cond (Nat.beq pc 46) (some (.bipush (-6), 48, [])) none)) (cond (Nat.blt pc 49) (cond (Nat.beq pc 48) (some (.ireturn, 49, [])) none) (cond (Nat.blt pc 50) (cond (Nat.beq pc 49) (some (.aload_n 0, 50, [])) none) (cond (Nat.beq pc 50) (some (.getfield 13, 53, [])) none))))) (cond (Nat.blt pc 62) (cond (Nat.blt pc 56) (cond (Nat.blt pc 55) (cond (Nat.beq pc 53) (some (.iload 4, 55, [])) none) (cond (Nat.beq pc 55) (some (.iaload, 56, [])) none)) (cond (Nat.blt pc 58) (cond (Nat.beq pc 56) (some (.istore 5, 58, [])) none) (cond (Nat.blt pc 59) (cond (Nat.beq pc 58) (some (.aload_n 0, 59, [])) none) (cond (Nat.beq pc 59) (some (.getfield 13, 62, [])) none)))) (cond (Nat.blt pc 64) (cond (Nat.blt pc 63) (cond (Nat.beq pc 62) (some (.iload_n 2, 63, [])) none) (cond (Nat.beq pc 63) (some (.iaload, 64, [])) none)) (cond (Nat.blt pc 65) (cond (Nat.beq pc 64) (some (.iconst 2, 65, [])) none) (cond (Nat.blt pc 67) (cond (Nat.beq pc 65) (some (.iload 5, 67, [])) none) (cond (Nat.beq pc 67) (some (.imul, 68, [])) none))))))) (cond (Nat.blt pc 104) (cond (Nat.blt pc 84) (cond (Nat.blt pc 76) (cond (Nat.blt pc 72) (cond (Nat.blt pc 71) (cond (Nat.beq pc 68) (some (.if_icmp .le 12, 71, [80])) none) (cond (Nat.beq pc 71) (some (.aload_n 0, 72, [])) none)) (cond (Nat.blt pc 75) (cond (Nat.beq pc 72) (some (.getfield 13, 75, [])) none) (cond (Nat.beq pc 75) (some (.iload_n 2, 76, [])) none))) (cond (Nat.blt pc 80) (cond (Nat.blt pc 77) (cond (Nat.beq pc 76) (some (.iaload, 77, [])) none) (cond (Nat.beq pc 77) (some (.goto 7, 80, [84])) none)) (cond (Nat.blt pc 81) (cond (Nat.beq pc 80) (some (.iconst 2, 81, [])) none) (cond (Nat.blt pc 83) (cond (Nat.beq pc 81) (some (.iload 5, 83, [])) none) (cond (Nat.beq pc 83) (some (.imul, 84, [])) none))))) (cond (Nat.blt pc 92) (cond (Nat.blt pc 87) (cond (Nat.blt pc 86) (cond (Nat.beq pc 84) (some (.istore 6, 86, [])) none) (cond (Nat.beq pc 86) (some (.aload_n 0, 87, [])) none)) (cond (Nat.blt pc 89) (cond (Nat.beq pc 87) (some (.iload 5, 89, [])) none) (cond (Nat.beq pc 89) (some (.invokevirtual 131, 92, [])) none))) (cond (Nat.blt pc 96) (cond (Nat.blt pc 95) (cond (Nat.beq pc 92) (some (.ifCond .eq 23, 95, [115])) none) (cond (Nat.beq pc 95) (some (.aload_n 0, 96, [])) none)) (cond (Nat.blt pc 98) (cond (Nat.beq pc 96) (some (.iload 5, 98, [])) none) (cond (Nat.blt pc 101) (cond (Nat.beq pc 98) (some (.invokevirtual 131, 101, [])) none) (cond (Nat.beq pc 101) (some (.ifCond .eq 14, 104, [115])) none)))))) (cond (Nat.blt pc 119) (cond (Nat.blt pc 109) (cond (Nat.blt pc 107) (cond (Nat.blt pc 105) (cond (Nat.beq pc 104) (some (.aload_n 0, 105, [])) none) (cond (Nat.beq pc 105) (some (.iload 6, 107, [])) none)) (cond (Nat.blt pc 108) (cond (Nat.beq pc 107) (some (.iconst 1, 108, [])) none) (cond (Nat.beq pc 108) (some (.iadd, 109, [])) none))) (cond (Nat.blt pc 115) (cond (Nat.blt pc 112) (cond (Nat.beq pc 109) (some (.invokevirtual 131, 112, [])) none) (cond (Nat.beq pc 112) (some (.ifCond .ne 6, 115, [118])) none)) (cond (Nat.blt pc 117) (cond (Nat.beq pc 115) (some (.bipush (-4), 117, [])) none) (cond (Nat.blt pc 118) (cond (Nat.beq pc 117) (some (.ireturn, 118, [])) none) (cond (Nat.beq pc 118) (some (.aload_n 0, 119, [])) none))))) (cond (Nat.blt pc 128) (cond (Nat.blt pc 121) (cond (Nat.blt pc 120) (cond (Nat.beq pc 119) (some (.iload_n 2, 120, [])) none) (cond (Nat.beq pc 120) (some (.iload_n 3, 121, [])) none)) (cond (Nat.blt pc 123) (cond (Nat.beq pc 121) (some (.iload 4, 123, [])) none) (cond (Nat.blt pc 125) (cond (Nat.beq pc 123) (some (.bipush 24, 125, [])) none) (cond (Nat.beq pc 125) (some (.invokevirtual 159, 128, [])) none)))) (cond (Nat.blt pc 131) (cond (Nat.blt pc 129) (cond (Nat.beq pc 128) (some (.aload_n 0, 129, [])) none) (cond (Nat.beq pc 129) (some (.bipush 24, 131, [])) none)) (cond (Nat.blt pc 132) (cond (Nat.beq pc 131) (some (.iload_n 1, 132, [])) none) (cond (Nat.blt pc 135) (cond (Nat.beq pc 132) (some (.invokevirtual 153, 135, [])) none) (cond (Nat.beq pc 135) (some (.ireturn, 136, [])) none))))))))
set_option maxRecDepth 100000 in
theorem kX8_powmod : okT cX8_powmod tX8_powmod 136 7 = true := by decide +kernel
def tX8_gcd : Tt := tWn 132 (fun pc => cond (Nat.blt pc 63) (cond (Nat.blt pc 33) (cond (Nat.blt pc 17) (cond (Nat.blt pc 8) (cond (Nat.blt pc 2) (cond (Nat.blt pc 1) (cond (Nat.beq pc 0) (some (.aload_n 0, 1, [])) none) (cond (Nat.beq pc 1) (some (.iload_n 1, 2, [])) none)) (cond (Nat.blt pc 5) (cond (Nat.beq pc 2) (some (.invokevirtual 138, 5, [])) none) (cond (Nat.beq pc 5) (some (.ifCond .eq 19, 8, [24])) none))) (cond (Nat.blt pc 10) (cond (Nat.blt pc 9) (cond (Nat.beq pc 8) (some (.aload_n 0, 9, [])) none) (cond (Nat.beq pc 9) (some (.iload_n 2, 10, [])) none)) (cond (Nat.blt pc 13) (cond (Nat.beq pc 10) (some (.invokevirtual 138, 13, [])) none) (cond (Nat.blt pc 16) (cond (Nat.beq pc 13) (some (.ifCond .eq 11, 16, [24])) none) (cond (Nat.beq pc 16) (some (.aload_n 0, 17, [])) none))))) (cond (Nat.blt pc 26) (cond (Nat.blt pc 21) (cond (Nat.blt pc 18) (cond (Nat.beq pc 17) (some (.iload_n 3, 18, [])) none) (cond (Nat.beq pc 18) (some (.invokevirtual 138, 21, [])) none)) (cond (Nat.blt pc 24) (cond (Nat.beq pc 21) (some (.ifCond .ne 6, 24, [27])) none) (cond (Nat.beq pc 24) (some (.bipush (-2), 26, [])) none))) (cond (Nat.blt pc 28) (cond (Nat.blt pc 27) (cond (Nat.beq pc 26) (some (.ireturn, 27, [])) none) (cond (Nat.beq pc 27) (some (.aload_n 0, 28, [])) none)) (cond (Nat.blt pc 29) (cond (Nat.beq pc 28) (some (.iconst 2, 29, [])) none) (cond (Nat.blt pc 30) (cond (Nat.beq pc 29) (some (.aload_n 0, 30, [])) none) (cond (Nat.beq pc 30) (some (.getfield 13, 33, [])) none)))))) (cond (Nat.blt pc 48) (cond (Nat.blt pc 39) (cond (Nat.blt pc 35) (cond (Nat.blt pc 34) (cond (Nat.beq pc 33) (some (.iload_n 2, 34, [])) none) (cond (Nat.beq pc 34) (some (.iaload, 35, [])) none)) (cond (Nat.blt pc 36) (cond (Nat.beq pc 35) (some (.aload_n 0, 36, [])) none) (cond (Nat.beq pc 36) (some (.getfield 13, 39, [])) none))) (cond (Nat.blt pc 41) (cond (Nat.blt pc 40) (cond (Nat.beq pc 39) (some (.iload_n 3, 40, [])) none) (cond (Nat.beq pc 40) (some (.iaload, 41, [])) none)) (cond (Nat.blt pc 44) (cond (Nat.beq pc 41) (some (.if_icmp .le 12, 44, [53])) none) (cond (Nat.blt pc 45) (cond (Nat.beq pc 44) (some (.aload_n 0, 45, [])) none) (cond (Nat.beq pc 45) (some (.getfield 13, 48, [])) none))))) (cond (Nat.blt pc 54) (cond (Nat.blt pc 50) (cond (Nat.blt pc 49) (cond (Nat.beq pc 48) (some (.iload_n 2, 49, [])) none) (cond (Nat.beq pc 49) (some (.iaload, 50, [])) none)) (cond (Nat.blt pc 53) (cond (Nat.beq pc 50) (some (.goto 9, 53, [59])) none) (cond (Nat.beq pc 53) (some (.aload_n 0, 54, [])) none))) (cond (Nat.blt pc 58) (cond (Nat.blt pc 57) (cond (Nat.beq pc 54) (some (.getfield 13, 57, [])) none) (cond (Nat.beq pc 57) (some (.iload_n 3, 58, [])) none)) (cond (Nat.blt pc 59) (cond (Nat.beq pc 58) (some (.iaload, 59, [])) none) (cond (Nat.blt pc 60) (cond (Nat.beq pc 59) (some (.imul, 60, [])) none) (cond (Nat.beq pc 60) (some (.invokevirtual 131, 63, [])) none))))))) (cond (Nat.blt pc 96) (cond (Nat.blt pc 78) (cond (Nat.blt pc 70) (cond (Nat.blt pc 68) (cond (Nat.blt pc 66) (cond (Nat.beq pc 63) (some (.ifCond .ne 6, 66, [69])) none) (cond (Nat.beq pc 66) (some (.bipush (-4), 68, [])) none)) (cond (Nat.blt pc 69) (cond (Nat.beq pc 68) (some (.ireturn, 69, [])) none) (cond (Nat.beq pc 69) (some (.aload_n 0, 70, [])) none))) (cond (Nat.blt pc 73) (cond (Nat.blt pc 71) (cond (Nat.beq pc 70) (some (.iload_n 2, 71, [])) none) (cond (Nat.beq pc 71) (some (.bipush 24, 73, [])) none)) (cond (Nat.blt pc 76) (cond (Nat.beq pc 73) (some (.invokevirtual 101, 76, [])) none) (cond (Nat.blt pc 77) (cond (Nat.beq pc 76) (some (.aload_n 0, 77, [])) none) (cond (Nat.beq pc 77) (some (.iload_n 3, 78, [])) none))))) (cond (Nat.blt pc 87) (cond (Nat.blt pc 83) (cond (Nat.blt pc 80) (cond (Nat.beq pc 78) (some (.bipush 25, 80, [])) none) (cond (Nat.beq pc 80) (some (.invokevirtual 101, 83, [])) none)) (cond (Nat.blt pc 84) (cond (Nat.beq pc 83) (some (.aload_n 0, 84, [])) none) (cond (Nat.beq pc 84) (some (.getfield 13, 87, [])) none))) (cond (Nat.blt pc 90) (cond (Nat.blt pc 89) (cond (Nat.beq pc 87) (some (.bipush 25, 89, [])) none) (cond (Nat.beq pc 89) (some (.iaload, 90, [])) none)) (cond (Nat.blt pc 93) (cond (Nat.beq pc 90) (some (.ifCond .le 34, 93, [124])) none) (cond (Nat.blt pc 94) (cond (Nat.beq pc 93) (some (.aload_n 0, 94, [])) none) (cond (Nat.beq pc 94) (some (.bipush 24, 96, [])) none)))))) (cond (Nat.blt pc 114) (cond (Nat.blt pc 105) (cond (Nat.blt pc 100) (cond (Nat.blt pc 98) (cond (Nat.beq pc 96) (some (.bipush 25, 98, [])) none) (cond (Nat.beq pc 98) (some (.bipush 31, 100, [])) none)) (cond (Nat.blt pc 102) (cond (Nat.beq pc 100) (some (.bipush 26, 102, [])) none) (cond (Nat.beq pc 102) (some (.invokevirtual 97, 105, [])) none))) (cond (Nat.blt pc 108) (cond (Nat.blt pc 106) (cond (Nat.beq pc 105) (some (.aload_n 0, 106, [])) none) (cond (Nat.beq pc 106) (some (.bipush 25, 108, [])) none)) (cond (Nat.blt pc 110) (cond (Nat.beq pc 108) (some (.bipush 24, 110, [])) none) (cond (Nat.blt pc 113) (cond (Nat.beq pc 110) (some (.invokevirtual 101, 113, [])) none) (cond (Nat.beq pc 113) (some (.aload_n 0, 114, [])) none))))) (cond (Nat.blt pc 124) (cond (Nat.blt pc 118) (cond (Nat.blt pc 116) (cond (Nat.beq pc 114) (some (.bipush 26, 116, [])) none) (cond (Nat.beq pc 116) (some (.bipush 25, 118, [])) none)) (cond (Nat.blt pc 121) (cond (Nat.beq pc 118) (some (.invokevirtual 101, 121, [])) none) (cond (Nat.beq pc 121) (some (.goto (-38), 124, [83])) none))) (cond (Nat.blt pc 127) (cond (Nat.blt pc 125) (cond (Nat.beq pc 124) (some (.aload_n 0, 125, [])) none) (cond (Nat.beq pc 125) (some (.bipush 24, 127, [])) none)) (cond (Nat.blt pc 128) (cond (Nat.beq pc 127) (some (.iload_n 1, 128, [])) none) (cond (Nat.blt pc 131) (cond (Nat.beq pc 128) (some (.invokevirtual 153, 131, [])) none) (cond (Nat.beq pc 131) (some (.ireturn, 132, [])) none))))))))
set_option maxRecDepth 100000 in
theorem kX8_gcd : okT cX8_gcd tX8_gcd 132 4 = true := by decide +kernel
def tX8_root : Tt := tWn 213 (fun pc => cond (Nat.blt pc 104) (cond (Nat.blt pc 53) (cond (Nat.blt pc 26) (cond (Nat.blt pc 13) (cond (Nat.blt pc 5) (cond (Nat.blt pc 1) (cond (Nat.beq pc 0) (some (.aload_n 0, 1, [])) none) (cond (Nat.blt pc 2) (cond (Nat.beq pc 1) (some (.iload_n 1, 2, [])) none) (cond (Nat.beq pc 2) (some (.invokevirtual 138, 5, [])) none))) (cond (Nat.blt pc 9) (cond (Nat.blt pc 8) (cond (Nat.beq pc 5) (some (.ifCond .eq 11, 8, [16])) none) (cond (Nat.beq pc 8) (some (.aload_n 0, 9, [])) none)) (cond (Nat.blt pc 10) (cond (Nat.beq pc 9) (some (.iload_n 2, 10, [])) none) (cond (Nat.beq pc 10) (some (.invokevirtual 138, 13, [])) none)))) (cond (Nat.blt pc 20) (cond (Nat.blt pc 18) (cond (Nat.blt pc 16) (cond (Nat.beq pc 13) (some (.ifCond .ne 6, 16, [19])) none) (cond (Nat.beq pc 16) (some (.bipush (-2), 18, [])) none)) (cond (Nat.blt pc 19) (cond (Nat.beq pc 18) (some (.ireturn, 19, [])) none) (cond (Nat.beq pc 19) (some (.aload_n 0, 20, [])) none))) (cond (Nat.blt pc 22) (cond (Nat.blt pc 21) (cond (Nat.beq pc 20) (some (.iconst 3, 21, [])) none) (cond (Nat.beq pc 21) (some (.aload_n 0, 22, [])) none)) (cond (Nat.blt pc 25) (cond (Nat.beq pc 22) (some (.getfield 13, 25, [])) none) (cond (Nat.beq pc 25) (some (.iload_n 2, 26, [])) none))))) (cond (Nat.blt pc 39) (cond (Nat.blt pc 30) (cond (Nat.blt pc 28) (cond (Nat.blt pc 27) (cond (Nat.beq pc 26) (some (.iaload, 27, [])) none) (cond (Nat.beq pc 27) (some (.iconst 1, 28, [])) none)) (cond (Nat.blt pc 29) (cond (Nat.beq pc 28) (some (.iadd, 29, [])) none) (cond (Nat.beq pc 29) (some (.imul, 30, [])) none))) (cond (Nat.blt pc 36) (cond (Nat.blt pc 33) (cond (Nat.beq pc 30) (some (.invokevirtual 131, 33, [])) none) (cond (Nat.beq pc 33) (some (.ifCond .ne 6, 36, [39])) none)) (cond (Nat.blt pc 38) (cond (Nat.beq pc 36) (some (.bipush (-4), 38, [])) none) (cond (Nat.beq pc 38) (some (.ireturn, 39, [])) none)))) (cond (Nat.blt pc 46) (cond (Nat.blt pc 41) (cond (Nat.blt pc 40) (cond (Nat.beq pc 39) (some (.aload_n 0, 40, [])) none) (cond (Nat.beq pc 40) (some (.iload_n 2, 41, [])) none)) (cond (Nat.blt pc 43) (cond (Nat.beq pc 41) (some (.bipush 25, 43, [])) none) (cond (Nat.beq pc 43) (some (.invokevirtual 101, 46, [])) none))) (cond (Nat.blt pc 50) (cond (Nat.blt pc 47) (cond (Nat.beq pc 46) (some (.aload_n 0, 47, [])) none) (cond (Nat.beq pc 47) (some (.getfield 13, 50, [])) none)) (cond (Nat.blt pc 52) (cond (Nat.beq pc 50) (some (.bipush 25, 52, [])) none) (cond (Nat.beq pc 52) (some (.iaload, 53, [])) none)))))) (cond (Nat.blt pc 76) (cond (Nat.blt pc 61) (cond (Nat.blt pc 56) (cond (Nat.blt pc 54) (cond (Nat.beq pc 53) (some (.iconst 1, 54, [])) none) (cond (Nat.blt pc 55) (cond (Nat.beq pc 54) (some (.iadd, 55, [])) none) (cond (Nat.beq pc 55) (some (.iconst 2, 56, [])) none))) (cond (Nat.blt pc 58) (cond (Nat.blt pc 57) (cond (Nat.beq pc 56) (some (.idiv, 57, [])) none) (cond (Nat.beq pc 57) (some (.istore_n 3, 58, [])) none)) (cond (Nat.blt pc 59) (cond (Nat.beq pc 58) (some (.iconst 0, 59, [])) none) (cond (Nat.beq pc 59) (some (.istore 4, 61, [])) none)))) (cond (Nat.blt pc 68) (cond (Nat.blt pc 64) (cond (Nat.blt pc 63) (cond (Nat.beq pc 61) (some (.iload 4, 63, [])) none) (cond (Nat.beq pc 63) (some (.iload_n 3, 64, [])) none)) (cond (Nat.blt pc 67) (cond (Nat.beq pc 64) (some (.if_icmp .ge 18, 67, [82])) none) (cond (Nat.beq pc 67) (some (.aload_n 0, 68, [])) none))) (cond (Nat.blt pc 72) (cond (Nat.blt pc 70) (cond (Nat.beq pc 68) (some (.bipush 24, 70, [])) none) (cond (Nat.beq pc 70) (some (.iload 4, 72, [])) none)) (cond (Nat.blt pc 73) (cond (Nat.beq pc 72) (some (.iconst 0, 73, [])) none) (cond (Nat.beq pc 73) (some (.invokevirtual 80, 76, [])) none))))) (cond (Nat.blt pc 92) (cond (Nat.blt pc 86) (cond (Nat.blt pc 82) (cond (Nat.blt pc 79) (cond (Nat.beq pc 76) (some (.iinc 4 1, 79, [])) none) (cond (Nat.beq pc 79) (some (.goto (-18), 82, [61])) none)) (cond (Nat.blt pc 83) (cond (Nat.beq pc 82) (some (.aload_n 0, 83, [])) none) (cond (Nat.beq pc 83) (some (.getfield 13, 86, [])) none))) (cond (Nat.blt pc 89) (cond (Nat.blt pc 88) (cond (Nat.beq pc 86) (some (.bipush 24, 88, [])) none) (cond (Nat.beq pc 88) (some (.iload_n 3, 89, [])) none)) (cond (Nat.blt pc 90) (cond (Nat.beq pc 89) (some (.iastore, 90, [])) none) (cond (Nat.beq pc 90) (some (.bipush 15, 92, [])) none)))) (cond (Nat.blt pc 96) (cond (Nat.blt pc 94) (cond (Nat.blt pc 93) (cond (Nat.beq pc 92) (some (.iload_n 3, 93, [])) none) (cond (Nat.beq pc 93) (some (.imul, 94, [])) none)) (cond (Nat.blt pc 95) (cond (Nat.beq pc 94) (some (.iconst 1, 95, [])) none) (cond (Nat.beq pc 95) (some (.isub, 96, [])) none))) (cond (Nat.blt pc 100) (cond (Nat.blt pc 98) (cond (Nat.beq pc 96) (some (.istore 4, 98, [])) none) (cond (Nat.beq pc 98) (some (.iload 4, 100, [])) none)) (cond (Nat.blt pc 103) (cond (Nat.beq pc 100) (some (.ifCond .lt 98, 103, [198])) none) (cond (Nat.beq pc 103) (some (.aload_n 0, 104, [])) none))))))) (cond (Nat.blt pc 160) (cond (Nat.blt pc 130) (cond (Nat.blt pc 118) (cond (Nat.blt pc 110) (cond (Nat.blt pc 106) (cond (Nat.beq pc 104) (some (.bipush 24, 106, [])) none) (cond (Nat.blt pc 108) (cond (Nat.beq pc 106) (some (.iload 4, 108, [])) none) (cond (Nat.beq pc 108) (some (.bipush 15, 110, [])) none))) (cond (Nat.blt pc 112) (cond (Nat.blt pc 111) (cond (Nat.beq pc 110) (some (.idiv, 111, [])) none) (cond (Nat.beq pc 111) (some (.aload_n 0, 112, [])) none)) (cond (Nat.blt pc 115) (cond (Nat.beq pc 112) (some (.getfield 7, 115, [])) none) (cond (Nat.beq pc 115) (some (.sipush 10080, 118, [])) none)))) (cond (Nat.blt pc 124) (cond (Nat.blt pc 122) (cond (Nat.blt pc 120) (cond (Nat.beq pc 118) (some (.iload 4, 120, [])) none) (cond (Nat.beq pc 120) (some (.bipush 15, 122, [])) none)) (cond (Nat.blt pc 123) (cond (Nat.beq pc 122) (some (.idiv, 123, [])) none) (cond (Nat.beq pc 123) (some (.iadd, 124, [])) none))) (cond (Nat.blt pc 126) (cond (Nat.blt pc 125) (cond (Nat.beq pc 124) (some (.iaload, 125, [])) none) (cond (Nat.beq pc 125) (some (.iconst 1, 126, [])) none)) (cond (Nat.blt pc 128) (cond (Nat.beq pc 126) (some (.iload 4, 128, [])) none) (cond (Nat.beq pc 128) (some (.bipush 15, 130, [])) none))))) (cond (Nat.blt pc 143) (cond (Nat.blt pc 136) (cond (Nat.blt pc 132) (cond (Nat.blt pc 131) (cond (Nat.beq pc 130) (some (.irem, 131, [])) none) (cond (Nat.beq pc 131) (some (.ishl, 132, [])) none)) (cond (Nat.blt pc 133) (cond (Nat.beq pc 132) (some (.ior, 133, [])) none) (cond (Nat.beq pc 133) (some (.invokevirtual 80, 136, [])) none))) (cond (Nat.blt pc 139) (cond (Nat.blt pc 137) (cond (Nat.beq pc 136) (some (.aload_n 0, 137, [])) none) (cond (Nat.beq pc 137) (some (.bipush 24, 139, [])) none)) (cond (Nat.blt pc 141) (cond (Nat.beq pc 139) (some (.bipush 24, 141, [])) none) (cond (Nat.beq pc 141) (some (.bipush 26, 143, [])) none)))) (cond (Nat.blt pc 151) (cond (Nat.blt pc 147) (cond (Nat.blt pc 146) (cond (Nat.beq pc 143) (some (.invokevirtual 108, 146, [])) none) (cond (Nat.beq pc 146) (some (.aload_n 0, 147, [])) none)) (cond (Nat.blt pc 149) (cond (Nat.beq pc 147) (some (.bipush 26, 149, [])) none) (cond (Nat.beq pc 149) (some (.bipush 25, 151, [])) none))) (cond (Nat.blt pc 157) (cond (Nat.blt pc 154) (cond (Nat.beq pc 151) (some (.invokevirtual 91, 154, [])) none) (cond (Nat.beq pc 154) (some (.ifCond .le 38, 157, [192])) none)) (cond (Nat.blt pc 158) (cond (Nat.beq pc 157) (some (.aload_n 0, 158, [])) none) (cond (Nat.beq pc 158) (some (.bipush 24, 160, [])) none)))))) (cond (Nat.blt pc 185) (cond (Nat.blt pc 174) (cond (Nat.blt pc 165) (cond (Nat.blt pc 162) (cond (Nat.beq pc 160) (some (.iload 4, 162, [])) none) (cond (Nat.blt pc 164) (cond (Nat.beq pc 162) (some (.bipush 15, 164, [])) none) (cond (Nat.beq pc 164) (some (.idiv, 165, [])) none))) (cond (Nat.blt pc 169) (cond (Nat.blt pc 166) (cond (Nat.beq pc 165) (some (.aload_n 0, 166, [])) none) (cond (Nat.beq pc 166) (some (.getfield 7, 169, [])) none)) (cond (Nat.blt pc 172) (cond (Nat.beq pc 169) (some (.sipush 10080, 172, [])) none) (cond (Nat.beq pc 172) (some (.iload 4, 174, [])) none)))) (cond (Nat.blt pc 179) (cond (Nat.blt pc 177) (cond (Nat.blt pc 176) (cond (Nat.beq pc 174) (some (.bipush 15, 176, [])) none) (cond (Nat.beq pc 176) (some (.idiv, 177, [])) none)) (cond (Nat.blt pc 178) (cond (Nat.beq pc 177) (some (.iadd, 178, [])) none) (cond (Nat.beq pc 178) (some (.iaload, 179, [])) none))) (cond (Nat.blt pc 182) (cond (Nat.blt pc 180) (cond (Nat.beq pc 179) (some (.iconst 1, 180, [])) none) (cond (Nat.beq pc 180) (some (.iload 4, 182, [])) none)) (cond (Nat.blt pc 184) (cond (Nat.beq pc 182) (some (.bipush 15, 184, [])) none) (cond (Nat.beq pc 184) (some (.irem, 185, [])) none))))) (cond (Nat.blt pc 199) (cond (Nat.blt pc 189) (cond (Nat.blt pc 187) (cond (Nat.blt pc 186) (cond (Nat.beq pc 185) (some (.ishl, 186, [])) none) (cond (Nat.beq pc 186) (some (.iconst (-1), 187, [])) none)) (cond (Nat.blt pc 188) (cond (Nat.beq pc 187) (some (.ixor, 188, [])) none) (cond (Nat.beq pc 188) (some (.iand, 189, [])) none))) (cond (Nat.blt pc 195) (cond (Nat.blt pc 192) (cond (Nat.beq pc 189) (some (.invokevirtual 80, 192, [])) none) (cond (Nat.beq pc 192) (some (.iinc 4 (-1), 195, [])) none)) (cond (Nat.blt pc 198) (cond (Nat.beq pc 195) (some (.goto (-97), 198, [98])) none) (cond (Nat.beq pc 198) (some (.aload_n 0, 199, [])) none)))) (cond (Nat.blt pc 206) (cond (Nat.blt pc 202) (cond (Nat.blt pc 201) (cond (Nat.beq pc 199) (some (.bipush 24, 201, [])) none) (cond (Nat.beq pc 201) (some (.iload_n 3, 202, [])) none)) (cond (Nat.blt pc 205) (cond (Nat.beq pc 202) (some (.invokevirtual 85, 205, [])) none) (cond (Nat.beq pc 205) (some (.aload_n 0, 206, [])) none))) (cond (Nat.blt pc 209) (cond (Nat.blt pc 208) (cond (Nat.beq pc 206) (some (.bipush 24, 208, [])) none) (cond (Nat.beq pc 208) (some (.iload_n 1, 209, [])) none)) (cond (Nat.blt pc 212) (cond (Nat.beq pc 209) (some (.invokevirtual 153, 212, [])) none) (cond (Nat.beq pc 212) (some (.ireturn, 213, [])) none))))))))
set_option maxRecDepth 100000 in
theorem kX8_root : okT cX8_root tX8_root 213 5 = true := by decide +kernel
def tX8_shifted : Tt := tWn 222 (fun pc => cond (Nat.blt pc 113) (cond (Nat.blt pc 59) (cond (Nat.blt pc 27) (cond (Nat.blt pc 14) (cond (Nat.blt pc 6) (cond (Nat.blt pc 4) (cond (Nat.blt pc 1) (cond (Nat.beq pc 0) (some (.iload_n 2, 1, [])) none) (cond (Nat.beq pc 1) (some (.ifCond .ge 8, 4, [9])) none)) (cond (Nat.blt pc 5) (cond (Nat.beq pc 4) (some (.iload_n 2, 5, [])) none) (cond (Nat.beq pc 5) (some (.ineg, 6, [])) none))) (cond (Nat.blt pc 10) (cond (Nat.blt pc 9) (cond (Nat.beq pc 6) (some (.goto 4, 9, [10])) none) (cond (Nat.beq pc 9) (some (.iload_n 2, 10, [])) none)) (cond (Nat.blt pc 12) (cond (Nat.beq pc 10) (some (.istore 4, 12, [])) none) (cond (Nat.beq pc 12) (some (.iload 4, 14, [])) none)))) (cond (Nat.blt pc 21) (cond (Nat.blt pc 17) (cond (Nat.blt pc 16) (cond (Nat.beq pc 14) (some (.bipush 15, 16, [])) none) (cond (Nat.beq pc 16) (some (.idiv, 17, [])) none)) (cond (Nat.blt pc 19) (cond (Nat.beq pc 17) (some (.istore 5, 19, [])) none) (cond (Nat.beq pc 19) (some (.iload 4, 21, [])) none))) (cond (Nat.blt pc 24) (cond (Nat.blt pc 23) (cond (Nat.beq pc 21) (some (.bipush 15, 23, [])) none) (cond (Nat.beq pc 23) (some (.irem, 24, [])) none)) (cond (Nat.blt pc 26) (cond (Nat.beq pc 24) (some (.istore 6, 26, [])) none) (cond (Nat.beq pc 26) (some (.iload_n 2, 27, [])) none))))) (cond (Nat.blt pc 42) (cond (Nat.blt pc 35) (cond (Nat.blt pc 31) (cond (Nat.blt pc 30) (cond (Nat.beq pc 27) (some (.ifCond .lt 105, 30, [132])) none) (cond (Nat.beq pc 30) (some (.iconst 0, 31, [])) none)) (cond (Nat.blt pc 33) (cond (Nat.beq pc 31) (some (.istore 7, 33, [])) none) (cond (Nat.beq pc 33) (some (.iload 7, 35, [])) none))) (cond (Nat.blt pc 40) (cond (Nat.blt pc 37) (cond (Nat.beq pc 35) (some (.iload 5, 37, [])) none) (cond (Nat.beq pc 37) (some (.if_icmp .ge 17, 40, [54])) none)) (cond (Nat.blt pc 41) (cond (Nat.beq pc 40) (some (.aload_n 0, 41, [])) none) (cond (Nat.beq pc 41) (some (.iload_n 3, 42, [])) none)))) (cond (Nat.blt pc 51) (cond (Nat.blt pc 45) (cond (Nat.blt pc 44) (cond (Nat.beq pc 42) (some (.iload 7, 44, [])) none) (cond (Nat.beq pc 44) (some (.iconst 0, 45, [])) none)) (cond (Nat.blt pc 48) (cond (Nat.beq pc 45) (some (.invokevirtual 80, 48, [])) none) (cond (Nat.beq pc 48) (some (.iinc 7 1, 51, [])) none))) (cond (Nat.blt pc 55) (cond (Nat.blt pc 54) (cond (Nat.beq pc 51) (some (.goto (-18), 54, [33])) none) (cond (Nat.beq pc 54) (some (.iconst 0, 55, [])) none)) (cond (Nat.blt pc 57) (cond (Nat.beq pc 55) (some (.istore 7, 57, [])) none) (cond (Nat.beq pc 57) (some (.iload 7, 59, [])) none)))))) (cond (Nat.blt pc 85) (cond (Nat.blt pc 72) (cond (Nat.blt pc 65) (cond (Nat.blt pc 63) (cond (Nat.blt pc 60) (cond (Nat.beq pc 59) (some (.aload_n 0, 60, [])) none) (cond (Nat.beq pc 60) (some (.getfield 13, 63, [])) none)) (cond (Nat.blt pc 64) (cond (Nat.beq pc 63) (some (.iload_n 1, 64, [])) none) (cond (Nat.beq pc 64) (some (.iaload, 65, [])) none))) (cond (Nat.blt pc 69) (cond (Nat.blt pc 68) (cond (Nat.beq pc 65) (some (.if_icmp .gt 48, 68, [113])) none) (cond (Nat.beq pc 68) (some (.aload_n 0, 69, [])) none)) (cond (Nat.blt pc 70) (cond (Nat.beq pc 69) (some (.iload_n 3, 70, [])) none) (cond (Nat.beq pc 70) (some (.iload 5, 72, [])) none)))) (cond (Nat.blt pc 77) (cond (Nat.blt pc 75) (cond (Nat.blt pc 74) (cond (Nat.beq pc 72) (some (.iload 7, 74, [])) none) (cond (Nat.beq pc 74) (some (.iadd, 75, [])) none)) (cond (Nat.blt pc 76) (cond (Nat.beq pc 75) (some (.aload_n 0, 76, [])) none) (cond (Nat.beq pc 76) (some (.iload_n 1, 77, [])) none))) (cond (Nat.blt pc 82) (cond (Nat.blt pc 79) (cond (Nat.beq pc 77) (some (.iload 7, 79, [])) none) (cond (Nat.beq pc 79) (some (.invokevirtual 76, 82, [])) none)) (cond (Nat.blt pc 84) (cond (Nat.beq pc 82) (some (.iload 6, 84, [])) none) (cond (Nat.beq pc 84) (some (.ishl, 85, [])) none))))) (cond (Nat.blt pc 98) (cond (Nat.blt pc 90) (cond (Nat.blt pc 87) (cond (Nat.blt pc 86) (cond (Nat.beq pc 85) (some (.aload_n 0, 86, [])) none) (cond (Nat.beq pc 86) (some (.iload_n 1, 87, [])) none)) (cond (Nat.blt pc 89) (cond (Nat.beq pc 87) (some (.iload 7, 89, [])) none) (cond (Nat.beq pc 89) (some (.iconst 1, 90, [])) none))) (cond (Nat.blt pc 94) (cond (Nat.blt pc 91) (cond (Nat.beq pc 90) (some (.isub, 91, [])) none) (cond (Nat.beq pc 91) (some (.invokevirtual 76, 94, [])) none)) (cond (Nat.blt pc 96) (cond (Nat.beq pc 94) (some (.bipush 15, 96, [])) none) (cond (Nat.beq pc 96) (some (.iload 6, 98, [])) none)))) (cond (Nat.blt pc 103) (cond (Nat.blt pc 100) (cond (Nat.blt pc 99) (cond (Nat.beq pc 98) (some (.isub, 99, [])) none) (cond (Nat.beq pc 99) (some (.ishr, 100, [])) none)) (cond (Nat.blt pc 101) (cond (Nat.beq pc 100) (some (.ior, 101, [])) none) (cond (Nat.beq pc 101) (some (.ldc 84, 103, [])) none))) (cond (Nat.blt pc 107) (cond (Nat.blt pc 104) (cond (Nat.beq pc 103) (some (.irem, 104, [])) none) (cond (Nat.beq pc 104) (some (.invokevirtual 80, 107, [])) none)) (cond (Nat.blt pc 110) (cond (Nat.beq pc 107) (some (.iinc 7 1, 110, [])) none) (cond (Nat.beq pc 110) (some (.goto (-53), 113, [57])) none))))))) (cond (Nat.blt pc 168) (cond (Nat.blt pc 138) (cond (Nat.blt pc 124) (cond (Nat.blt pc 118) (cond (Nat.blt pc 115) (cond (Nat.blt pc 114) (cond (Nat.beq pc 113) (some (.aload_n 0, 114, [])) none) (cond (Nat.beq pc 114) (some (.iload_n 3, 115, [])) none)) (cond (Nat.blt pc 117) (cond (Nat.beq pc 115) (some (.iload 5, 117, [])) none) (cond (Nat.beq pc 117) (some (.aload_n 0, 118, [])) none))) (cond (Nat.blt pc 122) (cond (Nat.blt pc 121) (cond (Nat.beq pc 118) (some (.getfield 13, 121, [])) none) (cond (Nat.beq pc 121) (some (.iload_n 1, 122, [])) none)) (cond (Nat.blt pc 123) (cond (Nat.beq pc 122) (some (.iaload, 123, [])) none) (cond (Nat.beq pc 123) (some (.iadd, 124, [])) none)))) (cond (Nat.blt pc 132) (cond (Nat.blt pc 126) (cond (Nat.blt pc 125) (cond (Nat.beq pc 124) (some (.iconst 1, 125, [])) none) (cond (Nat.beq pc 125) (some (.iadd, 126, [])) none)) (cond (Nat.blt pc 129) (cond (Nat.beq pc 126) (some (.invokevirtual 85, 129, [])) none) (cond (Nat.beq pc 129) (some (.goto 92, 132, [221])) none))) (cond (Nat.blt pc 136) (cond (Nat.blt pc 133) (cond (Nat.beq pc 132) (some (.aload_n 0, 133, [])) none) (cond (Nat.beq pc 133) (some (.getfield 13, 136, [])) none)) (cond (Nat.blt pc 137) (cond (Nat.beq pc 136) (some (.iload_n 1, 137, [])) none) (cond (Nat.beq pc 137) (some (.iaload, 138, [])) none))))) (cond (Nat.blt pc 152) (cond (Nat.blt pc 147) (cond (Nat.blt pc 143) (cond (Nat.blt pc 140) (cond (Nat.beq pc 138) (some (.iload 5, 140, [])) none) (cond (Nat.beq pc 140) (some (.if_icmp .le 15, 143, [155])) none)) (cond (Nat.blt pc 144) (cond (Nat.beq pc 143) (some (.aload_n 0, 144, [])) none) (cond (Nat.beq pc 144) (some (.getfield 13, 147, [])) none))) (cond (Nat.blt pc 149) (cond (Nat.blt pc 148) (cond (Nat.beq pc 147) (some (.iload_n 1, 148, [])) none) (cond (Nat.beq pc 148) (some (.iaload, 149, [])) none)) (cond (Nat.blt pc 151) (cond (Nat.beq pc 149) (some (.iload 5, 151, [])) none) (cond (Nat.beq pc 151) (some (.isub, 152, [])) none)))) (cond (Nat.blt pc 159) (cond (Nat.blt pc 156) (cond (Nat.blt pc 155) (cond (Nat.beq pc 152) (some (.goto 4, 155, [156])) none) (cond (Nat.beq pc 155) (some (.iconst 0, 156, [])) none)) (cond (Nat.blt pc 158) (cond (Nat.beq pc 156) (some (.istore 7, 158, [])) none) (cond (Nat.beq pc 158) (some (.iconst 0, 159, [])) none))) (cond (Nat.blt pc 163) (cond (Nat.blt pc 161) (cond (Nat.beq pc 159) (some (.istore 8, 161, [])) none) (cond (Nat.beq pc 161) (some (.iload 8, 163, [])) none)) (cond (Nat.blt pc 165) (cond (Nat.beq pc 163) (some (.iload 7, 165, [])) none) (cond (Nat.beq pc 165) (some (.if_icmp .ge 49, 168, [214])) none)))))) (cond (Nat.blt pc 191) (cond (Nat.blt pc 179) (cond (Nat.blt pc 173) (cond (Nat.blt pc 170) (cond (Nat.blt pc 169) (cond (Nat.beq pc 168) (some (.aload_n 0, 169, [])) none) (cond (Nat.beq pc 169) (some (.iload_n 3, 170, [])) none)) (cond (Nat.blt pc 172) (cond (Nat.beq pc 170) (some (.iload 8, 172, [])) none) (cond (Nat.beq pc 172) (some (.aload_n 0, 173, [])) none))) (cond (Nat.blt pc 176) (cond (Nat.blt pc 174) (cond (Nat.beq pc 173) (some (.iload_n 1, 174, [])) none) (cond (Nat.beq pc 174) (some (.iload 5, 176, [])) none)) (cond (Nat.blt pc 178) (cond (Nat.beq pc 176) (some (.iload 8, 178, [])) none) (cond (Nat.beq pc 178) (some (.iadd, 179, [])) none)))) (cond (Nat.blt pc 186) (cond (Nat.blt pc 183) (cond (Nat.blt pc 182) (cond (Nat.beq pc 179) (some (.invokevirtual 76, 182, [])) none) (cond (Nat.beq pc 182) (some (.aload_n 0, 183, [])) none)) (cond (Nat.blt pc 184) (cond (Nat.beq pc 183) (some (.iload_n 1, 184, [])) none) (cond (Nat.beq pc 184) (some (.iload 5, 186, [])) none))) (cond (Nat.blt pc 189) (cond (Nat.blt pc 188) (cond (Nat.beq pc 186) (some (.iload 8, 188, [])) none) (cond (Nat.beq pc 188) (some (.iadd, 189, [])) none)) (cond (Nat.blt pc 190) (cond (Nat.beq pc 189) (some (.iconst 1, 190, [])) none) (cond (Nat.beq pc 190) (some (.iadd, 191, [])) none))))) (cond (Nat.blt pc 205) (cond (Nat.blt pc 198) (cond (Nat.blt pc 196) (cond (Nat.blt pc 194) (cond (Nat.beq pc 191) (some (.invokevirtual 76, 194, [])) none) (cond (Nat.beq pc 194) (some (.bipush 15, 196, [])) none)) (cond (Nat.blt pc 197) (cond (Nat.beq pc 196) (some (.ishl, 197, [])) none) (cond (Nat.beq pc 197) (some (.ior, 198, [])) none))) (cond (Nat.blt pc 201) (cond (Nat.blt pc 200) (cond (Nat.beq pc 198) (some (.iload 6, 200, [])) none) (cond (Nat.beq pc 200) (some (.ishr, 201, [])) none)) (cond (Nat.blt pc 204) (cond (Nat.beq pc 201) (some (.sipush 32767, 204, [])) none) (cond (Nat.beq pc 204) (some (.iand, 205, [])) none)))) (cond (Nat.blt pc 215) (cond (Nat.blt pc 211) (cond (Nat.blt pc 208) (cond (Nat.beq pc 205) (some (.invokevirtual 80, 208, [])) none) (cond (Nat.beq pc 208) (some (.iinc 8 1, 211, [])) none)) (cond (Nat.blt pc 214) (cond (Nat.beq pc 211) (some (.goto (-50), 214, [161])) none) (cond (Nat.beq pc 214) (some (.aload_n 0, 215, [])) none))) (cond (Nat.blt pc 218) (cond (Nat.blt pc 216) (cond (Nat.beq pc 215) (some (.iload_n 3, 216, [])) none) (cond (Nat.beq pc 216) (some (.iload 7, 218, [])) none)) (cond (Nat.blt pc 221) (cond (Nat.beq pc 218) (some (.invokevirtual 85, 221, [])) none) (cond (Nat.beq pc 221) (some (.return_, 222, [])) none))))))))
set_option maxRecDepth 100000 in
theorem kX8_shifted : okT cX8_shifted tX8_shifted 222 9 = true := by decide +kernel
def tX8_shift : Tt := tWn 68 (fun pc => cond (Nat.blt pc 35) (cond (Nat.blt pc 16) (cond (Nat.blt pc 8) (cond (Nat.blt pc 2) (cond (Nat.blt pc 1) (cond (Nat.beq pc 0) (some (.aload_n 0, 1, [])) none) (cond (Nat.beq pc 1) (some (.iload_n 1, 2, [])) none)) (cond (Nat.blt pc 5) (cond (Nat.beq pc 2) (some (.invokevirtual 138, 5, [])) none) (cond (Nat.beq pc 5) (some (.ifCond .eq 11, 8, [16])) none))) (cond (Nat.blt pc 10) (cond (Nat.blt pc 9) (cond (Nat.beq pc 8) (some (.aload_n 0, 9, [])) none) (cond (Nat.beq pc 9) (some (.iload_n 2, 10, [])) none)) (cond (Nat.blt pc 13) (cond (Nat.beq pc 10) (some (.invokevirtual 138, 13, [])) none) (cond (Nat.beq pc 13) (some (.ifCond .ne 6, 16, [19])) none)))) (cond (Nat.blt pc 23) (cond (Nat.blt pc 19) (cond (Nat.blt pc 18) (cond (Nat.beq pc 16) (some (.bipush (-2), 18, [])) none) (cond (Nat.beq pc 18) (some (.ireturn, 19, [])) none)) (cond (Nat.blt pc 20) (cond (Nat.beq pc 19) (some (.iload_n 3, 20, [])) none) (cond (Nat.beq pc 20) (some (.sipush (-960), 23, [])) none))) (cond (Nat.blt pc 29) (cond (Nat.blt pc 26) (cond (Nat.beq pc 23) (some (.sipush 960, 26, [])) none) (cond (Nat.beq pc 26) (some (.invokestatic 127, 29, [])) none)) (cond (Nat.blt pc 32) (cond (Nat.beq pc 29) (some (.ifCond .ne 6, 32, [35])) none) (cond (Nat.blt pc 34) (cond (Nat.beq pc 32) (some (.bipush (-3), 34, [])) none) (cond (Nat.beq pc 34) (some (.ireturn, 35, [])) none)))))) (cond (Nat.blt pc 50) (cond (Nat.blt pc 40) (cond (Nat.blt pc 37) (cond (Nat.blt pc 36) (cond (Nat.beq pc 35) (some (.aload_n 0, 36, [])) none) (cond (Nat.beq pc 36) (some (.iload_n 2, 37, [])) none)) (cond (Nat.blt pc 38) (cond (Nat.beq pc 37) (some (.iload_n 3, 38, [])) none) (cond (Nat.beq pc 38) (some (.bipush 24, 40, [])) none))) (cond (Nat.blt pc 44) (cond (Nat.blt pc 43) (cond (Nat.beq pc 40) (some (.invokevirtual 162, 43, [])) none) (cond (Nat.beq pc 43) (some (.aload_n 0, 44, [])) none)) (cond (Nat.blt pc 47) (cond (Nat.beq pc 44) (some (.getfield 13, 47, [])) none) (cond (Nat.blt pc 49) (cond (Nat.beq pc 47) (some (.bipush 24, 49, [])) none) (cond (Nat.beq pc 49) (some (.iaload, 50, [])) none))))) (cond (Nat.blt pc 60) (cond (Nat.blt pc 55) (cond (Nat.blt pc 52) (cond (Nat.beq pc 50) (some (.bipush 64, 52, [])) none) (cond (Nat.beq pc 52) (some (.if_icmp .le 8, 55, [60])) none)) (cond (Nat.blt pc 57) (cond (Nat.beq pc 55) (some (.bipush (-8), 57, [])) none) (cond (Nat.beq pc 57) (some (.goto 10, 60, [67])) none))) (cond (Nat.blt pc 63) (cond (Nat.blt pc 61) (cond (Nat.beq pc 60) (some (.aload_n 0, 61, [])) none) (cond (Nat.beq pc 61) (some (.bipush 24, 63, [])) none)) (cond (Nat.blt pc 64) (cond (Nat.beq pc 63) (some (.iload_n 1, 64, [])) none) (cond (Nat.blt pc 67) (cond (Nat.beq pc 64) (some (.invokevirtual 153, 67, [])) none) (cond (Nat.beq pc 67) (some (.ireturn, 68, [])) none)))))))
set_option maxRecDepth 100000 in
theorem kX8_shift : okT cX8_shift tX8_shift 68 4 = true := by decide +kernel
def tX8_compare : Tt := tWn 30 (fun pc => cond (Nat.blt pc 16) (cond (Nat.blt pc 8) (cond (Nat.blt pc 2) (cond (Nat.blt pc 1) (cond (Nat.beq pc 0) (some (.aload_n 0, 1, [])) none) (cond (Nat.beq pc 1) (some (.iload_n 1, 2, [])) none)) (cond (Nat.blt pc 5) (cond (Nat.beq pc 2) (some (.invokevirtual 138, 5, [])) none) (cond (Nat.beq pc 5) (some (.ifCond .eq 11, 8, [16])) none))) (cond (Nat.blt pc 10) (cond (Nat.blt pc 9) (cond (Nat.beq pc 8) (some (.aload_n 0, 9, [])) none) (cond (Nat.beq pc 9) (some (.iload_n 2, 10, [])) none)) (cond (Nat.blt pc 13) (cond (Nat.beq pc 10) (some (.invokevirtual 138, 13, [])) none) (cond (Nat.beq pc 13) (some (.ifCond .ne 8, 16, [21])) none)))) (cond (Nat.blt pc 23) (cond (Nat.blt pc 21) (cond (Nat.blt pc 18) (cond (Nat.beq pc 16) (some (.bipush (-2), 18, [])) none) (cond (Nat.beq pc 18) (some (.goto 11, 21, [29])) none)) (cond (Nat.blt pc 22) (cond (Nat.beq pc 21) (some (.iconst 1, 22, [])) none) (cond (Nat.beq pc 22) (some (.aload_n 0, 23, [])) none))) (cond (Nat.blt pc 25) (cond (Nat.blt pc 24) (cond (Nat.beq pc 23) (some (.iload_n 1, 24, [])) none) (cond (Nat.beq pc 24) (some (.iload_n 2, 25, [])) none)) (cond (Nat.blt pc 28) (cond (Nat.beq pc 25) (some (.invokevirtual 91, 28, [])) none) (cond (Nat.blt pc 29) (cond (Nat.beq pc 28) (some (.iadd, 29, [])) none) (cond (Nat.beq pc 29) (some (.ireturn, 30, [])) none))))))
set_option maxRecDepth 100000 in
theorem kX8_compare : okT cX8_compare tX8_compare 30 3 = true := by decide +kernel
def tX8_jacobi : Tt := tWn 240 (fun pc => cond (Nat.blt pc 118) (cond (Nat.blt pc 61) (cond (Nat.blt pc 30) (cond (Nat.blt pc 16) (cond (Nat.blt pc 8) (cond (Nat.blt pc 2) (cond (Nat.blt pc 1) (cond (Nat.beq pc 0) (some (.aload_n 0, 1, [])) none) (cond (Nat.beq pc 1) (some (.iload_n 1, 2, [])) none)) (cond (Nat.blt pc 5) (cond (Nat.beq pc 2) (some (.invokevirtual 138, 5, [])) none) (cond (Nat.beq pc 5) (some (.ifCond .eq 11, 8, [16])) none))) (cond (Nat.blt pc 10) (cond (Nat.blt pc 9) (cond (Nat.beq pc 8) (some (.aload_n 0, 9, [])) none) (cond (Nat.beq pc 9) (some (.iload_n 2, 10, [])) none)) (cond (Nat.blt pc 13) (cond (Nat.beq pc 10) (some (.invokevirtual 138, 13, [])) none) (cond (Nat.beq pc 13) (some (.ifCond .ne 6, 16, [19])) none)))) (cond (Nat.blt pc 21) (cond (Nat.blt pc 19) (cond (Nat.blt pc 18) (cond (Nat.beq pc 16) (some (.bipush (-2), 18, [])) none) (cond (Nat.beq pc 18) (some (.ireturn, 19, [])) none)) (cond (Nat.blt pc 20) (cond (Nat.beq pc 19) (some (.aload_n 0, 20, [])) none) (cond (Nat.beq pc 20) (some (.iload_n 2, 21, [])) none))) (cond (Nat.blt pc 25) (cond (Nat.blt pc 22) (cond (Nat.beq pc 21) (some (.iconst 0, 22, [])) none) (cond (Nat.beq pc 22) (some (.invokevirtual 76, 25, [])) none)) (cond (Nat.blt pc 26) (cond (Nat.beq pc 25) (some (.iconst 2, 26, [])) none) (cond (Nat.blt pc 27) (cond (Nat.beq pc 26) (some (.irem, 27, [])) none) (cond (Nat.beq pc 27) (some (.ifCond .ne 6, 30, [33])) none)))))) (cond (Nat.blt pc 43) (cond (Nat.blt pc 35) (cond (Nat.blt pc 33) (cond (Nat.blt pc 32) (cond (Nat.beq pc 30) (some (.bipush (-3), 32, [])) none) (cond (Nat.beq pc 32) (some (.ireturn, 33, [])) none)) (cond (Nat.blt pc 34) (cond (Nat.beq pc 33) (some (.aload_n 0, 34, [])) none) (cond (Nat.beq pc 34) (some (.aload_n 0, 35, [])) none))) (cond (Nat.blt pc 39) (cond (Nat.blt pc 38) (cond (Nat.beq pc 35) (some (.getfield 13, 38, [])) none) (cond (Nat.beq pc 38) (some (.iload_n 1, 39, [])) none)) (cond (Nat.blt pc 40) (cond (Nat.beq pc 39) (some (.iaload, 40, [])) none) (cond (Nat.beq pc 40) (some (.invokevirtual 131, 43, [])) none)))) (cond (Nat.blt pc 51) (cond (Nat.blt pc 47) (cond (Nat.blt pc 46) (cond (Nat.beq pc 43) (some (.ifCond .eq 16, 46, [59])) none) (cond (Nat.beq pc 46) (some (.aload_n 0, 47, [])) none)) (cond (Nat.blt pc 48) (cond (Nat.beq pc 47) (some (.aload_n 0, 48, [])) none) (cond (Nat.beq pc 48) (some (.getfield 13, 51, [])) none))) (cond (Nat.blt pc 53) (cond (Nat.blt pc 52) (cond (Nat.beq pc 51) (some (.iload_n 2, 52, [])) none) (cond (Nat.beq pc 52) (some (.iaload, 53, [])) none)) (cond (Nat.blt pc 56) (cond (Nat.beq pc 53) (some (.invokevirtual 131, 56, [])) none) (cond (Nat.blt pc 59) (cond (Nat.beq pc 56) (some (.ifCond .ne 6, 59, [62])) none) (cond (Nat.beq pc 59) (some (.bipush (-4), 61, [])) none))))))) (cond (Nat.blt pc 87) (cond (Nat.blt pc 71) (cond (Nat.blt pc 67) (cond (Nat.blt pc 63) (cond (Nat.blt pc 62) (cond (Nat.beq pc 61) (some (.ireturn, 62, [])) none) (cond (Nat.beq pc 62) (some (.aload_n 0, 63, [])) none)) (cond (Nat.blt pc 64) (cond (Nat.beq pc 63) (some (.iconst 0, 64, [])) none) (cond (Nat.beq pc 64) (some (.putfield 114, 67, [])) none))) (cond (Nat.blt pc 69) (cond (Nat.blt pc 68) (cond (Nat.beq pc 67) (some (.iconst 1, 68, [])) none) (cond (Nat.beq pc 68) (some (.istore_n 3, 69, [])) none)) (cond (Nat.blt pc 70) (cond (Nat.beq pc 69) (some (.aload_n 0, 70, [])) none) (cond (Nat.beq pc 70) (some (.iload_n 1, 71, [])) none)))) (cond (Nat.blt pc 79) (cond (Nat.blt pc 74) (cond (Nat.blt pc 72) (cond (Nat.beq pc 71) (some (.iload_n 2, 72, [])) none) (cond (Nat.beq pc 72) (some (.bipush 31, 74, [])) none)) (cond (Nat.blt pc 76) (cond (Nat.beq pc 74) (some (.bipush 24, 76, [])) none) (cond (Nat.beq pc 76) (some (.invokevirtual 97, 79, [])) none))) (cond (Nat.blt pc 81) (cond (Nat.blt pc 80) (cond (Nat.beq pc 79) (some (.aload_n 0, 80, [])) none) (cond (Nat.beq pc 80) (some (.iload_n 2, 81, [])) none)) (cond (Nat.blt pc 83) (cond (Nat.beq pc 81) (some (.bipush 25, 83, [])) none) (cond (Nat.blt pc 86) (cond (Nat.beq pc 83) (some (.invokevirtual 101, 86, [])) none) (cond (Nat.beq pc 86) (some (.aload_n 0, 87, [])) none)))))) (cond (Nat.blt pc 103) (cond (Nat.blt pc 96) (cond (Nat.blt pc 92) (cond (Nat.blt pc 90) (cond (Nat.beq pc 87) (some (.getfield 13, 90, [])) none) (cond (Nat.beq pc 90) (some (.bipush 24, 92, [])) none)) (cond (Nat.blt pc 93) (cond (Nat.beq pc 92) (some (.iaload, 93, [])) none) (cond (Nat.beq pc 93) (some (.ifCond .le 130, 96, [223])) none))) (cond (Nat.blt pc 99) (cond (Nat.blt pc 97) (cond (Nat.beq pc 96) (some (.aload_n 0, 97, [])) none) (cond (Nat.beq pc 97) (some (.bipush 24, 99, [])) none)) (cond (Nat.blt pc 100) (cond (Nat.beq pc 99) (some (.iconst 0, 100, [])) none) (cond (Nat.beq pc 100) (some (.invokevirtual 76, 103, [])) none)))) (cond (Nat.blt pc 109) (cond (Nat.blt pc 105) (cond (Nat.blt pc 104) (cond (Nat.beq pc 103) (some (.iconst 2, 104, [])) none) (cond (Nat.beq pc 104) (some (.irem, 105, [])) none)) (cond (Nat.blt pc 108) (cond (Nat.beq pc 105) (some (.ifCond .ne 54, 108, [159])) none) (cond (Nat.beq pc 108) (some (.aload_n 0, 109, [])) none))) (cond (Nat.blt pc 112) (cond (Nat.blt pc 111) (cond (Nat.beq pc 109) (some (.bipush 24, 111, [])) none) (cond (Nat.beq pc 111) (some (.iconst (-1), 112, [])) none)) (cond (Nat.blt pc 114) (cond (Nat.beq pc 112) (some (.bipush 26, 114, [])) none) (cond (Nat.blt pc 117) (cond (Nat.beq pc 114) (some (.invokevirtual 162, 117, [])) none) (cond (Nat.beq pc 117) (some (.aload_n 0, 118, [])) none)))))))) (cond (Nat.blt pc 179) (cond (Nat.blt pc 150) (cond (Nat.blt pc 134) (cond (Nat.blt pc 126) (cond (Nat.blt pc 122) (cond (Nat.blt pc 120) (cond (Nat.beq pc 118) (some (.bipush 26, 120, [])) none) (cond (Nat.beq pc 120) (some (.bipush 24, 122, [])) none)) (cond (Nat.blt pc 125) (cond (Nat.beq pc 122) (some (.invokevirtual 101, 125, [])) none) (cond (Nat.beq pc 125) (some (.aload_n 0, 126, [])) none))) (cond (Nat.blt pc 129) (cond (Nat.blt pc 128) (cond (Nat.beq pc 126) (some (.bipush 25, 128, [])) none) (cond (Nat.beq pc 128) (some (.iconst 0, 129, [])) none)) (cond (Nat.blt pc 132) (cond (Nat.beq pc 129) (some (.invokevirtual 76, 132, [])) none) (cond (Nat.beq pc 132) (some (.bipush 8, 134, [])) none)))) (cond (Nat.blt pc 140) (cond (Nat.blt pc 137) (cond (Nat.blt pc 135) (cond (Nat.beq pc 134) (some (.irem, 135, [])) none) (cond (Nat.beq pc 135) (some (.istore 4, 137, [])) none)) (cond (Nat.blt pc 139) (cond (Nat.beq pc 137) (some (.iload 4, 139, [])) none) (cond (Nat.beq pc 139) (some (.iconst 3, 140, [])) none))) (cond (Nat.blt pc 145) (cond (Nat.blt pc 143) (cond (Nat.beq pc 140) (some (.if_icmp .eq 9, 143, [149])) none) (cond (Nat.beq pc 143) (some (.iload 4, 145, [])) none)) (cond (Nat.blt pc 146) (cond (Nat.beq pc 145) (some (.iconst 5, 146, [])) none) (cond (Nat.blt pc 149) (cond (Nat.beq pc 146) (some (.if_icmp .ne 8, 149, [154])) none) (cond (Nat.beq pc 149) (some (.iload_n 3, 150, [])) none)))))) (cond (Nat.blt pc 163) (cond (Nat.blt pc 156) (cond (Nat.blt pc 154) (cond (Nat.blt pc 151) (cond (Nat.beq pc 150) (some (.ineg, 151, [])) none) (cond (Nat.beq pc 151) (some (.goto 4, 154, [155])) none)) (cond (Nat.blt pc 155) (cond (Nat.beq pc 154) (some (.iload_n 3, 155, [])) none) (cond (Nat.beq pc 155) (some (.istore_n 3, 156, [])) none))) (cond (Nat.blt pc 160) (cond (Nat.blt pc 159) (cond (Nat.beq pc 156) (some (.goto (-60), 159, [96])) none) (cond (Nat.beq pc 159) (some (.aload_n 0, 160, [])) none)) (cond (Nat.blt pc 162) (cond (Nat.beq pc 160) (some (.bipush 24, 162, [])) none) (cond (Nat.beq pc 162) (some (.iconst 0, 163, [])) none)))) (cond (Nat.blt pc 169) (cond (Nat.blt pc 167) (cond (Nat.blt pc 166) (cond (Nat.beq pc 163) (some (.invokevirtual 76, 166, [])) none) (cond (Nat.beq pc 166) (some (.iconst 4, 167, [])) none)) (cond (Nat.blt pc 168) (cond (Nat.beq pc 167) (some (.irem, 168, [])) none) (cond (Nat.beq pc 168) (some (.iconst 3, 169, [])) none))) (cond (Nat.blt pc 173) (cond (Nat.blt pc 172) (cond (Nat.beq pc 169) (some (.if_icmp .ne 21, 172, [190])) none) (cond (Nat.beq pc 172) (some (.aload_n 0, 173, [])) none)) (cond (Nat.blt pc 175) (cond (Nat.beq pc 173) (some (.bipush 25, 175, [])) none) (cond (Nat.blt pc 176) (cond (Nat.beq pc 175) (some (.iconst 0, 176, [])) none) (cond (Nat.beq pc 176) (some (.invokevirtual 76, 179, [])) none))))))) (cond (Nat.blt pc 207) (cond (Nat.blt pc 191) (cond (Nat.blt pc 185) (cond (Nat.blt pc 181) (cond (Nat.blt pc 180) (cond (Nat.beq pc 179) (some (.iconst 4, 180, [])) none) (cond (Nat.beq pc 180) (some (.irem, 181, [])) none)) (cond (Nat.blt pc 182) (cond (Nat.beq pc 181) (some (.iconst 3, 182, [])) none) (cond (Nat.beq pc 182) (some (.if_icmp .ne 8, 185, [190])) none))) (cond (Nat.blt pc 187) (cond (Nat.blt pc 186) (cond (Nat.beq pc 185) (some (.iload_n 3, 186, [])) none) (cond (Nat.beq pc 186) (some (.ineg, 187, [])) none)) (cond (Nat.blt pc 190) (cond (Nat.beq pc 187) (some (.goto 4, 190, [191])) none) (cond (Nat.beq pc 190) (some (.iload_n 3, 191, [])) none)))) (cond (Nat.blt pc 197) (cond (Nat.blt pc 193) (cond (Nat.blt pc 192) (cond (Nat.beq pc 191) (some (.istore_n 3, 192, [])) none) (cond (Nat.beq pc 192) (some (.aload_n 0, 193, [])) none)) (cond (Nat.blt pc 195) (cond (Nat.beq pc 193) (some (.bipush 25, 195, [])) none) (cond (Nat.beq pc 195) (some (.bipush 24, 197, [])) none))) (cond (Nat.blt pc 201) (cond (Nat.blt pc 199) (cond (Nat.beq pc 197) (some (.bipush 31, 199, [])) none) (cond (Nat.beq pc 199) (some (.bipush 26, 201, [])) none)) (cond (Nat.blt pc 204) (cond (Nat.beq pc 201) (some (.invokevirtual 97, 204, [])) none) (cond (Nat.blt pc 205) (cond (Nat.beq pc 204) (some (.aload_n 0, 205, [])) none) (cond (Nat.beq pc 205) (some (.bipush 24, 207, [])) none)))))) (cond (Nat.blt pc 224) (cond (Nat.blt pc 215) (cond (Nat.blt pc 212) (cond (Nat.blt pc 209) (cond (Nat.beq pc 207) (some (.bipush 25, 209, [])) none) (cond (Nat.beq pc 209) (some (.invokevirtual 101, 212, [])) none)) (cond (Nat.blt pc 213) (cond (Nat.beq pc 212) (some (.aload_n 0, 213, [])) none) (cond (Nat.beq pc 213) (some (.bipush 26, 215, [])) none))) (cond (Nat.blt pc 220) (cond (Nat.blt pc 217) (cond (Nat.beq pc 215) (some (.bipush 24, 217, [])) none) (cond (Nat.beq pc 217) (some (.invokevirtual 101, 220, [])) none)) (cond (Nat.blt pc 223) (cond (Nat.beq pc 220) (some (.goto (-134), 223, [86])) none) (cond (Nat.beq pc 223) (some (.aload_n 0, 224, [])) none)))) (cond (Nat.blt pc 233) (cond (Nat.blt pc 229) (cond (Nat.blt pc 226) (cond (Nat.beq pc 224) (some (.bipush 25, 226, [])) none) (cond (Nat.beq pc 226) (some (.invokevirtual 165, 229, [])) none)) (cond (Nat.blt pc 232) (cond (Nat.beq pc 229) (some (.ifCond .eq 9, 232, [238])) none) (cond (Nat.beq pc 232) (some (.iconst 1, 233, [])) none))) (cond (Nat.blt pc 235) (cond (Nat.blt pc 234) (cond (Nat.beq pc 233) (some (.iload_n 3, 234, [])) none) (cond (Nat.beq pc 234) (some (.iadd, 235, [])) none)) (cond (Nat.blt pc 238) (cond (Nat.beq pc 235) (some (.goto 4, 238, [239])) none) (cond (Nat.blt pc 239) (cond (Nat.beq pc 238) (some (.iconst 1, 239, [])) none) (cond (Nat.beq pc 239) (some (.ireturn, 240, [])) none)))))))))
set_option maxRecDepth 100000 in
theorem kX8_jacobi : okT cX8_jacobi tX8_jacobi 240 5 = true := by decide +kernel
def tX8_feed : Tt := tWn 120 (fun pc => cond (Nat.blt pc 64) (cond (Nat.blt pc 28) (cond (Nat.blt pc 14) (cond (Nat.blt pc 6) (cond (Nat.blt pc 1) (cond (Nat.beq pc 0) (some (.aload_n 0, 1, [])) none) (cond (Nat.blt pc 4) (cond (Nat.beq pc 1) (some (.getfield 147, 4, [])) none) (cond (Nat.beq pc 4) (some (.bipush 20, 6, [])) none))) (cond (Nat.blt pc 10) (cond (Nat.blt pc 7) (cond (Nat.beq pc 6) (some (.iadd, 7, [])) none) (cond (Nat.beq pc 7) (some (.sipush 1000, 10, [])) none)) (cond (Nat.blt pc 13) (cond (Nat.beq pc 10) (some (.if_icmp .le 5, 13, [15])) none) (cond (Nat.beq pc 13) (some (.iconst (-1), 14, [])) none)))) (cond (Nat.blt pc 20) (cond (Nat.blt pc 16) (cond (Nat.blt pc 15) (cond (Nat.beq pc 14) (some (.ireturn, 15, [])) none) (cond (Nat.beq pc 15) (some (.iconst 0, 16, [])) none)) (cond (Nat.blt pc 18) (cond (Nat.beq pc 16) (some (.istore 6, 18, [])) none) (cond (Nat.beq pc 18) (some (.iload 6, 20, [])) none))) (cond (Nat.blt pc 25) (cond (Nat.blt pc 22) (cond (Nat.beq pc 20) (some (.bipush 20, 22, [])) none) (cond (Nat.beq pc 22) (some (.if_icmp .ge 93, 25, [115])) none)) (cond (Nat.blt pc 27) (cond (Nat.beq pc 25) (some (.iload 6, 27, [])) none) (cond (Nat.beq pc 27) (some (.iconst 4, 28, [])) none))))) (cond (Nat.blt pc 46) (cond (Nat.blt pc 37) (cond (Nat.blt pc 32) (cond (Nat.blt pc 31) (cond (Nat.beq pc 28) (some (.if_icmp .ge 7, 31, [35])) none) (cond (Nat.beq pc 31) (some (.iload_n 1, 32, [])) none)) (cond (Nat.blt pc 35) (cond (Nat.beq pc 32) (some (.goto 39, 35, [71])) none) (cond (Nat.beq pc 35) (some (.iload 6, 37, [])) none))) (cond (Nat.blt pc 42) (cond (Nat.blt pc 39) (cond (Nat.beq pc 37) (some (.bipush 8, 39, [])) none) (cond (Nat.beq pc 39) (some (.if_icmp .ge 7, 42, [46])) none)) (cond (Nat.blt pc 43) (cond (Nat.beq pc 42) (some (.iload_n 2, 43, [])) none) (cond (Nat.beq pc 43) (some (.goto 28, 46, [71])) none)))) (cond (Nat.blt pc 54) (cond (Nat.blt pc 50) (cond (Nat.blt pc 48) (cond (Nat.beq pc 46) (some (.iload 6, 48, [])) none) (cond (Nat.beq pc 48) (some (.bipush 12, 50, [])) none)) (cond (Nat.blt pc 53) (cond (Nat.beq pc 50) (some (.if_icmp .ge 7, 53, [57])) none) (cond (Nat.beq pc 53) (some (.iload_n 3, 54, [])) none))) (cond (Nat.blt pc 59) (cond (Nat.blt pc 57) (cond (Nat.beq pc 54) (some (.goto 17, 57, [71])) none) (cond (Nat.beq pc 57) (some (.iload 6, 59, [])) none)) (cond (Nat.blt pc 61) (cond (Nat.beq pc 59) (some (.bipush 16, 61, [])) none) (cond (Nat.beq pc 61) (some (.if_icmp .ge 8, 64, [69])) none)))))) (cond (Nat.blt pc 92) (cond (Nat.blt pc 78) (cond (Nat.blt pc 71) (cond (Nat.blt pc 66) (cond (Nat.beq pc 64) (some (.iload 4, 66, [])) none) (cond (Nat.blt pc 69) (cond (Nat.beq pc 66) (some (.goto 5, 69, [71])) none) (cond (Nat.beq pc 69) (some (.iload 5, 71, [])) none))) (cond (Nat.blt pc 74) (cond (Nat.blt pc 73) (cond (Nat.beq pc 71) (some (.istore 7, 73, [])) none) (cond (Nat.beq pc 73) (some (.aload_n 0, 74, [])) none)) (cond (Nat.blt pc 77) (cond (Nat.beq pc 74) (some (.getfield 32, 77, [])) none) (cond (Nat.beq pc 77) (some (.aload_n 0, 78, [])) none)))) (cond (Nat.blt pc 87) (cond (Nat.blt pc 83) (cond (Nat.blt pc 81) (cond (Nat.beq pc 78) (some (.getfield 147, 81, [])) none) (cond (Nat.beq pc 81) (some (.iload 7, 83, [])) none)) (cond (Nat.blt pc 85) (cond (Nat.beq pc 83) (some (.bipush 24, 85, [])) none) (cond (Nat.beq pc 85) (some (.bipush 8, 87, [])) none))) (cond (Nat.blt pc 90) (cond (Nat.blt pc 89) (cond (Nat.beq pc 87) (some (.iload 6, 89, [])) none) (cond (Nat.beq pc 89) (some (.iconst 4, 90, [])) none)) (cond (Nat.blt pc 91) (cond (Nat.beq pc 90) (some (.irem, 91, [])) none) (cond (Nat.beq pc 91) (some (.imul, 92, [])) none))))) (cond (Nat.blt pc 104) (cond (Nat.blt pc 98) (cond (Nat.blt pc 94) (cond (Nat.blt pc 93) (cond (Nat.beq pc 92) (some (.isub, 93, [])) none) (cond (Nat.beq pc 93) (some (.ishr, 94, [])) none)) (cond (Nat.blt pc 97) (cond (Nat.beq pc 94) (some (.sipush 255, 97, [])) none) (cond (Nat.beq pc 97) (some (.iand, 98, [])) none))) (cond (Nat.blt pc 100) (cond (Nat.blt pc 99) (cond (Nat.beq pc 98) (some (.iastore, 99, [])) none) (cond (Nat.beq pc 99) (some (.aload_n 0, 100, [])) none)) (cond (Nat.blt pc 101) (cond (Nat.beq pc 100) (some (.dup, 101, [])) none) (cond (Nat.beq pc 101) (some (.getfield 147, 104, [])) none)))) (cond (Nat.blt pc 112) (cond (Nat.blt pc 106) (cond (Nat.blt pc 105) (cond (Nat.beq pc 104) (some (.iconst 1, 105, [])) none) (cond (Nat.beq pc 105) (some (.iadd, 106, [])) none)) (cond (Nat.blt pc 109) (cond (Nat.beq pc 106) (some (.putfield 147, 109, [])) none) (cond (Nat.beq pc 109) (some (.iinc 6 1, 112, [])) none))) (cond (Nat.blt pc 116) (cond (Nat.blt pc 115) (cond (Nat.beq pc 112) (some (.goto (-94), 115, [18])) none) (cond (Nat.beq pc 115) (some (.aload_n 0, 116, [])) none)) (cond (Nat.blt pc 119) (cond (Nat.beq pc 116) (some (.getfield 147, 119, [])) none) (cond (Nat.beq pc 119) (some (.ireturn, 120, [])) none)))))))
set_option maxRecDepth 100000 in
theorem kX8_feed : okT cX8_feed tX8_feed 120 8 = true := by decide +kernel
def tX8_end_ : Tt := tWn 21 (fun pc => cond (Nat.blt pc 12) (cond (Nat.blt pc 3) (cond (Nat.blt pc 1) (cond (Nat.beq pc 0) (some (.iload_n 1, 1, [])) none) (cond (Nat.blt pc 2) (cond (Nat.beq pc 1) (some (.iconst 0, 2, [])) none) (cond (Nat.beq pc 2) (some (.aload_n 0, 3, [])) none))) (cond (Nat.blt pc 6) (cond (Nat.beq pc 3) (some (.getfield 147, 6, [])) none) (cond (Nat.blt pc 9) (cond (Nat.beq pc 6) (some (.invokestatic 127, 9, [])) none) (cond (Nat.beq pc 9) (some (.ifCond .ne 5, 12, [14])) none)))) (cond (Nat.blt pc 15) (cond (Nat.blt pc 13) (cond (Nat.beq pc 12) (some (.iconst 0, 13, [])) none) (cond (Nat.blt pc 14) (cond (Nat.beq pc 13) (some (.ireturn, 14, [])) none) (cond (Nat.beq pc 14) (some (.aload_n 0, 15, [])) none))) (cond (Nat.blt pc 19) (cond (Nat.blt pc 16) (cond (Nat.beq pc 15) (some (.iload_n 1, 16, [])) none) (cond (Nat.beq pc 16) (some (.putfield 147, 19, [])) none)) (cond (Nat.blt pc 20) (cond (Nat.beq pc 19) (some (.iconst 1, 20, [])) none) (cond (Nat.beq pc 20) (some (.ireturn, 21, [])) none)))))
set_option maxRecDepth 100000 in
theorem kX8_end_ : okT cX8_end_ tX8_end_ 21 2 = true := by decide +kernel
def tX8_digit : Tt := tWn 42 (fun pc => cond (Nat.blt pc 21) (cond (Nat.blt pc 11) (cond (Nat.blt pc 3) (cond (Nat.blt pc 1) (cond (Nat.beq pc 0) (some (.iload_n 0, 1, [])) none) (cond (Nat.beq pc 1) (some (.bipush 48, 3, [])) none)) (cond (Nat.blt pc 5) (cond (Nat.beq pc 3) (some (.bipush 57, 5, [])) none) (cond (Nat.blt pc 8) (cond (Nat.beq pc 5) (some (.invokestatic 127, 8, [])) none) (cond (Nat.beq pc 8) (some (.ifCond .eq 10, 11, [18])) none)))) (cond (Nat.blt pc 15) (cond (Nat.blt pc 12) (cond (Nat.beq pc 11) (some (.iload_n 0, 12, [])) none) (cond (Nat.blt pc 14) (cond (Nat.beq pc 12) (some (.bipush 48, 14, [])) none) (cond (Nat.beq pc 14) (some (.isub, 15, [])) none))) (cond (Nat.blt pc 18) (cond (Nat.beq pc 15) (some (.goto 26, 18, [41])) none) (cond (Nat.blt pc 19) (cond (Nat.beq pc 18) (some (.iload_n 0, 19, [])) none) (cond (Nat.beq pc 19) (some (.bipush 97, 21, [])) none))))) (cond (Nat.blt pc 32) (cond (Nat.blt pc 26) (cond (Nat.blt pc 23) (cond (Nat.beq pc 21) (some (.bipush 122, 23, [])) none) (cond (Nat.beq pc 23) (some (.invokestatic 127, 26, [])) none)) (cond (Nat.blt pc 29) (cond (Nat.beq pc 26) (some (.ifCond .eq 13, 29, [39])) none) (cond (Nat.blt pc 30) (cond (Nat.beq pc 29) (some (.iload_n 0, 30, [])) none) (cond (Nat.beq pc 30) (some (.bipush 97, 32, [])) none)))) (cond (Nat.blt pc 36) (cond (Nat.blt pc 33) (cond (Nat.beq pc 32) (some (.isub, 33, [])) none) (cond (Nat.blt pc 35) (cond (Nat.beq pc 33) (some (.bipush 10, 35, [])) none) (cond (Nat.beq pc 35) (some (.iadd, 36, [])) none))) (cond (Nat.blt pc 39) (cond (Nat.beq pc 36) (some (.goto 5, 39, [41])) none) (cond (Nat.blt pc 41) (cond (Nat.beq pc 39) (some (.bipush 99, 41, [])) none) (cond (Nat.beq pc 41) (some (.ireturn, 42, [])) none))))))
set_option maxRecDepth 100000 in
theorem kX8_digit : okT cX8_digit tX8_digit 42 1 = true := by decide +kernel
def tX8_number : Tt := tWn 226 (fun pc => cond (Nat.blt pc 110) (cond (Nat.blt pc 54) (cond (Nat.blt pc 28) (cond (Nat.blt pc 13) (cond (Nat.blt pc 5) (cond (Nat.blt pc 1) (cond (Nat.beq pc 0) (some (.aload_n 0, 1, [])) none) (cond (Nat.blt pc 2) (cond (Nat.beq pc 1) (some (.iconst (-1), 2, [])) none) (cond (Nat.beq pc 2) (some (.putfield 38, 5, [])) none))) (cond (Nat.blt pc 7) (cond (Nat.blt pc 6) (cond (Nat.beq pc 5) (some (.aload_n 0, 6, [])) none) (cond (Nat.beq pc 6) (some (.iload_n 1, 7, [])) none)) (cond (Nat.blt pc 10) (cond (Nat.beq pc 7) (some (.invokevirtual 138, 10, [])) none) (cond (Nat.beq pc 10) (some (.ifCond .ne 6, 13, [16])) none)))) (cond (Nat.blt pc 18) (cond (Nat.blt pc 16) (cond (Nat.blt pc 15) (cond (Nat.beq pc 13) (some (.bipush (-2), 15, [])) none) (cond (Nat.beq pc 15) (some (.ireturn, 16, [])) none)) (cond (Nat.blt pc 17) (cond (Nat.beq pc 16) (some (.iload_n 2, 17, [])) none) (cond (Nat.beq pc 17) (some (.iconst 2, 18, [])) none))) (cond (Nat.blt pc 23) (cond (Nat.blt pc 20) (cond (Nat.beq pc 18) (some (.bipush 36, 20, [])) none) (cond (Nat.beq pc 20) (some (.invokestatic 127, 23, [])) none)) (cond (Nat.blt pc 26) (cond (Nat.beq pc 23) (some (.ifCond .ne 6, 26, [29])) none) (cond (Nat.beq pc 26) (some (.bipush (-3), 28, [])) none))))) (cond (Nat.blt pc 39) (cond (Nat.blt pc 33) (cond (Nat.blt pc 29) (cond (Nat.beq pc 28) (some (.ireturn, 29, [])) none) (cond (Nat.blt pc 30) (cond (Nat.beq pc 29) (some (.aload_n 0, 30, [])) none) (cond (Nat.beq pc 30) (some (.getfield 147, 33, [])) none))) (cond (Nat.blt pc 35) (cond (Nat.blt pc 34) (cond (Nat.beq pc 33) (some (.istore_n 3, 34, [])) none) (cond (Nat.beq pc 34) (some (.aload_n 0, 35, [])) none)) (cond (Nat.blt pc 36) (cond (Nat.beq pc 35) (some (.iconst 0, 36, [])) none) (cond (Nat.beq pc 36) (some (.putfield 147, 39, [])) none)))) (cond (Nat.blt pc 45) (cond (Nat.blt pc 42) (cond (Nat.blt pc 40) (cond (Nat.beq pc 39) (some (.iconst 0, 40, [])) none) (cond (Nat.beq pc 40) (some (.istore 4, 42, [])) none)) (cond (Nat.blt pc 44) (cond (Nat.beq pc 42) (some (.iload 4, 44, [])) none) (cond (Nat.beq pc 44) (some (.iload_n 3, 45, [])) none))) (cond (Nat.blt pc 49) (cond (Nat.blt pc 48) (cond (Nat.beq pc 45) (some (.if_icmp .ge 23, 48, [68])) none) (cond (Nat.beq pc 48) (some (.aload_n 0, 49, [])) none)) (cond (Nat.blt pc 52) (cond (Nat.beq pc 49) (some (.getfield 32, 52, [])) none) (cond (Nat.beq pc 52) (some (.iload 4, 54, [])) none)))))) (cond (Nat.blt pc 85) (cond (Nat.blt pc 70) (cond (Nat.blt pc 59) (cond (Nat.blt pc 55) (cond (Nat.beq pc 54) (some (.iaload, 55, [])) none) (cond (Nat.blt pc 58) (cond (Nat.beq pc 55) (some (.invokestatic 168, 58, [])) none) (cond (Nat.beq pc 58) (some (.iload_n 2, 59, [])) none))) (cond (Nat.blt pc 65) (cond (Nat.blt pc 62) (cond (Nat.beq pc 59) (some (.if_icmp .ge 9, 62, [68])) none) (cond (Nat.beq pc 62) (some (.iinc 4 1, 65, [])) none)) (cond (Nat.blt pc 68) (cond (Nat.beq pc 65) (some (.goto (-23), 68, [42])) none) (cond (Nat.beq pc 68) (some (.iload 4, 70, [])) none)))) (cond (Nat.blt pc 78) (cond (Nat.blt pc 74) (cond (Nat.blt pc 71) (cond (Nat.beq pc 70) (some (.iload_n 3, 71, [])) none) (cond (Nat.beq pc 71) (some (.if_icmp .lt 7, 74, [78])) none)) (cond (Nat.blt pc 75) (cond (Nat.beq pc 74) (some (.iload_n 3, 75, [])) none) (cond (Nat.beq pc 75) (some (.ifCond .ne 11, 78, [86])) none))) (cond (Nat.blt pc 81) (cond (Nat.blt pc 79) (cond (Nat.beq pc 78) (some (.aload_n 0, 79, [])) none) (cond (Nat.beq pc 79) (some (.iload 4, 81, [])) none)) (cond (Nat.blt pc 84) (cond (Nat.beq pc 81) (some (.putfield 38, 84, [])) none) (cond (Nat.beq pc 84) (some (.iconst (-1), 85, [])) none))))) (cond (Nat.blt pc 95) (cond (Nat.blt pc 90) (cond (Nat.blt pc 86) (cond (Nat.beq pc 85) (some (.ireturn, 86, [])) none) (cond (Nat.blt pc 87) (cond (Nat.beq pc 86) (some (.aload_n 0, 87, [])) none) (cond (Nat.beq pc 87) (some (.getfield 13, 90, [])) none))) (cond (Nat.blt pc 93) (cond (Nat.blt pc 92) (cond (Nat.beq pc 90) (some (.bipush 24, 92, [])) none) (cond (Nat.beq pc 92) (some (.iconst 0, 93, [])) none)) (cond (Nat.blt pc 94) (cond (Nat.beq pc 93) (some (.iastore, 94, [])) none) (cond (Nat.beq pc 94) (some (.iconst 0, 95, [])) none)))) (cond (Nat.blt pc 103) (cond (Nat.blt pc 99) (cond (Nat.blt pc 97) (cond (Nat.beq pc 95) (some (.istore 5, 97, [])) none) (cond (Nat.beq pc 97) (some (.iload 5, 99, [])) none)) (cond (Nat.blt pc 100) (cond (Nat.beq pc 99) (some (.iload_n 3, 100, [])) none) (cond (Nat.beq pc 100) (some (.if_icmp .ge 101, 103, [201])) none))) (cond (Nat.blt pc 107) (cond (Nat.blt pc 104) (cond (Nat.beq pc 103) (some (.aload_n 0, 104, [])) none) (cond (Nat.beq pc 104) (some (.getfield 32, 107, [])) none)) (cond (Nat.blt pc 109) (cond (Nat.beq pc 107) (some (.iload 5, 109, [])) none) (cond (Nat.beq pc 109) (some (.iaload, 110, [])) none))))))) (cond (Nat.blt pc 166) (cond (Nat.blt pc 139) (cond (Nat.blt pc 124) (cond (Nat.blt pc 116) (cond (Nat.blt pc 113) (cond (Nat.beq pc 110) (some (.invokestatic 168, 113, [])) none) (cond (Nat.blt pc 115) (cond (Nat.beq pc 113) (some (.istore 6, 115, [])) none) (cond (Nat.beq pc 115) (some (.aload_n 0, 116, [])) none))) (cond (Nat.blt pc 121) (cond (Nat.blt pc 119) (cond (Nat.beq pc 116) (some (.getfield 13, 119, [])) none) (cond (Nat.beq pc 119) (some (.bipush 24, 121, [])) none)) (cond (Nat.blt pc 122) (cond (Nat.beq pc 121) (some (.iaload, 122, [])) none) (cond (Nat.beq pc 122) (some (.istore 7, 124, [])) none)))) (cond (Nat.blt pc 131) (cond (Nat.blt pc 127) (cond (Nat.blt pc 125) (cond (Nat.beq pc 124) (some (.iconst 0, 125, [])) none) (cond (Nat.beq pc 125) (some (.istore 8, 127, [])) none)) (cond (Nat.blt pc 129) (cond (Nat.beq pc 127) (some (.iload 8, 129, [])) none) (cond (Nat.beq pc 129) (some (.iload 7, 131, [])) none))) (cond (Nat.blt pc 135) (cond (Nat.blt pc 134) (cond (Nat.beq pc 131) (some (.if_icmp .ge 44, 134, [175])) none) (cond (Nat.beq pc 134) (some (.aload_n 0, 135, [])) none)) (cond (Nat.blt pc 137) (cond (Nat.beq pc 135) (some (.bipush 24, 137, [])) none) (cond (Nat.beq pc 137) (some (.iload 8, 139, [])) none))))) (cond (Nat.blt pc 150) (cond (Nat.blt pc 144) (cond (Nat.blt pc 142) (cond (Nat.beq pc 139) (some (.invokevirtual 76, 142, [])) none) (cond (Nat.blt pc 143) (cond (Nat.beq pc 142) (some (.iload_n 2, 143, [])) none) (cond (Nat.beq pc 143) (some (.imul, 144, [])) none))) (cond (Nat.blt pc 147) (cond (Nat.blt pc 146) (cond (Nat.beq pc 144) (some (.iload 6, 146, [])) none) (cond (Nat.beq pc 146) (some (.iadd, 147, [])) none)) (cond (Nat.blt pc 149) (cond (Nat.beq pc 147) (some (.istore 9, 149, [])) none) (cond (Nat.beq pc 149) (some (.aload_n 0, 150, [])) none)))) (cond (Nat.blt pc 158) (cond (Nat.blt pc 154) (cond (Nat.blt pc 152) (cond (Nat.beq pc 150) (some (.bipush 24, 152, [])) none) (cond (Nat.beq pc 152) (some (.iload 8, 154, [])) none)) (cond (Nat.blt pc 156) (cond (Nat.beq pc 154) (some (.iload 9, 156, [])) none) (cond (Nat.beq pc 156) (some (.ldc 84, 158, [])) none))) (cond (Nat.blt pc 162) (cond (Nat.blt pc 159) (cond (Nat.beq pc 158) (some (.irem, 159, [])) none) (cond (Nat.beq pc 159) (some (.invokevirtual 80, 162, [])) none)) (cond (Nat.blt pc 164) (cond (Nat.beq pc 162) (some (.iload 9, 164, [])) none) (cond (Nat.beq pc 164) (some (.ldc 84, 166, [])) none)))))) (cond (Nat.blt pc 195) (cond (Nat.blt pc 180) (cond (Nat.blt pc 172) (cond (Nat.blt pc 167) (cond (Nat.beq pc 166) (some (.idiv, 167, [])) none) (cond (Nat.blt pc 169) (cond (Nat.beq pc 167) (some (.istore 6, 169, [])) none) (cond (Nat.beq pc 169) (some (.iinc 8 1, 172, [])) none))) (cond (Nat.blt pc 176) (cond (Nat.blt pc 175) (cond (Nat.beq pc 172) (some (.goto (-45), 175, [127])) none) (cond (Nat.beq pc 175) (some (.aload_n 0, 176, [])) none)) (cond (Nat.blt pc 178) (cond (Nat.beq pc 176) (some (.bipush 24, 178, [])) none) (cond (Nat.beq pc 178) (some (.iload 7, 180, [])) none)))) (cond (Nat.blt pc 188) (cond (Nat.blt pc 185) (cond (Nat.blt pc 182) (cond (Nat.beq pc 180) (some (.iload 6, 182, [])) none) (cond (Nat.beq pc 182) (some (.invokevirtual 80, 185, [])) none)) (cond (Nat.blt pc 186) (cond (Nat.beq pc 185) (some (.aload_n 0, 186, [])) none) (cond (Nat.beq pc 186) (some (.bipush 24, 188, [])) none))) (cond (Nat.blt pc 191) (cond (Nat.blt pc 190) (cond (Nat.beq pc 188) (some (.iload 7, 190, [])) none) (cond (Nat.beq pc 190) (some (.iconst 1, 191, [])) none)) (cond (Nat.blt pc 192) (cond (Nat.beq pc 191) (some (.iadd, 192, [])) none) (cond (Nat.beq pc 192) (some (.invokevirtual 85, 195, [])) none))))) (cond (Nat.blt pc 210) (cond (Nat.blt pc 202) (cond (Nat.blt pc 198) (cond (Nat.beq pc 195) (some (.iinc 5 1, 198, [])) none) (cond (Nat.blt pc 201) (cond (Nat.beq pc 198) (some (.goto (-101), 201, [97])) none) (cond (Nat.beq pc 201) (some (.aload_n 0, 202, [])) none))) (cond (Nat.blt pc 207) (cond (Nat.blt pc 205) (cond (Nat.beq pc 202) (some (.getfield 13, 205, [])) none) (cond (Nat.beq pc 205) (some (.bipush 24, 207, [])) none)) (cond (Nat.blt pc 208) (cond (Nat.beq pc 207) (some (.iaload, 208, [])) none) (cond (Nat.beq pc 208) (some (.bipush 64, 210, [])) none)))) (cond (Nat.blt pc 219) (cond (Nat.blt pc 215) (cond (Nat.blt pc 213) (cond (Nat.beq pc 210) (some (.if_icmp .le 8, 213, [218])) none) (cond (Nat.beq pc 213) (some (.bipush (-8), 215, [])) none)) (cond (Nat.blt pc 218) (cond (Nat.beq pc 215) (some (.goto 10, 218, [225])) none) (cond (Nat.beq pc 218) (some (.aload_n 0, 219, [])) none))) (cond (Nat.blt pc 222) (cond (Nat.blt pc 221) (cond (Nat.beq pc 219) (some (.bipush 24, 221, [])) none) (cond (Nat.beq pc 221) (some (.iload_n 1, 222, [])) none)) (cond (Nat.blt pc 225) (cond (Nat.beq pc 222) (some (.invokevirtual 153, 225, [])) none) (cond (Nat.beq pc 225) (some (.ireturn, 226, [])) none))))))))
set_option maxRecDepth 100000 in
theorem kX8_number : okT cX8_number tX8_number 226 10 = true := by decide +kernel
def tX8_fault : Tt := tWn 5 (fun pc => cond (Nat.blt pc 1) (cond (Nat.beq pc 0) (some (.aload_n 0, 1, [])) none) (cond (Nat.blt pc 4) (cond (Nat.beq pc 1) (some (.getfield 38, 4, [])) none) (cond (Nat.beq pc 4) (some (.ireturn, 5, [])) none)))
set_option maxRecDepth 100000 in
theorem kX8_fault : okT cX8_fault tX8_fault 5 1 = true := by decide +kernel
def tX8_text : Tt := tWn 213 (fun pc => cond (Nat.blt pc 109) (cond (Nat.blt pc 52) (cond (Nat.blt pc 26) (cond (Nat.blt pc 12) (cond (Nat.blt pc 5) (cond (Nat.blt pc 1) (cond (Nat.beq pc 0) (some (.aload_n 0, 1, [])) none) (cond (Nat.blt pc 2) (cond (Nat.beq pc 1) (some (.iload_n 1, 2, [])) none) (cond (Nat.beq pc 2) (some (.invokevirtual 138, 5, [])) none))) (cond (Nat.blt pc 10) (cond (Nat.blt pc 8) (cond (Nat.beq pc 5) (some (.ifCond .ne 6, 8, [11])) none) (cond (Nat.beq pc 8) (some (.bipush (-2), 10, [])) none)) (cond (Nat.blt pc 11) (cond (Nat.beq pc 10) (some (.ireturn, 11, [])) none) (cond (Nat.beq pc 11) (some (.iload_n 2, 12, [])) none)))) (cond (Nat.blt pc 21) (cond (Nat.blt pc 15) (cond (Nat.blt pc 13) (cond (Nat.beq pc 12) (some (.iconst 2, 13, [])) none) (cond (Nat.beq pc 13) (some (.bipush 36, 15, [])) none)) (cond (Nat.blt pc 18) (cond (Nat.beq pc 15) (some (.invokestatic 127, 18, [])) none) (cond (Nat.beq pc 18) (some (.ifCond .ne 6, 21, [24])) none))) (cond (Nat.blt pc 24) (cond (Nat.blt pc 23) (cond (Nat.beq pc 21) (some (.bipush (-3), 23, [])) none) (cond (Nat.beq pc 23) (some (.ireturn, 24, [])) none)) (cond (Nat.blt pc 25) (cond (Nat.beq pc 24) (some (.aload_n 0, 25, [])) none) (cond (Nat.beq pc 25) (some (.iload_n 1, 26, [])) none))))) (cond (Nat.blt pc 37) (cond (Nat.blt pc 32) (cond (Nat.blt pc 28) (cond (Nat.beq pc 26) (some (.bipush 24, 28, [])) none) (cond (Nat.blt pc 31) (cond (Nat.beq pc 28) (some (.invokevirtual 101, 31, [])) none) (cond (Nat.beq pc 31) (some (.iconst 0, 32, [])) none))) (cond (Nat.blt pc 34) (cond (Nat.blt pc 33) (cond (Nat.beq pc 32) (some (.istore_n 3, 33, [])) none) (cond (Nat.beq pc 33) (some (.iconst 0, 34, [])) none)) (cond (Nat.blt pc 36) (cond (Nat.beq pc 34) (some (.istore 4, 36, [])) none) (cond (Nat.beq pc 36) (some (.aload_n 0, 37, [])) none)))) (cond (Nat.blt pc 44) (cond (Nat.blt pc 42) (cond (Nat.blt pc 40) (cond (Nat.beq pc 37) (some (.getfield 13, 40, [])) none) (cond (Nat.beq pc 40) (some (.bipush 24, 42, [])) none)) (cond (Nat.blt pc 43) (cond (Nat.beq pc 42) (some (.iaload, 43, [])) none) (cond (Nat.beq pc 43) (some (.iconst 1, 44, [])) none))) (cond (Nat.blt pc 47) (cond (Nat.blt pc 45) (cond (Nat.beq pc 44) (some (.isub, 45, [])) none) (cond (Nat.beq pc 45) (some (.istore 5, 47, [])) none)) (cond (Nat.blt pc 49) (cond (Nat.beq pc 47) (some (.iload 5, 49, [])) none) (cond (Nat.beq pc 49) (some (.ifCond .lt 43, 52, [92])) none)))))) (cond (Nat.blt pc 77) (cond (Nat.blt pc 65) (cond (Nat.blt pc 57) (cond (Nat.blt pc 54) (cond (Nat.beq pc 52) (some (.iload 4, 54, [])) none) (cond (Nat.blt pc 56) (cond (Nat.beq pc 54) (some (.ldc 84, 56, [])) none) (cond (Nat.beq pc 56) (some (.imul, 57, [])) none))) (cond (Nat.blt pc 60) (cond (Nat.blt pc 58) (cond (Nat.beq pc 57) (some (.aload_n 0, 58, [])) none) (cond (Nat.beq pc 58) (some (.bipush 24, 60, [])) none)) (cond (Nat.blt pc 62) (cond (Nat.beq pc 60) (some (.iload 5, 62, [])) none) (cond (Nat.beq pc 62) (some (.invokevirtual 76, 65, [])) none)))) (cond (Nat.blt pc 71) (cond (Nat.blt pc 68) (cond (Nat.blt pc 66) (cond (Nat.beq pc 65) (some (.iadd, 66, [])) none) (cond (Nat.beq pc 66) (some (.istore 6, 68, [])) none)) (cond (Nat.blt pc 69) (cond (Nat.beq pc 68) (some (.aload_n 0, 69, [])) none) (cond (Nat.beq pc 69) (some (.bipush 24, 71, [])) none))) (cond (Nat.blt pc 75) (cond (Nat.blt pc 73) (cond (Nat.beq pc 71) (some (.iload 5, 73, [])) none) (cond (Nat.beq pc 73) (some (.iload 6, 75, [])) none)) (cond (Nat.blt pc 76) (cond (Nat.beq pc 75) (some (.iload_n 2, 76, [])) none) (cond (Nat.beq pc 76) (some (.idiv, 77, [])) none))))) (cond (Nat.blt pc 93) (cond (Nat.blt pc 84) (cond (Nat.blt pc 82) (cond (Nat.blt pc 80) (cond (Nat.beq pc 77) (some (.invokevirtual 80, 80, [])) none) (cond (Nat.beq pc 80) (some (.iload 6, 82, [])) none)) (cond (Nat.blt pc 83) (cond (Nat.beq pc 82) (some (.iload_n 2, 83, [])) none) (cond (Nat.beq pc 83) (some (.irem, 84, [])) none))) (cond (Nat.blt pc 89) (cond (Nat.blt pc 86) (cond (Nat.beq pc 84) (some (.istore 4, 86, [])) none) (cond (Nat.beq pc 86) (some (.iinc 5 (-1), 89, [])) none)) (cond (Nat.blt pc 92) (cond (Nat.beq pc 89) (some (.goto (-42), 92, [47])) none) (cond (Nat.beq pc 92) (some (.aload_n 0, 93, [])) none)))) (cond (Nat.blt pc 101) (cond (Nat.blt pc 96) (cond (Nat.blt pc 95) (cond (Nat.beq pc 93) (some (.bipush 24, 95, [])) none) (cond (Nat.beq pc 95) (some (.aload_n 0, 96, [])) none)) (cond (Nat.blt pc 99) (cond (Nat.beq pc 96) (some (.getfield 13, 99, [])) none) (cond (Nat.beq pc 99) (some (.bipush 24, 101, [])) none))) (cond (Nat.blt pc 105) (cond (Nat.blt pc 102) (cond (Nat.beq pc 101) (some (.iaload, 102, [])) none) (cond (Nat.beq pc 102) (some (.invokevirtual 85, 105, [])) none)) (cond (Nat.blt pc 106) (cond (Nat.beq pc 105) (some (.aload_n 0, 106, [])) none) (cond (Nat.beq pc 106) (some (.getfield 35, 109, [])) none))))))) (cond (Nat.blt pc 164) (cond (Nat.blt pc 137) (cond (Nat.blt pc 122) (cond (Nat.blt pc 114) (cond (Nat.blt pc 110) (cond (Nat.beq pc 109) (some (.iload_n 3, 110, [])) none) (cond (Nat.blt pc 112) (cond (Nat.beq pc 110) (some (.iload 4, 112, [])) none) (cond (Nat.beq pc 112) (some (.bipush 10, 114, [])) none))) (cond (Nat.blt pc 119) (cond (Nat.blt pc 117) (cond (Nat.beq pc 114) (some (.if_icmp .ge 11, 117, [125])) none) (cond (Nat.beq pc 117) (some (.bipush 48, 119, [])) none)) (cond (Nat.blt pc 121) (cond (Nat.beq pc 119) (some (.iload 4, 121, [])) none) (cond (Nat.beq pc 121) (some (.iadd, 122, [])) none)))) (cond (Nat.blt pc 130) (cond (Nat.blt pc 127) (cond (Nat.blt pc 125) (cond (Nat.beq pc 122) (some (.goto 11, 125, [133])) none) (cond (Nat.beq pc 125) (some (.bipush 97, 127, [])) none)) (cond (Nat.blt pc 129) (cond (Nat.beq pc 127) (some (.iload 4, 129, [])) none) (cond (Nat.beq pc 129) (some (.iadd, 130, [])) none))) (cond (Nat.blt pc 133) (cond (Nat.blt pc 132) (cond (Nat.beq pc 130) (some (.bipush 10, 132, [])) none) (cond (Nat.beq pc 132) (some (.isub, 133, [])) none)) (cond (Nat.blt pc 134) (cond (Nat.beq pc 133) (some (.iastore, 134, [])) none) (cond (Nat.beq pc 134) (some (.iinc 3 1, 137, [])) none))))) (cond (Nat.blt pc 151) (cond (Nat.blt pc 144) (cond (Nat.blt pc 141) (cond (Nat.blt pc 138) (cond (Nat.beq pc 137) (some (.aload_n 0, 138, [])) none) (cond (Nat.beq pc 138) (some (.getfield 13, 141, [])) none)) (cond (Nat.blt pc 143) (cond (Nat.beq pc 141) (some (.bipush 24, 143, [])) none) (cond (Nat.beq pc 143) (some (.iaload, 144, [])) none))) (cond (Nat.blt pc 148) (cond (Nat.blt pc 147) (cond (Nat.beq pc 144) (some (.ifCond .gt (-111), 147, [33])) none) (cond (Nat.beq pc 147) (some (.iconst 0, 148, [])) none)) (cond (Nat.blt pc 150) (cond (Nat.beq pc 148) (some (.istore 4, 150, [])) none) (cond (Nat.beq pc 150) (some (.iconst 2, 151, [])) none)))) (cond (Nat.blt pc 156) (cond (Nat.blt pc 154) (cond (Nat.blt pc 153) (cond (Nat.beq pc 151) (some (.iload 4, 153, [])) none) (cond (Nat.beq pc 153) (some (.imul, 154, [])) none)) (cond (Nat.blt pc 155) (cond (Nat.beq pc 154) (some (.iload_n 3, 155, [])) none) (cond (Nat.beq pc 155) (some (.iconst 1, 156, [])) none))) (cond (Nat.blt pc 160) (cond (Nat.blt pc 157) (cond (Nat.beq pc 156) (some (.isub, 157, [])) none) (cond (Nat.beq pc 157) (some (.if_icmp .ge 49, 160, [206])) none)) (cond (Nat.blt pc 161) (cond (Nat.beq pc 160) (some (.aload_n 0, 161, [])) none) (cond (Nat.beq pc 161) (some (.getfield 35, 164, [])) none)))))) (cond (Nat.blt pc 187) (cond (Nat.blt pc 176) (cond (Nat.blt pc 169) (cond (Nat.blt pc 166) (cond (Nat.beq pc 164) (some (.iload 4, 166, [])) none) (cond (Nat.blt pc 167) (cond (Nat.beq pc 166) (some (.iaload, 167, [])) none) (cond (Nat.beq pc 167) (some (.istore 5, 169, [])) none))) (cond (Nat.blt pc 173) (cond (Nat.blt pc 170) (cond (Nat.beq pc 169) (some (.aload_n 0, 170, [])) none) (cond (Nat.beq pc 170) (some (.getfield 35, 173, [])) none)) (cond (Nat.blt pc 175) (cond (Nat.beq pc 173) (some (.iload 4, 175, [])) none) (cond (Nat.beq pc 175) (some (.aload_n 0, 176, [])) none)))) (cond (Nat.blt pc 182) (cond (Nat.blt pc 180) (cond (Nat.blt pc 179) (cond (Nat.beq pc 176) (some (.getfield 35, 179, [])) none) (cond (Nat.beq pc 179) (some (.iload_n 3, 180, [])) none)) (cond (Nat.blt pc 181) (cond (Nat.beq pc 180) (some (.iconst 1, 181, [])) none) (cond (Nat.beq pc 181) (some (.isub, 182, [])) none))) (cond (Nat.blt pc 185) (cond (Nat.blt pc 184) (cond (Nat.beq pc 182) (some (.iload 4, 184, [])) none) (cond (Nat.beq pc 184) (some (.isub, 185, [])) none)) (cond (Nat.blt pc 186) (cond (Nat.beq pc 185) (some (.iaload, 186, [])) none) (cond (Nat.beq pc 186) (some (.iastore, 187, [])) none))))) (cond (Nat.blt pc 199) (cond (Nat.blt pc 193) (cond (Nat.blt pc 191) (cond (Nat.blt pc 188) (cond (Nat.beq pc 187) (some (.aload_n 0, 188, [])) none) (cond (Nat.beq pc 188) (some (.getfield 35, 191, [])) none)) (cond (Nat.blt pc 192) (cond (Nat.beq pc 191) (some (.iload_n 3, 192, [])) none) (cond (Nat.beq pc 192) (some (.iconst 1, 193, [])) none))) (cond (Nat.blt pc 196) (cond (Nat.blt pc 194) (cond (Nat.beq pc 193) (some (.isub, 194, [])) none) (cond (Nat.beq pc 194) (some (.iload 4, 196, [])) none)) (cond (Nat.blt pc 197) (cond (Nat.beq pc 196) (some (.isub, 197, [])) none) (cond (Nat.beq pc 197) (some (.iload 5, 199, [])) none)))) (cond (Nat.blt pc 207) (cond (Nat.blt pc 203) (cond (Nat.blt pc 200) (cond (Nat.beq pc 199) (some (.iastore, 200, [])) none) (cond (Nat.beq pc 200) (some (.iinc 4 1, 203, [])) none)) (cond (Nat.blt pc 206) (cond (Nat.beq pc 203) (some (.goto (-53), 206, [150])) none) (cond (Nat.beq pc 206) (some (.aload_n 0, 207, [])) none))) (cond (Nat.blt pc 211) (cond (Nat.blt pc 208) (cond (Nat.beq pc 207) (some (.iload_n 3, 208, [])) none) (cond (Nat.beq pc 208) (some (.putfield 171, 211, [])) none)) (cond (Nat.blt pc 212) (cond (Nat.beq pc 211) (some (.iload_n 3, 212, [])) none) (cond (Nat.beq pc 212) (some (.ireturn, 213, [])) none))))))))
set_option maxRecDepth 100000 in
theorem kX8_text : okT cX8_text tX8_text 213 7 = true := by decide +kernel
def tX8_out : Tt := tWn 25 (fun pc => cond (Nat.blt pc 11) (cond (Nat.blt pc 3) (cond (Nat.blt pc 1) (cond (Nat.beq pc 0) (some (.iload_n 1, 1, [])) none) (cond (Nat.blt pc 2) (cond (Nat.beq pc 1) (some (.iconst 0, 2, [])) none) (cond (Nat.beq pc 2) (some (.aload_n 0, 3, [])) none))) (cond (Nat.blt pc 7) (cond (Nat.blt pc 6) (cond (Nat.beq pc 3) (some (.getfield 171, 6, [])) none) (cond (Nat.beq pc 6) (some (.iconst 1, 7, [])) none)) (cond (Nat.blt pc 8) (cond (Nat.beq pc 7) (some (.isub, 8, [])) none) (cond (Nat.beq pc 8) (some (.invokestatic 127, 11, [])) none)))) (cond (Nat.blt pc 19) (cond (Nat.blt pc 15) (cond (Nat.blt pc 14) (cond (Nat.beq pc 11) (some (.ifCond .eq 12, 14, [23])) none) (cond (Nat.beq pc 14) (some (.aload_n 0, 15, [])) none)) (cond (Nat.blt pc 18) (cond (Nat.beq pc 15) (some (.getfield 35, 18, [])) none) (cond (Nat.beq pc 18) (some (.iload_n 1, 19, [])) none))) (cond (Nat.blt pc 23) (cond (Nat.blt pc 20) (cond (Nat.beq pc 19) (some (.iaload, 20, [])) none) (cond (Nat.beq pc 20) (some (.goto 4, 23, [24])) none)) (cond (Nat.blt pc 24) (cond (Nat.beq pc 23) (some (.iconst (-1), 24, [])) none) (cond (Nat.beq pc 24) (some (.ireturn, 25, [])) none)))))
set_option maxRecDepth 100000 in
theorem kX8_out : okT cX8_out tX8_out 25 2 = true := by decide +kernel
def tX8_word : Tt := tWn 53 (fun pc => cond (Nat.blt pc 28) (cond (Nat.blt pc 14) (cond (Nat.blt pc 5) (cond (Nat.blt pc 1) (cond (Nat.beq pc 0) (some (.iload_n 1, 1, [])) none) (cond (Nat.blt pc 2) (cond (Nat.beq pc 1) (some (.iconst 0, 2, [])) none) (cond (Nat.beq pc 2) (some (.sipush 32767, 5, [])) none))) (cond (Nat.blt pc 11) (cond (Nat.blt pc 8) (cond (Nat.beq pc 5) (some (.invokestatic 127, 8, [])) none) (cond (Nat.beq pc 8) (some (.ifCond .ne 6, 11, [14])) none)) (cond (Nat.blt pc 13) (cond (Nat.beq pc 11) (some (.bipush (-3), 13, [])) none) (cond (Nat.beq pc 13) (some (.ireturn, 14, [])) none)))) (cond (Nat.blt pc 19) (cond (Nat.blt pc 15) (cond (Nat.beq pc 14) (some (.aload_n 0, 15, [])) none) (cond (Nat.blt pc 18) (cond (Nat.beq pc 15) (some (.getfield 144, 18, [])) none) (cond (Nat.beq pc 18) (some (.aload_n 0, 19, [])) none))) (cond (Nat.blt pc 25) (cond (Nat.blt pc 22) (cond (Nat.beq pc 19) (some (.getfield 73, 22, [])) none) (cond (Nat.beq pc 22) (some (.if_icmp .ne 6, 25, [28])) none)) (cond (Nat.blt pc 27) (cond (Nat.beq pc 25) (some (.bipush (-9), 27, [])) none) (cond (Nat.beq pc 27) (some (.ireturn, 28, [])) none))))) (cond (Nat.blt pc 39) (cond (Nat.blt pc 33) (cond (Nat.blt pc 29) (cond (Nat.beq pc 28) (some (.aload_n 0, 29, [])) none) (cond (Nat.blt pc 32) (cond (Nat.beq pc 29) (some (.getfield 42, 32, [])) none) (cond (Nat.beq pc 32) (some (.aload_n 0, 33, [])) none))) (cond (Nat.blt pc 37) (cond (Nat.blt pc 36) (cond (Nat.beq pc 33) (some (.getfield 144, 36, [])) none) (cond (Nat.beq pc 36) (some (.iload_n 1, 37, [])) none)) (cond (Nat.blt pc 38) (cond (Nat.beq pc 37) (some (.iastore, 38, [])) none) (cond (Nat.beq pc 38) (some (.aload_n 0, 39, [])) none)))) (cond (Nat.blt pc 45) (cond (Nat.blt pc 43) (cond (Nat.blt pc 40) (cond (Nat.beq pc 39) (some (.dup, 40, [])) none) (cond (Nat.beq pc 40) (some (.getfield 144, 43, [])) none)) (cond (Nat.blt pc 44) (cond (Nat.beq pc 43) (some (.iconst 1, 44, [])) none) (cond (Nat.beq pc 44) (some (.iadd, 45, [])) none))) (cond (Nat.blt pc 49) (cond (Nat.blt pc 48) (cond (Nat.beq pc 45) (some (.putfield 144, 48, [])) none) (cond (Nat.beq pc 48) (some (.aload_n 0, 49, [])) none)) (cond (Nat.blt pc 52) (cond (Nat.beq pc 49) (some (.getfield 144, 52, [])) none) (cond (Nat.beq pc 52) (some (.ireturn, 53, [])) none))))))
set_option maxRecDepth 100000 in
theorem kX8_word : okT cX8_word tX8_word 53 2 = true := by decide +kernel
def tX8_told : Tt := tWn 25 (fun pc => cond (Nat.blt pc 11) (cond (Nat.blt pc 3) (cond (Nat.blt pc 1) (cond (Nat.beq pc 0) (some (.iload_n 1, 1, [])) none) (cond (Nat.blt pc 2) (cond (Nat.beq pc 1) (some (.iconst 0, 2, [])) none) (cond (Nat.beq pc 2) (some (.aload_n 0, 3, [])) none))) (cond (Nat.blt pc 7) (cond (Nat.blt pc 6) (cond (Nat.beq pc 3) (some (.getfield 144, 6, [])) none) (cond (Nat.beq pc 6) (some (.iconst 1, 7, [])) none)) (cond (Nat.blt pc 8) (cond (Nat.beq pc 7) (some (.isub, 8, [])) none) (cond (Nat.beq pc 8) (some (.invokestatic 127, 11, [])) none)))) (cond (Nat.blt pc 19) (cond (Nat.blt pc 15) (cond (Nat.blt pc 14) (cond (Nat.beq pc 11) (some (.ifCond .eq 12, 14, [23])) none) (cond (Nat.beq pc 14) (some (.aload_n 0, 15, [])) none)) (cond (Nat.blt pc 18) (cond (Nat.beq pc 15) (some (.getfield 42, 18, [])) none) (cond (Nat.beq pc 18) (some (.iload_n 1, 19, [])) none))) (cond (Nat.blt pc 23) (cond (Nat.blt pc 20) (cond (Nat.beq pc 19) (some (.iaload, 20, [])) none) (cond (Nat.beq pc 20) (some (.goto 4, 23, [24])) none)) (cond (Nat.blt pc 24) (cond (Nat.beq pc 23) (some (.iconst (-1), 24, [])) none) (cond (Nat.beq pc 24) (some (.ireturn, 25, [])) none)))))
set_option maxRecDepth 100000 in
theorem kX8_told : okT cX8_told tX8_told 25 2 = true := by decide +kernel
def tX8_clear : Tt := tWn 12 (fun pc => cond (Nat.blt pc 6) (cond (Nat.blt pc 4) (cond (Nat.blt pc 1) (cond (Nat.beq pc 0) (some (.aload_n 0, 1, [])) none) (cond (Nat.beq pc 1) (some (.getfield 144, 4, [])) none)) (cond (Nat.blt pc 5) (cond (Nat.beq pc 4) (some (.istore_n 1, 5, [])) none) (cond (Nat.beq pc 5) (some (.aload_n 0, 6, [])) none))) (cond (Nat.blt pc 10) (cond (Nat.blt pc 7) (cond (Nat.beq pc 6) (some (.iconst 0, 7, [])) none) (cond (Nat.beq pc 7) (some (.putfield 144, 10, [])) none)) (cond (Nat.blt pc 11) (cond (Nat.beq pc 10) (some (.iload_n 1, 11, [])) none) (cond (Nat.beq pc 11) (some (.ireturn, 12, [])) none))))
set_option maxRecDepth 100000 in
theorem kX8_clear : okT cX8_clear tX8_clear 12 2 = true := by decide +kernel
def tX8_passes : Tt := tWn 96 (fun pc => cond (Nat.blt pc 51) (cond (Nat.blt pc 26) (cond (Nat.blt pc 12) (cond (Nat.blt pc 5) (cond (Nat.blt pc 1) (cond (Nat.beq pc 0) (some (.aload_n 0, 1, [])) none) (cond (Nat.blt pc 4) (cond (Nat.beq pc 1) (some (.getfield 174, 4, [])) none) (cond (Nat.beq pc 4) (some (.aload_n 0, 5, [])) none))) (cond (Nat.blt pc 8) (cond (Nat.beq pc 5) (some (.getfield 144, 8, [])) none) (cond (Nat.blt pc 11) (cond (Nat.beq pc 8) (some (.if_icmp .ge 64, 11, [72])) none) (cond (Nat.beq pc 11) (some (.aload_n 0, 12, [])) none)))) (cond (Nat.blt pc 19) (cond (Nat.blt pc 15) (cond (Nat.beq pc 12) (some (.getfield 42, 15, [])) none) (cond (Nat.blt pc 16) (cond (Nat.beq pc 15) (some (.aload_n 0, 16, [])) none) (cond (Nat.beq pc 16) (some (.getfield 174, 19, [])) none))) (cond (Nat.blt pc 21) (cond (Nat.blt pc 20) (cond (Nat.beq pc 19) (some (.iaload, 20, [])) none) (cond (Nat.beq pc 20) (some (.iconst 1, 21, [])) none)) (cond (Nat.blt pc 23) (cond (Nat.beq pc 21) (some (.bipush 64, 23, [])) none) (cond (Nat.beq pc 23) (some (.invokestatic 127, 26, [])) none))))) (cond (Nat.blt pc 38) (cond (Nat.blt pc 33) (cond (Nat.blt pc 29) (cond (Nat.beq pc 26) (some (.ifCond .eq 46, 29, [72])) none) (cond (Nat.blt pc 30) (cond (Nat.beq pc 29) (some (.aload_n 0, 30, [])) none) (cond (Nat.beq pc 30) (some (.getfield 174, 33, [])) none))) (cond (Nat.blt pc 34) (cond (Nat.beq pc 33) (some (.aload_n 0, 34, [])) none) (cond (Nat.blt pc 37) (cond (Nat.beq pc 34) (some (.getfield 42, 37, [])) none) (cond (Nat.beq pc 37) (some (.aload_n 0, 38, [])) none)))) (cond (Nat.blt pc 43) (cond (Nat.blt pc 41) (cond (Nat.beq pc 38) (some (.getfield 174, 41, [])) none) (cond (Nat.blt pc 42) (cond (Nat.beq pc 41) (some (.iaload, 42, [])) none) (cond (Nat.beq pc 42) (some (.iadd, 43, [])) none))) (cond (Nat.blt pc 47) (cond (Nat.blt pc 44) (cond (Nat.beq pc 43) (some (.aload_n 0, 44, [])) none) (cond (Nat.beq pc 44) (some (.getfield 144, 47, [])) none)) (cond (Nat.blt pc 50) (cond (Nat.beq pc 47) (some (.if_icmp .ge 25, 50, [72])) none) (cond (Nat.beq pc 50) (some (.aload_n 0, 51, [])) none)))))) (cond (Nat.blt pc 74) (cond (Nat.blt pc 63) (cond (Nat.blt pc 58) (cond (Nat.blt pc 54) (cond (Nat.beq pc 51) (some (.getfield 42, 54, [])) none) (cond (Nat.blt pc 55) (cond (Nat.beq pc 54) (some (.aload_n 0, 55, [])) none) (cond (Nat.beq pc 55) (some (.getfield 174, 58, [])) none))) (cond (Nat.blt pc 59) (cond (Nat.beq pc 58) (some (.aload_n 0, 59, [])) none) (cond (Nat.blt pc 62) (cond (Nat.beq pc 59) (some (.getfield 42, 62, [])) none) (cond (Nat.beq pc 62) (some (.aload_n 0, 63, [])) none)))) (cond (Nat.blt pc 68) (cond (Nat.blt pc 66) (cond (Nat.beq pc 63) (some (.getfield 174, 66, [])) none) (cond (Nat.blt pc 67) (cond (Nat.beq pc 66) (some (.iaload, 67, [])) none) (cond (Nat.beq pc 67) (some (.iadd, 68, [])) none))) (cond (Nat.blt pc 72) (cond (Nat.blt pc 69) (cond (Nat.beq pc 68) (some (.iaload, 69, [])) none) (cond (Nat.beq pc 69) (some (.ifCond .ne 5, 72, [74])) none)) (cond (Nat.blt pc 73) (cond (Nat.beq pc 72) (some (.iconst 0, 73, [])) none) (cond (Nat.beq pc 73) (some (.ireturn, 74, [])) none))))) (cond (Nat.blt pc 87) (cond (Nat.blt pc 79) (cond (Nat.blt pc 75) (cond (Nat.beq pc 74) (some (.aload_n 0, 75, [])) none) (cond (Nat.blt pc 76) (cond (Nat.beq pc 75) (some (.dup, 76, [])) none) (cond (Nat.beq pc 76) (some (.getfield 174, 79, [])) none))) (cond (Nat.blt pc 83) (cond (Nat.blt pc 80) (cond (Nat.beq pc 79) (some (.aload_n 0, 80, [])) none) (cond (Nat.beq pc 80) (some (.getfield 42, 83, [])) none)) (cond (Nat.blt pc 84) (cond (Nat.beq pc 83) (some (.aload_n 0, 84, [])) none) (cond (Nat.beq pc 84) (some (.getfield 174, 87, [])) none)))) (cond (Nat.blt pc 90) (cond (Nat.blt pc 88) (cond (Nat.beq pc 87) (some (.iaload, 88, [])) none) (cond (Nat.blt pc 89) (cond (Nat.beq pc 88) (some (.iconst 1, 89, [])) none) (cond (Nat.beq pc 89) (some (.iadd, 90, [])) none))) (cond (Nat.blt pc 94) (cond (Nat.blt pc 91) (cond (Nat.beq pc 90) (some (.iadd, 91, [])) none) (cond (Nat.beq pc 91) (some (.putfield 174, 94, [])) none)) (cond (Nat.blt pc 95) (cond (Nat.beq pc 94) (some (.iconst 1, 95, [])) none) (cond (Nat.beq pc 95) (some (.ireturn, 96, [])) none)))))))
set_option maxRecDepth 100000 in
theorem kX8_passes : okT cX8_passes tX8_passes 96 1 = true := by decide +kernel
def tX8_isTwo : Tt := tWn 38 (fun pc => cond (Nat.blt pc 20) (cond (Nat.blt pc 10) (cond (Nat.blt pc 5) (cond (Nat.blt pc 1) (cond (Nat.beq pc 0) (some (.aload_n 0, 1, [])) none) (cond (Nat.blt pc 4) (cond (Nat.beq pc 1) (some (.getfield 42, 4, [])) none) (cond (Nat.beq pc 4) (some (.aload_n 0, 5, [])) none))) (cond (Nat.blt pc 8) (cond (Nat.beq pc 5) (some (.getfield 45, 8, [])) none) (cond (Nat.blt pc 9) (cond (Nat.beq pc 8) (some (.iload_n 1, 9, [])) none) (cond (Nat.beq pc 9) (some (.iaload, 10, [])) none)))) (cond (Nat.blt pc 15) (cond (Nat.blt pc 11) (cond (Nat.beq pc 10) (some (.iaload, 11, [])) none) (cond (Nat.blt pc 12) (cond (Nat.beq pc 11) (some (.iconst 1, 12, [])) none) (cond (Nat.beq pc 12) (some (.if_icmp .ne 24, 15, [36])) none))) (cond (Nat.blt pc 16) (cond (Nat.beq pc 15) (some (.aload_n 0, 16, [])) none) (cond (Nat.blt pc 19) (cond (Nat.beq pc 16) (some (.getfield 42, 19, [])) none) (cond (Nat.beq pc 19) (some (.aload_n 0, 20, [])) none))))) (cond (Nat.blt pc 28) (cond (Nat.blt pc 25) (cond (Nat.blt pc 23) (cond (Nat.beq pc 20) (some (.getfield 45, 23, [])) none) (cond (Nat.blt pc 24) (cond (Nat.beq pc 23) (some (.iload_n 1, 24, [])) none) (cond (Nat.beq pc 24) (some (.iaload, 25, [])) none))) (cond (Nat.blt pc 26) (cond (Nat.beq pc 25) (some (.iconst 1, 26, [])) none) (cond (Nat.blt pc 27) (cond (Nat.beq pc 26) (some (.iadd, 27, [])) none) (cond (Nat.beq pc 27) (some (.iaload, 28, [])) none)))) (cond (Nat.blt pc 33) (cond (Nat.blt pc 29) (cond (Nat.beq pc 28) (some (.iconst 2, 29, [])) none) (cond (Nat.blt pc 32) (cond (Nat.beq pc 29) (some (.if_icmp .ne 7, 32, [36])) none) (cond (Nat.beq pc 32) (some (.iconst 1, 33, [])) none))) (cond (Nat.blt pc 36) (cond (Nat.beq pc 33) (some (.goto 4, 36, [37])) none) (cond (Nat.blt pc 37) (cond (Nat.beq pc 36) (some (.iconst 0, 37, [])) none) (cond (Nat.beq pc 37) (some (.ireturn, 38, [])) none))))))
set_option maxRecDepth 100000 in
theorem kX8_isTwo : okT cX8_isTwo tX8_isTwo 38 2 = true := by decide +kernel
def tX8_opens : Tt := tWn 147 (fun pc => cond (Nat.blt pc 70) (cond (Nat.blt pc 34) (cond (Nat.blt pc 19) (cond (Nat.blt pc 7) (cond (Nat.blt pc 4) (cond (Nat.blt pc 1) (cond (Nat.beq pc 0) (some (.aload_n 0, 1, [])) none) (cond (Nat.beq pc 1) (some (.getfield 177, 4, [])) none)) (cond (Nat.blt pc 5) (cond (Nat.beq pc 4) (some (.istore_n 3, 5, [])) none) (cond (Nat.blt pc 6) (cond (Nat.beq pc 5) (some (.aload_n 0, 6, [])) none) (cond (Nat.beq pc 6) (some (.dup, 7, [])) none)))) (cond (Nat.blt pc 12) (cond (Nat.blt pc 10) (cond (Nat.beq pc 7) (some (.getfield 177, 10, [])) none) (cond (Nat.blt pc 11) (cond (Nat.beq pc 10) (some (.iconst 1, 11, [])) none) (cond (Nat.beq pc 11) (some (.iadd, 12, [])) none))) (cond (Nat.blt pc 15) (cond (Nat.beq pc 12) (some (.putfield 177, 15, [])) none) (cond (Nat.blt pc 16) (cond (Nat.beq pc 15) (some (.aload_n 0, 16, [])) none) (cond (Nat.beq pc 16) (some (.getfield 51, 19, [])) none))))) (cond (Nat.blt pc 26) (cond (Nat.blt pc 21) (cond (Nat.blt pc 20) (cond (Nat.beq pc 19) (some (.iload_n 3, 20, [])) none) (cond (Nat.beq pc 20) (some (.iload_n 1, 21, [])) none)) (cond (Nat.blt pc 22) (cond (Nat.beq pc 21) (some (.iastore, 22, [])) none) (cond (Nat.blt pc 23) (cond (Nat.beq pc 22) (some (.aload_n 0, 23, [])) none) (cond (Nat.beq pc 23) (some (.getfield 54, 26, [])) none)))) (cond (Nat.blt pc 29) (cond (Nat.blt pc 27) (cond (Nat.beq pc 26) (some (.iload_n 3, 27, [])) none) (cond (Nat.blt pc 28) (cond (Nat.beq pc 27) (some (.iload_n 2, 28, [])) none) (cond (Nat.beq pc 28) (some (.iastore, 29, [])) none))) (cond (Nat.blt pc 30) (cond (Nat.beq pc 29) (some (.aload_n 0, 30, [])) none) (cond (Nat.blt pc 33) (cond (Nat.beq pc 30) (some (.getfield 45, 33, [])) none) (cond (Nat.beq pc 33) (some (.iload_n 3, 34, [])) none)))))) (cond (Nat.blt pc 51) (cond (Nat.blt pc 43) (cond (Nat.blt pc 38) (cond (Nat.blt pc 35) (cond (Nat.beq pc 34) (some (.aload_n 0, 35, [])) none) (cond (Nat.beq pc 35) (some (.getfield 174, 38, [])) none)) (cond (Nat.blt pc 39) (cond (Nat.beq pc 38) (some (.iastore, 39, [])) none) (cond (Nat.blt pc 40) (cond (Nat.beq pc 39) (some (.aload_n 0, 40, [])) none) (cond (Nat.beq pc 40) (some (.getfield 48, 43, [])) none)))) (cond (Nat.blt pc 46) (cond (Nat.blt pc 44) (cond (Nat.beq pc 43) (some (.iload_n 3, 44, [])) none) (cond (Nat.blt pc 45) (cond (Nat.beq pc 44) (some (.iconst (-1), 45, [])) none) (cond (Nat.beq pc 45) (some (.iastore, 46, [])) none))) (cond (Nat.blt pc 47) (cond (Nat.beq pc 46) (some (.aload_n 0, 47, [])) none) (cond (Nat.blt pc 50) (cond (Nat.beq pc 47) (some (.getfield 57, 50, [])) none) (cond (Nat.beq pc 50) (some (.iload_n 3, 51, [])) none))))) (cond (Nat.blt pc 60) (cond (Nat.blt pc 53) (cond (Nat.blt pc 52) (cond (Nat.beq pc 51) (some (.iconst 0, 52, [])) none) (cond (Nat.beq pc 52) (some (.iastore, 53, [])) none)) (cond (Nat.blt pc 54) (cond (Nat.beq pc 53) (some (.aload_n 0, 54, [])) none) (cond (Nat.blt pc 57) (cond (Nat.beq pc 54) (some (.invokevirtual 180, 57, [])) none) (cond (Nat.beq pc 57) (some (.ifCond .ne 5, 60, [62])) none)))) (cond (Nat.blt pc 63) (cond (Nat.blt pc 61) (cond (Nat.beq pc 60) (some (.iconst 0, 61, [])) none) (cond (Nat.blt pc 62) (cond (Nat.beq pc 61) (some (.ireturn, 62, [])) none) (cond (Nat.beq pc 62) (some (.aload_n 0, 63, [])) none))) (cond (Nat.blt pc 64) (cond (Nat.beq pc 63) (some (.iload_n 3, 64, [])) none) (cond (Nat.blt pc 67) (cond (Nat.beq pc 64) (some (.invokevirtual 184, 67, [])) none) (cond (Nat.beq pc 67) (some (.ifCond .eq 5, 70, [72])) none))))))) (cond (Nat.blt pc 110) (cond (Nat.blt pc 89) (cond (Nat.blt pc 77) (cond (Nat.blt pc 72) (cond (Nat.blt pc 71) (cond (Nat.beq pc 70) (some (.iconst 1, 71, [])) none) (cond (Nat.beq pc 71) (some (.ireturn, 72, [])) none)) (cond (Nat.blt pc 73) (cond (Nat.beq pc 72) (some (.aload_n 0, 73, [])) none) (cond (Nat.blt pc 76) (cond (Nat.beq pc 73) (some (.getfield 48, 76, [])) none) (cond (Nat.beq pc 76) (some (.iload_n 3, 77, [])) none)))) (cond (Nat.blt pc 82) (cond (Nat.blt pc 78) (cond (Nat.beq pc 77) (some (.aload_n 0, 78, [])) none) (cond (Nat.blt pc 81) (cond (Nat.beq pc 78) (some (.getfield 174, 81, [])) none) (cond (Nat.beq pc 81) (some (.iastore, 82, [])) none))) (cond (Nat.blt pc 83) (cond (Nat.beq pc 82) (some (.aload_n 0, 83, [])) none) (cond (Nat.blt pc 86) (cond (Nat.beq pc 83) (some (.invokevirtual 180, 86, [])) none) (cond (Nat.beq pc 86) (some (.ifCond .eq 32, 89, [118])) none))))) (cond (Nat.blt pc 100) (cond (Nat.blt pc 93) (cond (Nat.blt pc 90) (cond (Nat.beq pc 89) (some (.aload_n 0, 90, [])) none) (cond (Nat.beq pc 90) (some (.getfield 174, 93, [])) none)) (cond (Nat.blt pc 94) (cond (Nat.beq pc 93) (some (.aload_n 0, 94, [])) none) (cond (Nat.blt pc 97) (cond (Nat.beq pc 94) (some (.getfield 144, 97, [])) none) (cond (Nat.beq pc 97) (some (.if_icmp .ge 21, 100, [118])) none)))) (cond (Nat.blt pc 105) (cond (Nat.blt pc 101) (cond (Nat.beq pc 100) (some (.aload_n 0, 101, [])) none) (cond (Nat.blt pc 104) (cond (Nat.beq pc 101) (some (.getfield 42, 104, [])) none) (cond (Nat.beq pc 104) (some (.aload_n 0, 105, [])) none))) (cond (Nat.blt pc 108) (cond (Nat.beq pc 105) (some (.getfield 174, 108, [])) none) (cond (Nat.blt pc 109) (cond (Nat.beq pc 108) (some (.iaload, 109, [])) none) (cond (Nat.beq pc 109) (some (.iconst 1, 110, [])) none)))))) (cond (Nat.blt pc 130) (cond (Nat.blt pc 120) (cond (Nat.blt pc 115) (cond (Nat.blt pc 112) (cond (Nat.beq pc 110) (some (.bipush 20, 112, [])) none) (cond (Nat.beq pc 112) (some (.invokestatic 127, 115, [])) none)) (cond (Nat.blt pc 118) (cond (Nat.beq pc 115) (some (.ifCond .ne 5, 118, [120])) none) (cond (Nat.blt pc 119) (cond (Nat.beq pc 118) (some (.iconst 0, 119, [])) none) (cond (Nat.beq pc 119) (some (.ireturn, 120, [])) none)))) (cond (Nat.blt pc 125) (cond (Nat.blt pc 121) (cond (Nat.beq pc 120) (some (.aload_n 0, 121, [])) none) (cond (Nat.blt pc 124) (cond (Nat.beq pc 121) (some (.getfield 57, 124, [])) none) (cond (Nat.beq pc 124) (some (.iload_n 3, 125, [])) none))) (cond (Nat.blt pc 126) (cond (Nat.beq pc 125) (some (.aload_n 0, 126, [])) none) (cond (Nat.blt pc 129) (cond (Nat.beq pc 126) (some (.getfield 42, 129, [])) none) (cond (Nat.beq pc 129) (some (.aload_n 0, 130, [])) none))))) (cond (Nat.blt pc 137) (cond (Nat.blt pc 134) (cond (Nat.blt pc 133) (cond (Nat.beq pc 130) (some (.getfield 174, 133, [])) none) (cond (Nat.beq pc 133) (some (.iaload, 134, [])) none)) (cond (Nat.blt pc 135) (cond (Nat.beq pc 134) (some (.iastore, 135, [])) none) (cond (Nat.blt pc 136) (cond (Nat.beq pc 135) (some (.aload_n 0, 136, [])) none) (cond (Nat.beq pc 136) (some (.dup, 137, [])) none)))) (cond (Nat.blt pc 142) (cond (Nat.blt pc 140) (cond (Nat.beq pc 137) (some (.getfield 174, 140, [])) none) (cond (Nat.blt pc 141) (cond (Nat.beq pc 140) (some (.iconst 1, 141, [])) none) (cond (Nat.beq pc 141) (some (.iadd, 142, [])) none))) (cond (Nat.blt pc 145) (cond (Nat.beq pc 142) (some (.putfield 174, 145, [])) none) (cond (Nat.blt pc 146) (cond (Nat.beq pc 145) (some (.iconst 1, 146, [])) none) (cond (Nat.beq pc 146) (some (.ireturn, 147, [])) none))))))))
set_option maxRecDepth 100000 in
theorem kX8_opens : okT cX8_opens tX8_opens 147 4 = true := by decide +kernel
def tX8_isRow : Tt := tWn 163 (fun pc => cond (Nat.blt pc 77) (cond (Nat.blt pc 35) (cond (Nat.blt pc 19) (cond (Nat.blt pc 7) (cond (Nat.blt pc 2) (cond (Nat.blt pc 1) (cond (Nat.beq pc 0) (some (.aload_n 0, 1, [])) none) (cond (Nat.beq pc 1) (some (.iconst 0, 2, [])) none)) (cond (Nat.blt pc 5) (cond (Nat.beq pc 2) (some (.putfield 177, 5, [])) none) (cond (Nat.blt pc 6) (cond (Nat.beq pc 5) (some (.aload_n 0, 6, [])) none) (cond (Nat.beq pc 6) (some (.iconst 0, 7, [])) none)))) (cond (Nat.blt pc 12) (cond (Nat.blt pc 10) (cond (Nat.beq pc 7) (some (.putfield 174, 10, [])) none) (cond (Nat.blt pc 11) (cond (Nat.beq pc 10) (some (.aload_n 0, 11, [])) none) (cond (Nat.beq pc 11) (some (.iconst (-1), 12, [])) none))) (cond (Nat.blt pc 13) (cond (Nat.beq pc 12) (some (.iconst 1, 13, [])) none) (cond (Nat.blt pc 16) (cond (Nat.beq pc 13) (some (.invokevirtual 187, 16, [])) none) (cond (Nat.beq pc 16) (some (.ifCond .ne 5, 19, [21])) none))))) (cond (Nat.blt pc 25) (cond (Nat.blt pc 22) (cond (Nat.blt pc 20) (cond (Nat.beq pc 19) (some (.iconst 0, 20, [])) none) (cond (Nat.blt pc 21) (cond (Nat.beq pc 20) (some (.ireturn, 21, [])) none) (cond (Nat.beq pc 21) (some (.iconst 0, 22, [])) none))) (cond (Nat.blt pc 23) (cond (Nat.beq pc 22) (some (.istore_n 1, 23, [])) none) (cond (Nat.blt pc 24) (cond (Nat.beq pc 23) (some (.iconst 1, 24, [])) none) (cond (Nat.beq pc 24) (some (.istore_n 2, 25, [])) none)))) (cond (Nat.blt pc 30) (cond (Nat.blt pc 26) (cond (Nat.beq pc 25) (some (.iload_n 1, 26, [])) none) (cond (Nat.blt pc 27) (cond (Nat.beq pc 26) (some (.iconst (-1), 27, [])) none) (cond (Nat.beq pc 27) (some (.if_icmp .eq 119, 30, [146])) none))) (cond (Nat.blt pc 31) (cond (Nat.beq pc 30) (some (.aload_n 0, 31, [])) none) (cond (Nat.blt pc 34) (cond (Nat.beq pc 31) (some (.getfield 57, 34, [])) none) (cond (Nat.beq pc 34) (some (.iload_n 1, 35, [])) none)))))) (cond (Nat.blt pc 57) (cond (Nat.blt pc 45) (cond (Nat.blt pc 40) (cond (Nat.blt pc 36) (cond (Nat.beq pc 35) (some (.iaload, 36, [])) none) (cond (Nat.blt pc 39) (cond (Nat.beq pc 36) (some (.ifCond .ne 16, 39, [52])) none) (cond (Nat.beq pc 39) (some (.aload_n 0, 40, [])) none))) (cond (Nat.blt pc 43) (cond (Nat.beq pc 40) (some (.getfield 51, 43, [])) none) (cond (Nat.blt pc 44) (cond (Nat.beq pc 43) (some (.iload_n 1, 44, [])) none) (cond (Nat.beq pc 44) (some (.iaload, 45, [])) none)))) (cond (Nat.blt pc 52) (cond (Nat.blt pc 46) (cond (Nat.beq pc 45) (some (.istore_n 1, 46, [])) none) (cond (Nat.blt pc 49) (cond (Nat.beq pc 46) (some (.iinc 2 (-1), 49, [])) none) (cond (Nat.beq pc 49) (some (.goto (-24), 52, [25])) none))) (cond (Nat.blt pc 53) (cond (Nat.beq pc 52) (some (.aload_n 0, 53, [])) none) (cond (Nat.blt pc 56) (cond (Nat.beq pc 53) (some (.getfield 57, 56, [])) none) (cond (Nat.beq pc 56) (some (.iload_n 1, 57, [])) none))))) (cond (Nat.blt pc 63) (cond (Nat.blt pc 60) (cond (Nat.blt pc 58) (cond (Nat.beq pc 57) (some (.dup2, 58, [])) none) (cond (Nat.blt pc 59) (cond (Nat.beq pc 58) (some (.iaload, 59, [])) none) (cond (Nat.beq pc 59) (some (.iconst 1, 60, [])) none))) (cond (Nat.blt pc 61) (cond (Nat.beq pc 60) (some (.isub, 61, [])) none) (cond (Nat.blt pc 62) (cond (Nat.beq pc 61) (some (.iastore, 62, [])) none) (cond (Nat.beq pc 62) (some (.aload_n 0, 63, [])) none)))) (cond (Nat.blt pc 70) (cond (Nat.blt pc 66) (cond (Nat.beq pc 63) (some (.getfield 174, 66, [])) none) (cond (Nat.blt pc 67) (cond (Nat.beq pc 66) (some (.aload_n 0, 67, [])) none) (cond (Nat.beq pc 67) (some (.getfield 144, 70, [])) none))) (cond (Nat.blt pc 73) (cond (Nat.beq pc 70) (some (.if_icmp .ge 28, 73, [98])) none) (cond (Nat.blt pc 74) (cond (Nat.beq pc 73) (some (.aload_n 0, 74, [])) none) (cond (Nat.beq pc 74) (some (.getfield 42, 77, [])) none))))))) (cond (Nat.blt pc 117) (cond (Nat.blt pc 99) (cond (Nat.blt pc 86) (cond (Nat.blt pc 81) (cond (Nat.blt pc 78) (cond (Nat.beq pc 77) (some (.aload_n 0, 78, [])) none) (cond (Nat.beq pc 78) (some (.getfield 174, 81, [])) none)) (cond (Nat.blt pc 82) (cond (Nat.beq pc 81) (some (.iaload, 82, [])) none) (cond (Nat.blt pc 83) (cond (Nat.beq pc 82) (some (.iconst 1, 83, [])) none) (cond (Nat.beq pc 83) (some (.sipush 960, 86, [])) none)))) (cond (Nat.blt pc 93) (cond (Nat.blt pc 89) (cond (Nat.beq pc 86) (some (.invokestatic 127, 89, [])) none) (cond (Nat.blt pc 92) (cond (Nat.beq pc 89) (some (.ifCond .eq 9, 92, [98])) none) (cond (Nat.beq pc 92) (some (.iload_n 2, 93, [])) none))) (cond (Nat.blt pc 95) (cond (Nat.beq pc 93) (some (.bipush 12, 95, [])) none) (cond (Nat.blt pc 98) (cond (Nat.beq pc 95) (some (.if_icmp .ne 5, 98, [100])) none) (cond (Nat.beq pc 98) (some (.iconst 0, 99, [])) none))))) (cond (Nat.blt pc 109) (cond (Nat.blt pc 104) (cond (Nat.blt pc 100) (cond (Nat.beq pc 99) (some (.ireturn, 100, [])) none) (cond (Nat.blt pc 101) (cond (Nat.beq pc 100) (some (.aload_n 0, 101, [])) none) (cond (Nat.beq pc 101) (some (.getfield 42, 104, [])) none))) (cond (Nat.blt pc 105) (cond (Nat.beq pc 104) (some (.aload_n 0, 105, [])) none) (cond (Nat.blt pc 108) (cond (Nat.beq pc 105) (some (.getfield 174, 108, [])) none) (cond (Nat.beq pc 108) (some (.iaload, 109, [])) none)))) (cond (Nat.blt pc 112) (cond (Nat.blt pc 110) (cond (Nat.beq pc 109) (some (.istore_n 3, 110, [])) none) (cond (Nat.blt pc 111) (cond (Nat.beq pc 110) (some (.aload_n 0, 111, [])) none) (cond (Nat.beq pc 111) (some (.dup, 112, [])) none))) (cond (Nat.blt pc 115) (cond (Nat.beq pc 112) (some (.getfield 174, 115, [])) none) (cond (Nat.blt pc 116) (cond (Nat.beq pc 115) (some (.iconst 1, 116, [])) none) (cond (Nat.beq pc 116) (some (.iadd, 117, [])) none)))))) (cond (Nat.blt pc 139) (cond (Nat.blt pc 128) (cond (Nat.blt pc 124) (cond (Nat.blt pc 120) (cond (Nat.beq pc 117) (some (.putfield 174, 120, [])) none) (cond (Nat.blt pc 121) (cond (Nat.beq pc 120) (some (.aload_n 0, 121, [])) none) (cond (Nat.beq pc 121) (some (.getfield 177, 124, [])) none))) (cond (Nat.blt pc 126) (cond (Nat.beq pc 124) (some (.istore 4, 126, [])) none) (cond (Nat.blt pc 127) (cond (Nat.beq pc 126) (some (.aload_n 0, 127, [])) none) (cond (Nat.beq pc 127) (some (.iload_n 1, 128, [])) none)))) (cond (Nat.blt pc 135) (cond (Nat.blt pc 129) (cond (Nat.beq pc 128) (some (.iload_n 3, 129, [])) none) (cond (Nat.blt pc 132) (cond (Nat.beq pc 129) (some (.invokevirtual 187, 132, [])) none) (cond (Nat.beq pc 132) (some (.ifCond .ne 5, 135, [137])) none))) (cond (Nat.blt pc 136) (cond (Nat.beq pc 135) (some (.iconst 0, 136, [])) none) (cond (Nat.blt pc 137) (cond (Nat.beq pc 136) (some (.ireturn, 137, [])) none) (cond (Nat.beq pc 137) (some (.iload 4, 139, [])) none))))) (cond (Nat.blt pc 151) (cond (Nat.blt pc 146) (cond (Nat.blt pc 140) (cond (Nat.beq pc 139) (some (.istore_n 1, 140, [])) none) (cond (Nat.blt pc 143) (cond (Nat.beq pc 140) (some (.iinc 2 1, 143, [])) none) (cond (Nat.beq pc 143) (some (.goto (-118), 146, [25])) none))) (cond (Nat.blt pc 147) (cond (Nat.beq pc 146) (some (.aload_n 0, 147, [])) none) (cond (Nat.blt pc 150) (cond (Nat.beq pc 147) (some (.getfield 174, 150, [])) none) (cond (Nat.beq pc 150) (some (.aload_n 0, 151, [])) none)))) (cond (Nat.blt pc 158) (cond (Nat.blt pc 154) (cond (Nat.beq pc 151) (some (.getfield 144, 154, [])) none) (cond (Nat.blt pc 157) (cond (Nat.beq pc 154) (some (.if_icmp .ne 7, 157, [161])) none) (cond (Nat.beq pc 157) (some (.iconst 1, 158, [])) none))) (cond (Nat.blt pc 161) (cond (Nat.beq pc 158) (some (.goto 4, 161, [162])) none) (cond (Nat.blt pc 162) (cond (Nat.beq pc 161) (some (.iconst 0, 162, [])) none) (cond (Nat.beq pc 162) (some (.ireturn, 163, [])) none))))))))
set_option maxRecDepth 100000 in
theorem kX8_isRow : okT cX8_isRow tX8_isRow 163 5 = true := by decide +kernel
def tX8_load : Tt := tWn 46 (fun pc => cond (Nat.blt pc 21) (cond (Nat.blt pc 9) (cond (Nat.blt pc 3) (cond (Nat.blt pc 1) (cond (Nat.beq pc 0) (some (.iconst 0, 1, [])) none) (cond (Nat.blt pc 2) (cond (Nat.beq pc 1) (some (.istore_n 3, 2, [])) none) (cond (Nat.beq pc 2) (some (.iload_n 3, 3, [])) none))) (cond (Nat.blt pc 7) (cond (Nat.blt pc 4) (cond (Nat.beq pc 3) (some (.aload_n 0, 4, [])) none) (cond (Nat.beq pc 4) (some (.getfield 42, 7, [])) none)) (cond (Nat.blt pc 8) (cond (Nat.beq pc 7) (some (.iload_n 1, 8, [])) none) (cond (Nat.beq pc 8) (some (.iaload, 9, [])) none)))) (cond (Nat.blt pc 15) (cond (Nat.blt pc 13) (cond (Nat.blt pc 12) (cond (Nat.beq pc 9) (some (.if_icmp .ge 25, 12, [34])) none) (cond (Nat.beq pc 12) (some (.aload_n 0, 13, [])) none)) (cond (Nat.blt pc 14) (cond (Nat.beq pc 13) (some (.iload_n 2, 14, [])) none) (cond (Nat.beq pc 14) (some (.iload_n 3, 15, [])) none))) (cond (Nat.blt pc 19) (cond (Nat.blt pc 16) (cond (Nat.beq pc 15) (some (.aload_n 0, 16, [])) none) (cond (Nat.beq pc 16) (some (.getfield 42, 19, [])) none)) (cond (Nat.blt pc 20) (cond (Nat.beq pc 19) (some (.iload_n 1, 20, [])) none) (cond (Nat.beq pc 20) (some (.iconst 1, 21, [])) none))))) (cond (Nat.blt pc 34) (cond (Nat.blt pc 24) (cond (Nat.blt pc 22) (cond (Nat.beq pc 21) (some (.iadd, 22, [])) none) (cond (Nat.blt pc 23) (cond (Nat.beq pc 22) (some (.iload_n 3, 23, [])) none) (cond (Nat.beq pc 23) (some (.iadd, 24, [])) none))) (cond (Nat.blt pc 28) (cond (Nat.blt pc 25) (cond (Nat.beq pc 24) (some (.iaload, 25, [])) none) (cond (Nat.beq pc 25) (some (.invokevirtual 80, 28, [])) none)) (cond (Nat.blt pc 31) (cond (Nat.beq pc 28) (some (.iinc 3 1, 31, [])) none) (cond (Nat.beq pc 31) (some (.goto (-29), 34, [2])) none)))) (cond (Nat.blt pc 40) (cond (Nat.blt pc 36) (cond (Nat.blt pc 35) (cond (Nat.beq pc 34) (some (.aload_n 0, 35, [])) none) (cond (Nat.beq pc 35) (some (.iload_n 2, 36, [])) none)) (cond (Nat.blt pc 37) (cond (Nat.beq pc 36) (some (.aload_n 0, 37, [])) none) (cond (Nat.beq pc 37) (some (.getfield 42, 40, [])) none))) (cond (Nat.blt pc 42) (cond (Nat.blt pc 41) (cond (Nat.beq pc 40) (some (.iload_n 1, 41, [])) none) (cond (Nat.beq pc 41) (some (.iaload, 42, [])) none)) (cond (Nat.blt pc 45) (cond (Nat.beq pc 42) (some (.invokevirtual 85, 45, [])) none) (cond (Nat.beq pc 45) (some (.return_, 46, [])) none))))))
set_option maxRecDepth 100000 in
theorem kX8_load : okT cX8_load tX8_load 46 4 = true := by decide +kernel
def tX8_isGood : Tt := tWn 319 (fun pc => cond (Nat.blt pc 153) (cond (Nat.blt pc 71) (cond (Nat.blt pc 35) (cond (Nat.blt pc 16) (cond (Nat.blt pc 9) (cond (Nat.blt pc 2) (cond (Nat.blt pc 1) (cond (Nat.beq pc 0) (some (.aload_n 0, 1, [])) none) (cond (Nat.beq pc 1) (some (.iload_n 1, 2, [])) none)) (cond (Nat.blt pc 5) (cond (Nat.beq pc 2) (some (.invokevirtual 184, 5, [])) none) (cond (Nat.blt pc 8) (cond (Nat.beq pc 5) (some (.ifCond .eq 5, 8, [10])) none) (cond (Nat.beq pc 8) (some (.iconst 1, 9, [])) none)))) (cond (Nat.blt pc 11) (cond (Nat.blt pc 10) (cond (Nat.beq pc 9) (some (.ireturn, 10, [])) none) (cond (Nat.beq pc 10) (some (.aload_n 0, 11, [])) none)) (cond (Nat.blt pc 12) (cond (Nat.beq pc 11) (some (.aload_n 0, 12, [])) none) (cond (Nat.blt pc 15) (cond (Nat.beq pc 12) (some (.getfield 45, 15, [])) none) (cond (Nat.beq pc 15) (some (.iload_n 1, 16, [])) none))))) (cond (Nat.blt pc 24) (cond (Nat.blt pc 19) (cond (Nat.blt pc 17) (cond (Nat.beq pc 16) (some (.iaload, 17, [])) none) (cond (Nat.beq pc 17) (some (.bipush 33, 19, [])) none)) (cond (Nat.blt pc 22) (cond (Nat.beq pc 19) (some (.invokevirtual 191, 22, [])) none) (cond (Nat.blt pc 23) (cond (Nat.beq pc 22) (some (.aload_n 0, 23, [])) none) (cond (Nat.beq pc 23) (some (.aload_n 0, 24, [])) none)))) (cond (Nat.blt pc 29) (cond (Nat.blt pc 27) (cond (Nat.beq pc 24) (some (.getfield 48, 27, [])) none) (cond (Nat.blt pc 28) (cond (Nat.beq pc 27) (some (.iload_n 1, 28, [])) none) (cond (Nat.beq pc 28) (some (.iaload, 29, [])) none))) (cond (Nat.blt pc 31) (cond (Nat.beq pc 29) (some (.bipush 34, 31, [])) none) (cond (Nat.blt pc 34) (cond (Nat.beq pc 31) (some (.invokevirtual 191, 34, [])) none) (cond (Nat.beq pc 34) (some (.aload_n 0, 35, [])) none)))))) (cond (Nat.blt pc 55) (cond (Nat.blt pc 46) (cond (Nat.blt pc 39) (cond (Nat.blt pc 37) (cond (Nat.beq pc 35) (some (.bipush 34, 37, [])) none) (cond (Nat.beq pc 37) (some (.bipush 33, 39, [])) none)) (cond (Nat.blt pc 42) (cond (Nat.beq pc 39) (some (.invokevirtual 91, 42, [])) none) (cond (Nat.blt pc 45) (cond (Nat.beq pc 42) (some (.ifCond .lt 5, 45, [47])) none) (cond (Nat.beq pc 45) (some (.iconst 0, 46, [])) none)))) (cond (Nat.blt pc 50) (cond (Nat.blt pc 47) (cond (Nat.beq pc 46) (some (.ireturn, 47, [])) none) (cond (Nat.blt pc 48) (cond (Nat.beq pc 47) (some (.aload_n 0, 48, [])) none) (cond (Nat.beq pc 48) (some (.bipush 26, 50, [])) none))) (cond (Nat.blt pc 51) (cond (Nat.beq pc 50) (some (.iconst 1, 51, [])) none) (cond (Nat.blt pc 54) (cond (Nat.beq pc 51) (some (.invokevirtual 94, 54, [])) none) (cond (Nat.beq pc 54) (some (.aload_n 0, 55, [])) none))))) (cond (Nat.blt pc 63) (cond (Nat.blt pc 60) (cond (Nat.blt pc 58) (cond (Nat.beq pc 55) (some (.getfield 13, 58, [])) none) (cond (Nat.beq pc 58) (some (.bipush 27, 60, [])) none)) (cond (Nat.blt pc 61) (cond (Nat.beq pc 60) (some (.iconst 0, 61, [])) none) (cond (Nat.blt pc 62) (cond (Nat.beq pc 61) (some (.iastore, 62, [])) none) (cond (Nat.beq pc 62) (some (.iload_n 1, 63, [])) none)))) (cond (Nat.blt pc 66) (cond (Nat.blt pc 64) (cond (Nat.beq pc 63) (some (.iconst 1, 64, [])) none) (cond (Nat.blt pc 65) (cond (Nat.beq pc 64) (some (.iadd, 65, [])) none) (cond (Nat.beq pc 65) (some (.istore_n 2, 66, [])) none))) (cond (Nat.blt pc 67) (cond (Nat.beq pc 66) (some (.iload_n 2, 67, [])) none) (cond (Nat.blt pc 68) (cond (Nat.beq pc 67) (some (.aload_n 0, 68, [])) none) (cond (Nat.beq pc 68) (some (.getfield 177, 71, [])) none))))))) (cond (Nat.blt pc 113) (cond (Nat.blt pc 92) (cond (Nat.blt pc 80) (cond (Nat.blt pc 75) (cond (Nat.blt pc 74) (cond (Nat.beq pc 71) (some (.if_icmp .ge 115, 74, [186])) none) (cond (Nat.beq pc 74) (some (.aload_n 0, 75, [])) none)) (cond (Nat.blt pc 78) (cond (Nat.beq pc 75) (some (.getfield 51, 78, [])) none) (cond (Nat.blt pc 79) (cond (Nat.beq pc 78) (some (.iload_n 2, 79, [])) none) (cond (Nat.beq pc 79) (some (.iaload, 80, [])) none)))) (cond (Nat.blt pc 87) (cond (Nat.blt pc 81) (cond (Nat.beq pc 80) (some (.iload_n 1, 81, [])) none) (cond (Nat.blt pc 84) (cond (Nat.beq pc 81) (some (.if_icmp .eq 6, 84, [87])) none) (cond (Nat.beq pc 84) (some (.goto 96, 87, [180])) none))) (cond (Nat.blt pc 88) (cond (Nat.beq pc 87) (some (.aload_n 0, 88, [])) none) (cond (Nat.blt pc 89) (cond (Nat.beq pc 88) (some (.aload_n 0, 89, [])) none) (cond (Nat.beq pc 89) (some (.getfield 45, 92, [])) none))))) (cond (Nat.blt pc 100) (cond (Nat.blt pc 94) (cond (Nat.blt pc 93) (cond (Nat.beq pc 92) (some (.iload_n 2, 93, [])) none) (cond (Nat.beq pc 93) (some (.iaload, 94, [])) none)) (cond (Nat.blt pc 96) (cond (Nat.beq pc 94) (some (.bipush 25, 96, [])) none) (cond (Nat.blt pc 99) (cond (Nat.beq pc 96) (some (.invokevirtual 191, 99, [])) none) (cond (Nat.beq pc 99) (some (.aload_n 0, 100, [])) none)))) (cond (Nat.blt pc 107) (cond (Nat.blt pc 102) (cond (Nat.beq pc 100) (some (.bipush 25, 102, [])) none) (cond (Nat.blt pc 104) (cond (Nat.beq pc 102) (some (.bipush 33, 104, [])) none) (cond (Nat.beq pc 104) (some (.invokevirtual 91, 107, [])) none))) (cond (Nat.blt pc 110) (cond (Nat.beq pc 107) (some (.ifCond .ge 14, 110, [121])) none) (cond (Nat.blt pc 111) (cond (Nat.beq pc 110) (some (.aload_n 0, 111, [])) none) (cond (Nat.beq pc 111) (some (.bipush 25, 113, [])) none)))))) (cond (Nat.blt pc 133) (cond (Nat.blt pc 123) (cond (Nat.blt pc 118) (cond (Nat.blt pc 115) (cond (Nat.beq pc 113) (some (.bipush 27, 115, [])) none) (cond (Nat.beq pc 115) (some (.invokevirtual 91, 118, [])) none)) (cond (Nat.blt pc 121) (cond (Nat.beq pc 118) (some (.ifCond .gt 5, 121, [123])) none) (cond (Nat.blt pc 122) (cond (Nat.beq pc 121) (some (.iconst 0, 122, [])) none) (cond (Nat.beq pc 122) (some (.ireturn, 123, [])) none)))) (cond (Nat.blt pc 128) (cond (Nat.blt pc 124) (cond (Nat.beq pc 123) (some (.aload_n 0, 124, [])) none) (cond (Nat.blt pc 126) (cond (Nat.beq pc 124) (some (.bipush 25, 126, [])) none) (cond (Nat.beq pc 126) (some (.bipush 27, 128, [])) none))) (cond (Nat.blt pc 131) (cond (Nat.beq pc 128) (some (.invokevirtual 101, 131, [])) none) (cond (Nat.blt pc 132) (cond (Nat.beq pc 131) (some (.iconst 0, 132, [])) none) (cond (Nat.beq pc 132) (some (.istore_n 3, 133, [])) none))))) (cond (Nat.blt pc 140) (cond (Nat.blt pc 135) (cond (Nat.blt pc 134) (cond (Nat.beq pc 133) (some (.iload_n 3, 134, [])) none) (cond (Nat.beq pc 134) (some (.aload_n 0, 135, [])) none)) (cond (Nat.blt pc 138) (cond (Nat.beq pc 135) (some (.getfield 54, 138, [])) none) (cond (Nat.blt pc 139) (cond (Nat.beq pc 138) (some (.iload_n 2, 139, [])) none) (cond (Nat.beq pc 139) (some (.iaload, 140, [])) none)))) (cond (Nat.blt pc 146) (cond (Nat.blt pc 143) (cond (Nat.beq pc 140) (some (.if_icmp .ge 40, 143, [180])) none) (cond (Nat.blt pc 144) (cond (Nat.beq pc 143) (some (.aload_n 0, 144, [])) none) (cond (Nat.beq pc 144) (some (.bipush 26, 146, [])) none))) (cond (Nat.blt pc 148) (cond (Nat.beq pc 146) (some (.bipush 25, 148, [])) none) (cond (Nat.blt pc 150) (cond (Nat.beq pc 148) (some (.bipush 24, 150, [])) none) (cond (Nat.beq pc 150) (some (.invokevirtual 108, 153, [])) none)))))))) (cond (Nat.blt pc 239) (cond (Nat.blt pc 196) (cond (Nat.blt pc 171) (cond (Nat.blt pc 164) (cond (Nat.blt pc 156) (cond (Nat.blt pc 154) (cond (Nat.beq pc 153) (some (.aload_n 0, 154, [])) none) (cond (Nat.beq pc 154) (some (.bipush 24, 156, [])) none)) (cond (Nat.blt pc 158) (cond (Nat.beq pc 156) (some (.bipush 33, 158, [])) none) (cond (Nat.blt pc 161) (cond (Nat.beq pc 158) (some (.invokevirtual 91, 161, [])) none) (cond (Nat.beq pc 161) (some (.ifCond .lt 5, 164, [166])) none)))) (cond (Nat.blt pc 166) (cond (Nat.blt pc 165) (cond (Nat.beq pc 164) (some (.iconst 0, 165, [])) none) (cond (Nat.beq pc 165) (some (.ireturn, 166, [])) none)) (cond (Nat.blt pc 167) (cond (Nat.beq pc 166) (some (.aload_n 0, 167, [])) none) (cond (Nat.blt pc 169) (cond (Nat.beq pc 167) (some (.bipush 24, 169, [])) none) (cond (Nat.beq pc 169) (some (.bipush 26, 171, [])) none))))) (cond (Nat.blt pc 186) (cond (Nat.blt pc 177) (cond (Nat.blt pc 174) (cond (Nat.beq pc 171) (some (.invokevirtual 101, 174, [])) none) (cond (Nat.beq pc 174) (some (.iinc 3 1, 177, [])) none)) (cond (Nat.blt pc 180) (cond (Nat.beq pc 177) (some (.goto (-44), 180, [133])) none) (cond (Nat.blt pc 183) (cond (Nat.beq pc 180) (some (.iinc 2 1, 183, [])) none) (cond (Nat.beq pc 183) (some (.goto (-117), 186, [66])) none)))) (cond (Nat.blt pc 190) (cond (Nat.blt pc 187) (cond (Nat.beq pc 186) (some (.aload_n 0, 187, [])) none) (cond (Nat.blt pc 189) (cond (Nat.beq pc 187) (some (.bipush 24, 189, [])) none) (cond (Nat.beq pc 189) (some (.iconst 1, 190, [])) none))) (cond (Nat.blt pc 193) (cond (Nat.beq pc 190) (some (.invokevirtual 94, 193, [])) none) (cond (Nat.blt pc 194) (cond (Nat.beq pc 193) (some (.aload_n 0, 194, [])) none) (cond (Nat.beq pc 194) (some (.bipush 33, 196, [])) none)))))) (cond (Nat.blt pc 217) (cond (Nat.blt pc 206) (cond (Nat.blt pc 200) (cond (Nat.blt pc 198) (cond (Nat.beq pc 196) (some (.bipush 24, 198, [])) none) (cond (Nat.beq pc 198) (some (.bipush 28, 200, [])) none)) (cond (Nat.blt pc 203) (cond (Nat.beq pc 200) (some (.invokevirtual 156, 203, [])) none) (cond (Nat.blt pc 204) (cond (Nat.beq pc 203) (some (.aload_n 0, 204, [])) none) (cond (Nat.beq pc 204) (some (.bipush 26, 206, [])) none)))) (cond (Nat.blt pc 214) (cond (Nat.blt pc 208) (cond (Nat.beq pc 206) (some (.bipush 28, 208, [])) none) (cond (Nat.blt pc 211) (cond (Nat.beq pc 208) (some (.invokevirtual 91, 211, [])) none) (cond (Nat.beq pc 211) (some (.ifCond .eq 5, 214, [216])) none))) (cond (Nat.blt pc 215) (cond (Nat.beq pc 214) (some (.iconst 0, 215, [])) none) (cond (Nat.blt pc 216) (cond (Nat.beq pc 215) (some (.ireturn, 216, [])) none) (cond (Nat.beq pc 216) (some (.aload_n 0, 217, [])) none))))) (cond (Nat.blt pc 228) (cond (Nat.blt pc 221) (cond (Nat.blt pc 219) (cond (Nat.beq pc 217) (some (.bipush 34, 219, [])) none) (cond (Nat.beq pc 219) (some (.bipush 28, 221, [])) none)) (cond (Nat.blt pc 223) (cond (Nat.beq pc 221) (some (.bipush 33, 223, [])) none) (cond (Nat.blt pc 225) (cond (Nat.beq pc 223) (some (.bipush 29, 225, [])) none) (cond (Nat.beq pc 225) (some (.invokevirtual 159, 228, [])) none)))) (cond (Nat.blt pc 234) (cond (Nat.blt pc 229) (cond (Nat.beq pc 228) (some (.aload_n 0, 229, [])) none) (cond (Nat.blt pc 231) (cond (Nat.beq pc 229) (some (.bipush 29, 231, [])) none) (cond (Nat.beq pc 231) (some (.invokevirtual 165, 234, [])) none))) (cond (Nat.blt pc 237) (cond (Nat.beq pc 234) (some (.ifCond .ne 5, 237, [239])) none) (cond (Nat.blt pc 238) (cond (Nat.beq pc 237) (some (.iconst 0, 238, [])) none) (cond (Nat.beq pc 238) (some (.ireturn, 239, [])) none))))))) (cond (Nat.blt pc 276) (cond (Nat.blt pc 256) (cond (Nat.blt pc 244) (cond (Nat.blt pc 241) (cond (Nat.blt pc 240) (cond (Nat.beq pc 239) (some (.iload_n 1, 240, [])) none) (cond (Nat.beq pc 240) (some (.iconst 1, 241, [])) none)) (cond (Nat.blt pc 242) (cond (Nat.beq pc 241) (some (.iadd, 242, [])) none) (cond (Nat.blt pc 243) (cond (Nat.beq pc 242) (some (.istore_n 2, 243, [])) none) (cond (Nat.beq pc 243) (some (.iload_n 2, 244, [])) none)))) (cond (Nat.blt pc 251) (cond (Nat.blt pc 245) (cond (Nat.beq pc 244) (some (.aload_n 0, 245, [])) none) (cond (Nat.blt pc 248) (cond (Nat.beq pc 245) (some (.getfield 177, 248, [])) none) (cond (Nat.beq pc 248) (some (.if_icmp .ge 69, 251, [317])) none))) (cond (Nat.blt pc 252) (cond (Nat.beq pc 251) (some (.aload_n 0, 252, [])) none) (cond (Nat.blt pc 255) (cond (Nat.beq pc 252) (some (.getfield 51, 255, [])) none) (cond (Nat.beq pc 255) (some (.iload_n 2, 256, [])) none))))) (cond (Nat.blt pc 265) (cond (Nat.blt pc 258) (cond (Nat.blt pc 257) (cond (Nat.beq pc 256) (some (.iaload, 257, [])) none) (cond (Nat.beq pc 257) (some (.iload_n 1, 258, [])) none)) (cond (Nat.blt pc 261) (cond (Nat.beq pc 258) (some (.if_icmp .eq 6, 261, [264])) none) (cond (Nat.blt pc 264) (cond (Nat.beq pc 261) (some (.goto 50, 264, [311])) none) (cond (Nat.beq pc 264) (some (.aload_n 0, 265, [])) none)))) (cond (Nat.blt pc 270) (cond (Nat.blt pc 266) (cond (Nat.beq pc 265) (some (.aload_n 0, 266, [])) none) (cond (Nat.blt pc 269) (cond (Nat.beq pc 266) (some (.getfield 45, 269, [])) none) (cond (Nat.beq pc 269) (some (.iload_n 2, 270, [])) none))) (cond (Nat.blt pc 271) (cond (Nat.beq pc 270) (some (.iaload, 271, [])) none) (cond (Nat.blt pc 273) (cond (Nat.beq pc 271) (some (.bipush 25, 273, [])) none) (cond (Nat.beq pc 273) (some (.invokevirtual 191, 276, [])) none)))))) (cond (Nat.blt pc 297) (cond (Nat.blt pc 285) (cond (Nat.blt pc 279) (cond (Nat.blt pc 277) (cond (Nat.beq pc 276) (some (.aload_n 0, 277, [])) none) (cond (Nat.beq pc 277) (some (.bipush 28, 279, [])) none)) (cond (Nat.blt pc 281) (cond (Nat.beq pc 279) (some (.bipush 25, 281, [])) none) (cond (Nat.blt pc 283) (cond (Nat.beq pc 281) (some (.bipush 26, 283, [])) none) (cond (Nat.beq pc 283) (some (.bipush 32, 285, [])) none)))) (cond (Nat.blt pc 291) (cond (Nat.blt pc 288) (cond (Nat.beq pc 285) (some (.invokevirtual 97, 288, [])) none) (cond (Nat.blt pc 289) (cond (Nat.beq pc 288) (some (.aload_n 0, 289, [])) none) (cond (Nat.beq pc 289) (some (.bipush 34, 291, [])) none))) (cond (Nat.blt pc 293) (cond (Nat.beq pc 291) (some (.bipush 26, 293, [])) none) (cond (Nat.blt pc 295) (cond (Nat.beq pc 293) (some (.bipush 33, 295, [])) none) (cond (Nat.beq pc 295) (some (.bipush 29, 297, [])) none))))) (cond (Nat.blt pc 309) (cond (Nat.blt pc 301) (cond (Nat.blt pc 300) (cond (Nat.beq pc 297) (some (.invokevirtual 159, 300, [])) none) (cond (Nat.beq pc 300) (some (.aload_n 0, 301, [])) none)) (cond (Nat.blt pc 303) (cond (Nat.beq pc 301) (some (.bipush 29, 303, [])) none) (cond (Nat.blt pc 306) (cond (Nat.beq pc 303) (some (.invokevirtual 165, 306, [])) none) (cond (Nat.beq pc 306) (some (.ifCond .eq 5, 309, [311])) none)))) (cond (Nat.blt pc 314) (cond (Nat.blt pc 310) (cond (Nat.beq pc 309) (some (.iconst 0, 310, [])) none) (cond (Nat.blt pc 311) (cond (Nat.beq pc 310) (some (.ireturn, 311, [])) none) (cond (Nat.beq pc 311) (some (.iinc 2 1, 314, [])) none))) (cond (Nat.blt pc 317) (cond (Nat.beq pc 314) (some (.goto (-71), 317, [243])) none) (cond (Nat.blt pc 318) (cond (Nat.beq pc 317) (some (.iconst 1, 318, [])) none) (cond (Nat.beq pc 318) (some (.ireturn, 319, [])) none)))))))))
set_option maxRecDepth 100000 in
theorem kX8_isGood : okT cX8_isGood tX8_isGood 319 4 = true := by decide +kernel
def tX8_check : Tt := tWn 162 (fun pc => cond (Nat.blt pc 76) (cond (Nat.blt pc 36) (cond (Nat.blt pc 17) (cond (Nat.blt pc 10) (cond (Nat.blt pc 2) (cond (Nat.blt pc 1) (cond (Nat.beq pc 0) (some (.aload_n 0, 1, [])) none) (cond (Nat.beq pc 1) (some (.iload_n 1, 2, [])) none)) (cond (Nat.blt pc 5) (cond (Nat.beq pc 2) (some (.invokevirtual 138, 5, [])) none) (cond (Nat.blt pc 8) (cond (Nat.beq pc 5) (some (.ifCond .ne 6, 8, [11])) none) (cond (Nat.beq pc 8) (some (.bipush (-2), 10, [])) none)))) (cond (Nat.blt pc 12) (cond (Nat.blt pc 11) (cond (Nat.beq pc 10) (some (.ireturn, 11, [])) none) (cond (Nat.beq pc 11) (some (.aload_n 0, 12, [])) none)) (cond (Nat.blt pc 15) (cond (Nat.beq pc 12) (some (.invokevirtual 194, 15, [])) none) (cond (Nat.blt pc 16) (cond (Nat.beq pc 15) (some (.istore_n 2, 16, [])) none) (cond (Nat.beq pc 16) (some (.aload_n 0, 17, [])) none))))) (cond (Nat.blt pc 26) (cond (Nat.blt pc 21) (cond (Nat.blt pc 20) (cond (Nat.beq pc 17) (some (.getfield 144, 20, [])) none) (cond (Nat.beq pc 20) (some (.istore_n 3, 21, [])) none)) (cond (Nat.blt pc 22) (cond (Nat.beq pc 21) (some (.iload_n 2, 22, [])) none) (cond (Nat.blt pc 25) (cond (Nat.beq pc 22) (some (.ifCond .ne 10, 25, [32])) none) (cond (Nat.beq pc 25) (some (.aload_n 0, 26, [])) none)))) (cond (Nat.blt pc 31) (cond (Nat.blt pc 27) (cond (Nat.beq pc 26) (some (.iconst 0, 27, [])) none) (cond (Nat.blt pc 30) (cond (Nat.beq pc 27) (some (.putfield 144, 30, [])) none) (cond (Nat.beq pc 30) (some (.iconst 2, 31, [])) none))) (cond (Nat.blt pc 32) (cond (Nat.beq pc 31) (some (.ireturn, 32, [])) none) (cond (Nat.blt pc 33) (cond (Nat.beq pc 32) (some (.aload_n 0, 33, [])) none) (cond (Nat.beq pc 33) (some (.invokevirtual 124, 36, [])) none)))))) (cond (Nat.blt pc 53) (cond (Nat.blt pc 46) (cond (Nat.blt pc 40) (cond (Nat.blt pc 37) (cond (Nat.beq pc 36) (some (.aload_n 0, 37, [])) none) (cond (Nat.beq pc 37) (some (.invokevirtual 120, 40, [])) none)) (cond (Nat.blt pc 42) (cond (Nat.beq pc 40) (some (.bipush 6, 42, [])) none) (cond (Nat.blt pc 43) (cond (Nat.beq pc 42) (some (.aload_n 0, 43, [])) none) (cond (Nat.beq pc 43) (some (.getfield 13, 46, [])) none)))) (cond (Nat.blt pc 49) (cond (Nat.blt pc 47) (cond (Nat.beq pc 46) (some (.iload_n 1, 47, [])) none) (cond (Nat.blt pc 48) (cond (Nat.beq pc 47) (some (.iaload, 48, [])) none) (cond (Nat.beq pc 48) (some (.imul, 49, [])) none))) (cond (Nat.blt pc 50) (cond (Nat.beq pc 49) (some (.iadd, 50, [])) none) (cond (Nat.blt pc 52) (cond (Nat.beq pc 50) (some (.bipush 6, 52, [])) none) (cond (Nat.beq pc 52) (some (.iadd, 53, [])) none))))) (cond (Nat.blt pc 64) (cond (Nat.blt pc 57) (cond (Nat.blt pc 54) (cond (Nat.beq pc 53) (some (.aload_n 0, 54, [])) none) (cond (Nat.beq pc 54) (some (.getfield 70, 57, [])) none)) (cond (Nat.blt pc 60) (cond (Nat.beq pc 57) (some (.if_icmp .gt 7, 60, [64])) none) (cond (Nat.blt pc 61) (cond (Nat.beq pc 60) (some (.iconst 1, 61, [])) none) (cond (Nat.beq pc 61) (some (.goto 4, 64, [65])) none)))) (cond (Nat.blt pc 69) (cond (Nat.blt pc 65) (cond (Nat.beq pc 64) (some (.iconst 0, 65, [])) none) (cond (Nat.blt pc 67) (cond (Nat.beq pc 65) (some (.istore 4, 67, [])) none) (cond (Nat.beq pc 67) (some (.iload 4, 69, [])) none))) (cond (Nat.blt pc 71) (cond (Nat.beq pc 69) (some (.istore 5, 71, [])) none) (cond (Nat.blt pc 73) (cond (Nat.beq pc 71) (some (.iload 4, 73, [])) none) (cond (Nat.beq pc 73) (some (.ifCond .eq 63, 76, [136])) none))))))) (cond (Nat.blt pc 114) (cond (Nat.blt pc 92) (cond (Nat.blt pc 83) (cond (Nat.blt pc 78) (cond (Nat.blt pc 77) (cond (Nat.beq pc 76) (some (.aload_n 0, 77, [])) none) (cond (Nat.beq pc 77) (some (.aload_n 0, 78, [])) none)) (cond (Nat.blt pc 81) (cond (Nat.beq pc 78) (some (.getfield 45, 81, [])) none) (cond (Nat.blt pc 82) (cond (Nat.beq pc 81) (some (.iconst 0, 82, [])) none) (cond (Nat.beq pc 82) (some (.iaload, 83, [])) none)))) (cond (Nat.blt pc 88) (cond (Nat.blt pc 85) (cond (Nat.beq pc 83) (some (.bipush 33, 85, [])) none) (cond (Nat.beq pc 85) (some (.invokevirtual 191, 88, [])) none)) (cond (Nat.blt pc 89) (cond (Nat.beq pc 88) (some (.aload_n 0, 89, [])) none) (cond (Nat.blt pc 91) (cond (Nat.beq pc 89) (some (.bipush 33, 91, [])) none) (cond (Nat.beq pc 91) (some (.iload_n 1, 92, [])) none))))) (cond (Nat.blt pc 103) (cond (Nat.blt pc 98) (cond (Nat.blt pc 95) (cond (Nat.beq pc 92) (some (.invokevirtual 91, 95, [])) none) (cond (Nat.beq pc 95) (some (.ifCond .ne 7, 98, [102])) none)) (cond (Nat.blt pc 99) (cond (Nat.beq pc 98) (some (.iconst 1, 99, [])) none) (cond (Nat.blt pc 102) (cond (Nat.beq pc 99) (some (.goto 4, 102, [103])) none) (cond (Nat.beq pc 102) (some (.iconst 0, 103, [])) none)))) (cond (Nat.blt pc 108) (cond (Nat.blt pc 105) (cond (Nat.beq pc 103) (some (.istore 5, 105, [])) none) (cond (Nat.blt pc 106) (cond (Nat.beq pc 105) (some (.iconst 0, 106, [])) none) (cond (Nat.beq pc 106) (some (.istore 6, 108, [])) none))) (cond (Nat.blt pc 110) (cond (Nat.beq pc 108) (some (.iload 6, 110, [])) none) (cond (Nat.blt pc 111) (cond (Nat.beq pc 110) (some (.aload_n 0, 111, [])) none) (cond (Nat.beq pc 111) (some (.getfield 177, 114, [])) none)))))) (cond (Nat.blt pc 138) (cond (Nat.blt pc 125) (cond (Nat.blt pc 119) (cond (Nat.blt pc 117) (cond (Nat.beq pc 114) (some (.if_icmp .ge 22, 117, [136])) none) (cond (Nat.beq pc 117) (some (.iload 5, 119, [])) none)) (cond (Nat.blt pc 122) (cond (Nat.beq pc 119) (some (.ifCond .eq 17, 122, [136])) none) (cond (Nat.blt pc 123) (cond (Nat.beq pc 122) (some (.aload_n 0, 123, [])) none) (cond (Nat.beq pc 123) (some (.iload 6, 125, [])) none)))) (cond (Nat.blt pc 133) (cond (Nat.blt pc 128) (cond (Nat.beq pc 125) (some (.invokevirtual 197, 128, [])) none) (cond (Nat.blt pc 130) (cond (Nat.beq pc 128) (some (.istore 5, 130, [])) none) (cond (Nat.beq pc 130) (some (.iinc 6 1, 133, [])) none))) (cond (Nat.blt pc 136) (cond (Nat.beq pc 133) (some (.goto (-25), 136, [108])) none) (cond (Nat.blt pc 137) (cond (Nat.beq pc 136) (some (.aload_n 0, 137, [])) none) (cond (Nat.beq pc 137) (some (.iconst 0, 138, [])) none))))) (cond (Nat.blt pc 151) (cond (Nat.blt pc 143) (cond (Nat.blt pc 141) (cond (Nat.beq pc 138) (some (.putfield 144, 141, [])) none) (cond (Nat.beq pc 141) (some (.iload 4, 143, [])) none)) (cond (Nat.blt pc 146) (cond (Nat.beq pc 143) (some (.ifCond .ne 8, 146, [151])) none) (cond (Nat.blt pc 148) (cond (Nat.beq pc 146) (some (.bipush (-4), 148, [])) none) (cond (Nat.beq pc 148) (some (.goto 13, 151, [161])) none)))) (cond (Nat.blt pc 157) (cond (Nat.blt pc 153) (cond (Nat.beq pc 151) (some (.iload 5, 153, [])) none) (cond (Nat.blt pc 156) (cond (Nat.beq pc 153) (some (.ifCond .eq 7, 156, [160])) none) (cond (Nat.beq pc 156) (some (.iconst 0, 157, [])) none))) (cond (Nat.blt pc 160) (cond (Nat.beq pc 157) (some (.goto 4, 160, [161])) none) (cond (Nat.blt pc 161) (cond (Nat.beq pc 160) (some (.iconst 1, 161, [])) none) (cond (Nat.beq pc 161) (some (.ireturn, 162, [])) none))))))))
set_option maxRecDepth 100000 in
theorem kX8_check : okT cX8_check tX8_check 162 7 = true := by decide +kernel
def tX8_isPrime : Tt := tWn 44 (fun pc => cond (Nat.blt pc 20) (cond (Nat.blt pc 11) (cond (Nat.blt pc 5) (cond (Nat.blt pc 1) (cond (Nat.beq pc 0) (some (.iload_n 0, 1, [])) none) (cond (Nat.blt pc 2) (cond (Nat.beq pc 1) (some (.iconst 1, 2, [])) none) (cond (Nat.beq pc 2) (some (.if_icmp .le 7, 5, [9])) none))) (cond (Nat.blt pc 9) (cond (Nat.blt pc 6) (cond (Nat.beq pc 5) (some (.iconst 1, 6, [])) none) (cond (Nat.beq pc 6) (some (.goto 4, 9, [10])) none)) (cond (Nat.blt pc 10) (cond (Nat.beq pc 9) (some (.iconst 0, 10, [])) none) (cond (Nat.beq pc 10) (some (.istore_n 1, 11, [])) none)))) (cond (Nat.blt pc 14) (cond (Nat.blt pc 12) (cond (Nat.beq pc 11) (some (.iconst 2, 12, [])) none) (cond (Nat.blt pc 13) (cond (Nat.beq pc 12) (some (.istore_n 2, 13, [])) none) (cond (Nat.beq pc 13) (some (.iload_n 2, 14, [])) none))) (cond (Nat.blt pc 16) (cond (Nat.blt pc 15) (cond (Nat.beq pc 14) (some (.iload_n 0, 15, [])) none) (cond (Nat.beq pc 15) (some (.iload_n 2, 16, [])) none)) (cond (Nat.blt pc 17) (cond (Nat.beq pc 16) (some (.idiv, 17, [])) none) (cond (Nat.beq pc 17) (some (.if_icmp .gt 25, 20, [42])) none))))) (cond (Nat.blt pc 31) (cond (Nat.blt pc 25) (cond (Nat.blt pc 21) (cond (Nat.beq pc 20) (some (.iload_n 1, 21, [])) none) (cond (Nat.blt pc 24) (cond (Nat.beq pc 21) (some (.ifCond .eq 21, 24, [42])) none) (cond (Nat.beq pc 24) (some (.iload_n 0, 25, [])) none))) (cond (Nat.blt pc 27) (cond (Nat.blt pc 26) (cond (Nat.beq pc 25) (some (.iload_n 2, 26, [])) none) (cond (Nat.beq pc 26) (some (.irem, 27, [])) none)) (cond (Nat.blt pc 30) (cond (Nat.beq pc 27) (some (.ifCond .eq 7, 30, [34])) none) (cond (Nat.beq pc 30) (some (.iconst 1, 31, [])) none)))) (cond (Nat.blt pc 36) (cond (Nat.blt pc 34) (cond (Nat.beq pc 31) (some (.goto 4, 34, [35])) none) (cond (Nat.blt pc 35) (cond (Nat.beq pc 34) (some (.iconst 0, 35, [])) none) (cond (Nat.beq pc 35) (some (.istore_n 1, 36, [])) none))) (cond (Nat.blt pc 42) (cond (Nat.blt pc 39) (cond (Nat.beq pc 36) (some (.iinc 2 1, 39, [])) none) (cond (Nat.beq pc 39) (some (.goto (-26), 42, [13])) none)) (cond (Nat.blt pc 43) (cond (Nat.beq pc 42) (some (.iload_n 1, 43, [])) none) (cond (Nat.beq pc 43) (some (.ireturn, 44, [])) none))))))
set_option maxRecDepth 100000 in
theorem kX8_isPrime : okT cX8_isPrime tX8_isPrime 44 3 = true := by decide +kernel
def tX8_powers : Tt := tWn 61 (fun pc => cond (Nat.blt pc 30) (cond (Nat.blt pc 11) (cond (Nat.blt pc 5) (cond (Nat.blt pc 2) (cond (Nat.blt pc 1) (cond (Nat.beq pc 0) (some (.lconst 1, 1, [])) none) (cond (Nat.beq pc 1) (some (.iload_n 2, 2, [])) none)) (cond (Nat.blt pc 3) (cond (Nat.beq pc 2) (some (.i2l, 3, [])) none) (cond (Nat.blt pc 4) (cond (Nat.beq pc 3) (some (.lrem, 4, [])) none) (cond (Nat.beq pc 4) (some (.lstore_n 3, 5, [])) none)))) (cond (Nat.blt pc 7) (cond (Nat.blt pc 6) (cond (Nat.beq pc 5) (some (.iload_n 0, 6, [])) none) (cond (Nat.beq pc 6) (some (.iload_n 2, 7, [])) none)) (cond (Nat.blt pc 8) (cond (Nat.beq pc 7) (some (.irem, 8, [])) none) (cond (Nat.blt pc 9) (cond (Nat.beq pc 8) (some (.i2l, 9, [])) none) (cond (Nat.beq pc 9) (some (.lstore 5, 11, [])) none))))) (cond (Nat.blt pc 21) (cond (Nat.blt pc 14) (cond (Nat.blt pc 12) (cond (Nat.beq pc 11) (some (.iload_n 1, 12, [])) none) (cond (Nat.beq pc 12) (some (.istore 7, 14, [])) none)) (cond (Nat.blt pc 16) (cond (Nat.beq pc 14) (some (.iload 7, 16, [])) none) (cond (Nat.blt pc 19) (cond (Nat.beq pc 16) (some (.ifCond .le 42, 19, [58])) none) (cond (Nat.beq pc 19) (some (.iload 7, 21, [])) none)))) (cond (Nat.blt pc 24) (cond (Nat.blt pc 22) (cond (Nat.beq pc 21) (some (.iconst 2, 22, [])) none) (cond (Nat.blt pc 23) (cond (Nat.beq pc 22) (some (.irem, 23, [])) none) (cond (Nat.beq pc 23) (some (.iconst 1, 24, [])) none))) (cond (Nat.blt pc 27) (cond (Nat.beq pc 24) (some (.if_icmp .ne 13, 27, [37])) none) (cond (Nat.blt pc 28) (cond (Nat.beq pc 27) (some (.lload_n 3, 28, [])) none) (cond (Nat.beq pc 28) (some (.lload 5, 30, [])) none)))))) (cond (Nat.blt pc 45) (cond (Nat.blt pc 37) (cond (Nat.blt pc 32) (cond (Nat.blt pc 31) (cond (Nat.beq pc 30) (some (.lmul, 31, [])) none) (cond (Nat.beq pc 31) (some (.iload_n 2, 32, [])) none)) (cond (Nat.blt pc 33) (cond (Nat.beq pc 32) (some (.i2l, 33, [])) none) (cond (Nat.blt pc 34) (cond (Nat.beq pc 33) (some (.lrem, 34, [])) none) (cond (Nat.beq pc 34) (some (.goto 4, 37, [38])) none)))) (cond (Nat.blt pc 41) (cond (Nat.blt pc 38) (cond (Nat.beq pc 37) (some (.lload_n 3, 38, [])) none) (cond (Nat.blt pc 39) (cond (Nat.beq pc 38) (some (.lstore_n 3, 39, [])) none) (cond (Nat.beq pc 39) (some (.lload 5, 41, [])) none))) (cond (Nat.blt pc 43) (cond (Nat.beq pc 41) (some (.lload 5, 43, [])) none) (cond (Nat.blt pc 44) (cond (Nat.beq pc 43) (some (.lmul, 44, [])) none) (cond (Nat.beq pc 44) (some (.iload_n 2, 45, [])) none))))) (cond (Nat.blt pc 52) (cond (Nat.blt pc 47) (cond (Nat.blt pc 46) (cond (Nat.beq pc 45) (some (.i2l, 46, [])) none) (cond (Nat.beq pc 46) (some (.lrem, 47, [])) none)) (cond (Nat.blt pc 49) (cond (Nat.beq pc 47) (some (.lstore 5, 49, [])) none) (cond (Nat.blt pc 51) (cond (Nat.beq pc 49) (some (.iload 7, 51, [])) none) (cond (Nat.beq pc 51) (some (.iconst 2, 52, [])) none)))) (cond (Nat.blt pc 58) (cond (Nat.blt pc 53) (cond (Nat.beq pc 52) (some (.idiv, 53, [])) none) (cond (Nat.blt pc 55) (cond (Nat.beq pc 53) (some (.istore 7, 55, [])) none) (cond (Nat.beq pc 55) (some (.goto (-41), 58, [14])) none))) (cond (Nat.blt pc 59) (cond (Nat.beq pc 58) (some (.lload_n 3, 59, [])) none) (cond (Nat.blt pc 60) (cond (Nat.beq pc 59) (some (.l2i, 60, [])) none) (cond (Nat.beq pc 60) (some (.ireturn, 61, [])) none)))))))
set_option maxRecDepth 100000 in
theorem kX8_powers : okT cX8_powers tX8_powers 61 8 = true := by decide +kernel
def tX8_writes : Tt := tWn 31 (fun pc => cond (Nat.blt pc 18) (cond (Nat.blt pc 10) (cond (Nat.blt pc 4) (cond (Nat.blt pc 1) (cond (Nat.beq pc 0) (some (.aload_n 0, 1, [])) none) (cond (Nat.beq pc 1) (some (.getfield 200, 4, [])) none)) (cond (Nat.blt pc 7) (cond (Nat.beq pc 4) (some (.sipush 4000, 7, [])) none) (cond (Nat.beq pc 7) (some (.if_icmp .ge 13, 10, [20])) none))) (cond (Nat.blt pc 14) (cond (Nat.blt pc 11) (cond (Nat.beq pc 10) (some (.aload_n 0, 11, [])) none) (cond (Nat.beq pc 11) (some (.getfield 60, 14, [])) none)) (cond (Nat.blt pc 15) (cond (Nat.beq pc 14) (some (.aload_n 0, 15, [])) none) (cond (Nat.beq pc 15) (some (.getfield 200, 18, [])) none)))) (cond (Nat.blt pc 22) (cond (Nat.blt pc 20) (cond (Nat.blt pc 19) (cond (Nat.beq pc 18) (some (.iload_n 1, 19, [])) none) (cond (Nat.beq pc 19) (some (.iastore, 20, [])) none)) (cond (Nat.blt pc 21) (cond (Nat.beq pc 20) (some (.aload_n 0, 21, [])) none) (cond (Nat.beq pc 21) (some (.dup, 22, [])) none))) (cond (Nat.blt pc 26) (cond (Nat.blt pc 25) (cond (Nat.beq pc 22) (some (.getfield 200, 25, [])) none) (cond (Nat.beq pc 25) (some (.iconst 1, 26, [])) none)) (cond (Nat.blt pc 27) (cond (Nat.beq pc 26) (some (.iadd, 27, [])) none) (cond (Nat.blt pc 30) (cond (Nat.beq pc 27) (some (.putfield 200, 30, [])) none) (cond (Nat.beq pc 30) (some (.return_, 31, [])) none))))))
set_option maxRecDepth 100000 in
theorem kX8_writes : okT cX8_writes tX8_writes 31 2 = true := by decide +kernel
def tX8_writesNumber : Tt := tWn 38 (fun pc => cond (Nat.blt pc 19) (cond (Nat.blt pc 8) (cond (Nat.blt pc 2) (cond (Nat.blt pc 1) (cond (Nat.beq pc 0) (some (.aload_n 0, 1, [])) none) (cond (Nat.beq pc 1) (some (.iload_n 1, 2, [])) none)) (cond (Nat.blt pc 4) (cond (Nat.beq pc 2) (some (.ldc 84, 4, [])) none) (cond (Nat.blt pc 7) (cond (Nat.beq pc 4) (some (.if_icmp .ge 7, 7, [11])) none) (cond (Nat.beq pc 7) (some (.iconst 1, 8, [])) none)))) (cond (Nat.blt pc 15) (cond (Nat.blt pc 11) (cond (Nat.beq pc 8) (some (.goto 4, 11, [12])) none) (cond (Nat.blt pc 12) (cond (Nat.beq pc 11) (some (.iconst 2, 12, [])) none) (cond (Nat.beq pc 12) (some (.invokevirtual 203, 15, [])) none))) (cond (Nat.blt pc 16) (cond (Nat.beq pc 15) (some (.aload_n 0, 16, [])) none) (cond (Nat.blt pc 17) (cond (Nat.beq pc 16) (some (.iload_n 1, 17, [])) none) (cond (Nat.beq pc 17) (some (.ldc 84, 19, [])) none))))) (cond (Nat.blt pc 29) (cond (Nat.blt pc 23) (cond (Nat.blt pc 20) (cond (Nat.beq pc 19) (some (.irem, 20, [])) none) (cond (Nat.beq pc 20) (some (.invokevirtual 203, 23, [])) none)) (cond (Nat.blt pc 24) (cond (Nat.beq pc 23) (some (.iload_n 1, 24, [])) none) (cond (Nat.blt pc 26) (cond (Nat.beq pc 24) (some (.ldc 84, 26, [])) none) (cond (Nat.beq pc 26) (some (.if_icmp .lt 11, 29, [37])) none)))) (cond (Nat.blt pc 33) (cond (Nat.blt pc 30) (cond (Nat.beq pc 29) (some (.aload_n 0, 30, [])) none) (cond (Nat.blt pc 31) (cond (Nat.beq pc 30) (some (.iload_n 1, 31, [])) none) (cond (Nat.beq pc 31) (some (.ldc 84, 33, [])) none))) (cond (Nat.blt pc 34) (cond (Nat.beq pc 33) (some (.idiv, 34, [])) none) (cond (Nat.blt pc 37) (cond (Nat.beq pc 34) (some (.invokevirtual 203, 37, [])) none) (cond (Nat.beq pc 37) (some (.return_, 38, [])) none))))))
set_option maxRecDepth 100000 in
theorem kX8_writesNumber : okT cX8_writesNumber tX8_writesNumber 38 2 = true := by decide +kernel
def tX8_does : Tt := tWn 80 (fun pc => cond (Nat.blt pc 36) (cond (Nat.blt pc 18) (cond (Nat.blt pc 9) (cond (Nat.blt pc 3) (cond (Nat.blt pc 1) (cond (Nat.beq pc 0) (some (.iload_n 0, 1, [])) none) (cond (Nat.blt pc 2) (cond (Nat.beq pc 1) (some (.iload_n 1, 2, [])) none) (cond (Nat.beq pc 2) (some (.iconst 1, 3, [])) none))) (cond (Nat.blt pc 5) (cond (Nat.blt pc 4) (cond (Nat.beq pc 3) (some (.isub, 4, [])) none) (cond (Nat.beq pc 4) (some (.iload_n 1, 5, [])) none)) (cond (Nat.blt pc 8) (cond (Nat.beq pc 5) (some (.invokestatic 207, 8, [])) none) (cond (Nat.beq pc 8) (some (.iconst 1, 9, [])) none)))) (cond (Nat.blt pc 14) (cond (Nat.blt pc 12) (cond (Nat.beq pc 9) (some (.if_icmp .eq 5, 12, [14])) none) (cond (Nat.blt pc 13) (cond (Nat.beq pc 12) (some (.iconst 0, 13, [])) none) (cond (Nat.beq pc 13) (some (.ireturn, 14, [])) none))) (cond (Nat.blt pc 16) (cond (Nat.blt pc 15) (cond (Nat.beq pc 14) (some (.iload_n 1, 15, [])) none) (cond (Nat.beq pc 15) (some (.iconst 1, 16, [])) none)) (cond (Nat.blt pc 17) (cond (Nat.beq pc 16) (some (.isub, 17, [])) none) (cond (Nat.beq pc 17) (some (.istore_n 2, 18, [])) none))))) (cond (Nat.blt pc 27) (cond (Nat.blt pc 21) (cond (Nat.blt pc 19) (cond (Nat.beq pc 18) (some (.iconst 2, 19, [])) none) (cond (Nat.blt pc 20) (cond (Nat.beq pc 19) (some (.istore_n 3, 20, [])) none) (cond (Nat.beq pc 20) (some (.iload_n 2, 21, [])) none))) (cond (Nat.blt pc 25) (cond (Nat.blt pc 22) (cond (Nat.beq pc 21) (some (.iconst 1, 22, [])) none) (cond (Nat.beq pc 22) (some (.if_icmp .le 56, 25, [78])) none)) (cond (Nat.blt pc 26) (cond (Nat.beq pc 25) (some (.iload_n 3, 26, [])) none) (cond (Nat.beq pc 26) (some (.iload_n 2, 27, [])) none)))) (cond (Nat.blt pc 32) (cond (Nat.blt pc 28) (cond (Nat.beq pc 27) (some (.iload_n 3, 28, [])) none) (cond (Nat.blt pc 29) (cond (Nat.beq pc 28) (some (.idiv, 29, [])) none) (cond (Nat.beq pc 29) (some (.if_icmp .le 5, 32, [34])) none))) (cond (Nat.blt pc 34) (cond (Nat.blt pc 33) (cond (Nat.beq pc 32) (some (.iload_n 2, 33, [])) none) (cond (Nat.beq pc 33) (some (.istore_n 3, 34, [])) none)) (cond (Nat.blt pc 35) (cond (Nat.beq pc 34) (some (.iload_n 2, 35, [])) none) (cond (Nat.beq pc 35) (some (.iload_n 3, 36, [])) none)))))) (cond (Nat.blt pc 58) (cond (Nat.blt pc 49) (cond (Nat.blt pc 43) (cond (Nat.blt pc 37) (cond (Nat.beq pc 36) (some (.irem, 37, [])) none) (cond (Nat.blt pc 40) (cond (Nat.beq pc 37) (some (.ifCond .eq 6, 40, [43])) none) (cond (Nat.beq pc 40) (some (.goto 32, 43, [72])) none))) (cond (Nat.blt pc 45) (cond (Nat.blt pc 44) (cond (Nat.beq pc 43) (some (.iload_n 2, 44, [])) none) (cond (Nat.beq pc 44) (some (.iload_n 3, 45, [])) none)) (cond (Nat.blt pc 46) (cond (Nat.beq pc 45) (some (.irem, 46, [])) none) (cond (Nat.beq pc 46) (some (.ifCond .ne 10, 49, [56])) none)))) (cond (Nat.blt pc 52) (cond (Nat.blt pc 50) (cond (Nat.beq pc 49) (some (.iload_n 2, 50, [])) none) (cond (Nat.blt pc 51) (cond (Nat.beq pc 50) (some (.iload_n 3, 51, [])) none) (cond (Nat.beq pc 51) (some (.idiv, 52, [])) none))) (cond (Nat.blt pc 56) (cond (Nat.blt pc 53) (cond (Nat.beq pc 52) (some (.istore_n 2, 53, [])) none) (cond (Nat.beq pc 53) (some (.goto (-10), 56, [43])) none)) (cond (Nat.blt pc 57) (cond (Nat.beq pc 56) (some (.iload_n 0, 57, [])) none) (cond (Nat.beq pc 57) (some (.iload_n 1, 58, [])) none))))) (cond (Nat.blt pc 67) (cond (Nat.blt pc 61) (cond (Nat.blt pc 59) (cond (Nat.beq pc 58) (some (.iconst 1, 59, [])) none) (cond (Nat.blt pc 60) (cond (Nat.beq pc 59) (some (.isub, 60, [])) none) (cond (Nat.beq pc 60) (some (.iload_n 3, 61, [])) none))) (cond (Nat.blt pc 63) (cond (Nat.blt pc 62) (cond (Nat.beq pc 61) (some (.idiv, 62, [])) none) (cond (Nat.beq pc 62) (some (.iload_n 1, 63, [])) none)) (cond (Nat.blt pc 66) (cond (Nat.beq pc 63) (some (.invokestatic 207, 66, [])) none) (cond (Nat.beq pc 66) (some (.iconst 1, 67, [])) none)))) (cond (Nat.blt pc 72) (cond (Nat.blt pc 70) (cond (Nat.beq pc 67) (some (.if_icmp .ne 5, 70, [72])) none) (cond (Nat.blt pc 71) (cond (Nat.beq pc 70) (some (.iconst 0, 71, [])) none) (cond (Nat.beq pc 71) (some (.ireturn, 72, [])) none))) (cond (Nat.blt pc 78) (cond (Nat.blt pc 75) (cond (Nat.beq pc 72) (some (.iinc 3 1, 75, [])) none) (cond (Nat.beq pc 75) (some (.goto (-55), 78, [20])) none)) (cond (Nat.blt pc 79) (cond (Nat.beq pc 78) (some (.iconst 1, 79, [])) none) (cond (Nat.beq pc 79) (some (.ireturn, 80, [])) none)))))))
set_option maxRecDepth 100000 in
theorem kX8_does : okT cX8_does tX8_does 80 4 = true := by decide +kernel
def tX8_certificate : Tt := tWn 197 (fun pc => cond (Nat.blt pc 97) (cond (Nat.blt pc 51) (cond (Nat.blt pc 26) (cond (Nat.blt pc 11) (cond (Nat.blt pc 5) (cond (Nat.blt pc 1) (cond (Nat.beq pc 0) (some (.aload_n 0, 1, [])) none) (cond (Nat.blt pc 2) (cond (Nat.beq pc 1) (some (.aload_n 0, 2, [])) none) (cond (Nat.beq pc 2) (some (.getfield 210, 5, [])) none))) (cond (Nat.blt pc 8) (cond (Nat.beq pc 5) (some (.ifCond .ne 9, 8, [14])) none) (cond (Nat.blt pc 9) (cond (Nat.beq pc 8) (some (.iload_n 2, 9, [])) none) (cond (Nat.beq pc 9) (some (.bipush 12, 11, [])) none)))) (cond (Nat.blt pc 18) (cond (Nat.blt pc 14) (cond (Nat.beq pc 11) (some (.if_icmp .le 7, 14, [18])) none) (cond (Nat.blt pc 15) (cond (Nat.beq pc 14) (some (.iconst 1, 15, [])) none) (cond (Nat.beq pc 15) (some (.goto 4, 18, [19])) none))) (cond (Nat.blt pc 22) (cond (Nat.blt pc 19) (cond (Nat.beq pc 18) (some (.iconst 0, 19, [])) none) (cond (Nat.beq pc 19) (some (.putfield 210, 22, [])) none)) (cond (Nat.blt pc 23) (cond (Nat.beq pc 22) (some (.aload_n 0, 23, [])) none) (cond (Nat.beq pc 23) (some (.getfield 210, 26, [])) none))))) (cond (Nat.blt pc 40) (cond (Nat.blt pc 33) (cond (Nat.blt pc 29) (cond (Nat.beq pc 26) (some (.ifCond .ne 13, 29, [39])) none) (cond (Nat.blt pc 30) (cond (Nat.beq pc 29) (some (.aload_n 0, 30, [])) none) (cond (Nat.beq pc 30) (some (.getfield 200, 33, [])) none))) (cond (Nat.blt pc 36) (cond (Nat.beq pc 33) (some (.sipush 4000, 36, [])) none) (cond (Nat.blt pc 39) (cond (Nat.beq pc 36) (some (.if_icmp .lt 4, 39, [40])) none) (cond (Nat.beq pc 39) (some (.return_, 40, [])) none)))) (cond (Nat.blt pc 45) (cond (Nat.blt pc 41) (cond (Nat.beq pc 40) (some (.aload_n 0, 41, [])) none) (cond (Nat.blt pc 42) (cond (Nat.beq pc 41) (some (.iload_n 1, 42, [])) none) (cond (Nat.beq pc 42) (some (.invokevirtual 214, 45, [])) none))) (cond (Nat.blt pc 47) (cond (Nat.blt pc 46) (cond (Nat.beq pc 45) (some (.iload_n 1, 46, [])) none) (cond (Nat.beq pc 46) (some (.iconst 2, 47, [])) none)) (cond (Nat.blt pc 50) (cond (Nat.beq pc 47) (some (.if_icmp .ne 4, 50, [51])) none) (cond (Nat.beq pc 50) (some (.return_, 51, [])) none)))))) (cond (Nat.blt pc 76) (cond (Nat.blt pc 61) (cond (Nat.blt pc 54) (cond (Nat.blt pc 52) (cond (Nat.beq pc 51) (some (.iconst 1, 52, [])) none) (cond (Nat.blt pc 53) (cond (Nat.beq pc 52) (some (.istore_n 3, 53, [])) none) (cond (Nat.beq pc 53) (some (.iload_n 3, 54, [])) none))) (cond (Nat.blt pc 55) (cond (Nat.beq pc 54) (some (.iload_n 1, 55, [])) none) (cond (Nat.blt pc 58) (cond (Nat.beq pc 55) (some (.invokestatic 217, 58, [])) none) (cond (Nat.beq pc 58) (some (.ifCond .ne 9, 61, [67])) none)))) (cond (Nat.blt pc 68) (cond (Nat.blt pc 64) (cond (Nat.beq pc 61) (some (.iinc 3 1, 64, [])) none) (cond (Nat.blt pc 67) (cond (Nat.beq pc 64) (some (.goto (-11), 67, [53])) none) (cond (Nat.beq pc 67) (some (.aload_n 0, 68, [])) none))) (cond (Nat.blt pc 72) (cond (Nat.blt pc 69) (cond (Nat.beq pc 68) (some (.iload_n 3, 69, [])) none) (cond (Nat.beq pc 69) (some (.invokevirtual 214, 72, [])) none)) (cond (Nat.blt pc 73) (cond (Nat.beq pc 72) (some (.aload_n 0, 73, [])) none) (cond (Nat.beq pc 73) (some (.getfield 200, 76, [])) none))))) (cond (Nat.blt pc 85) (cond (Nat.blt pc 80) (cond (Nat.blt pc 78) (cond (Nat.beq pc 76) (some (.istore 4, 78, [])) none) (cond (Nat.blt pc 79) (cond (Nat.beq pc 78) (some (.aload_n 0, 79, [])) none) (cond (Nat.beq pc 79) (some (.iconst 0, 80, [])) none))) (cond (Nat.blt pc 83) (cond (Nat.beq pc 80) (some (.invokevirtual 203, 83, [])) none) (cond (Nat.blt pc 84) (cond (Nat.beq pc 83) (some (.iload_n 1, 84, [])) none) (cond (Nat.beq pc 84) (some (.iconst 1, 85, [])) none)))) (cond (Nat.blt pc 89) (cond (Nat.blt pc 86) (cond (Nat.beq pc 85) (some (.isub, 86, [])) none) (cond (Nat.blt pc 88) (cond (Nat.beq pc 86) (some (.istore 5, 88, [])) none) (cond (Nat.beq pc 88) (some (.iconst 2, 89, [])) none))) (cond (Nat.blt pc 93) (cond (Nat.blt pc 91) (cond (Nat.beq pc 89) (some (.istore 6, 91, [])) none) (cond (Nat.beq pc 91) (some (.iload 5, 93, [])) none)) (cond (Nat.blt pc 94) (cond (Nat.beq pc 93) (some (.iconst 1, 94, [])) none) (cond (Nat.beq pc 94) (some (.if_icmp .le 102, 97, [196])) none))))))) (cond (Nat.blt pc 150) (cond (Nat.blt pc 123) (cond (Nat.blt pc 109) (cond (Nat.blt pc 103) (cond (Nat.blt pc 99) (cond (Nat.beq pc 97) (some (.iload 6, 99, [])) none) (cond (Nat.blt pc 101) (cond (Nat.beq pc 99) (some (.iload 5, 101, [])) none) (cond (Nat.beq pc 101) (some (.iload 6, 103, [])) none))) (cond (Nat.blt pc 104) (cond (Nat.beq pc 103) (some (.idiv, 104, [])) none) (cond (Nat.blt pc 107) (cond (Nat.beq pc 104) (some (.if_icmp .le 7, 107, [111])) none) (cond (Nat.beq pc 107) (some (.iload 5, 109, [])) none)))) (cond (Nat.blt pc 115) (cond (Nat.blt pc 111) (cond (Nat.beq pc 109) (some (.istore 6, 111, [])) none) (cond (Nat.blt pc 113) (cond (Nat.beq pc 111) (some (.iload 5, 113, [])) none) (cond (Nat.beq pc 113) (some (.iload 6, 115, [])) none))) (cond (Nat.blt pc 119) (cond (Nat.blt pc 116) (cond (Nat.beq pc 115) (some (.irem, 116, [])) none) (cond (Nat.beq pc 116) (some (.ifCond .eq 6, 119, [122])) none)) (cond (Nat.blt pc 122) (cond (Nat.beq pc 119) (some (.goto 71, 122, [190])) none) (cond (Nat.beq pc 122) (some (.iconst 0, 123, [])) none))))) (cond (Nat.blt pc 135) (cond (Nat.blt pc 129) (cond (Nat.blt pc 125) (cond (Nat.beq pc 123) (some (.istore 7, 125, [])) none) (cond (Nat.blt pc 127) (cond (Nat.beq pc 125) (some (.iload 5, 127, [])) none) (cond (Nat.beq pc 127) (some (.iload 6, 129, [])) none))) (cond (Nat.blt pc 130) (cond (Nat.beq pc 129) (some (.irem, 130, [])) none) (cond (Nat.blt pc 133) (cond (Nat.beq pc 130) (some (.ifCond .ne 16, 133, [146])) none) (cond (Nat.beq pc 133) (some (.iload 5, 135, [])) none)))) (cond (Nat.blt pc 140) (cond (Nat.blt pc 137) (cond (Nat.beq pc 135) (some (.iload 6, 137, [])) none) (cond (Nat.blt pc 138) (cond (Nat.beq pc 137) (some (.idiv, 138, [])) none) (cond (Nat.beq pc 138) (some (.istore 5, 140, [])) none))) (cond (Nat.blt pc 146) (cond (Nat.blt pc 143) (cond (Nat.beq pc 140) (some (.iinc 7 1, 143, [])) none) (cond (Nat.beq pc 143) (some (.goto (-18), 146, [125])) none)) (cond (Nat.blt pc 147) (cond (Nat.beq pc 146) (some (.aload_n 0, 147, [])) none) (cond (Nat.beq pc 147) (some (.getfield 60, 150, [])) none)))))) (cond (Nat.blt pc 168) (cond (Nat.blt pc 157) (cond (Nat.blt pc 154) (cond (Nat.blt pc 152) (cond (Nat.beq pc 150) (some (.iload 4, 152, [])) none) (cond (Nat.blt pc 153) (cond (Nat.beq pc 152) (some (.dup2, 153, [])) none) (cond (Nat.beq pc 153) (some (.iaload, 154, [])) none))) (cond (Nat.blt pc 155) (cond (Nat.beq pc 154) (some (.iconst 1, 155, [])) none) (cond (Nat.blt pc 156) (cond (Nat.beq pc 155) (some (.iadd, 156, [])) none) (cond (Nat.beq pc 156) (some (.iastore, 157, [])) none)))) (cond (Nat.blt pc 163) (cond (Nat.blt pc 158) (cond (Nat.beq pc 157) (some (.aload_n 0, 158, [])) none) (cond (Nat.blt pc 160) (cond (Nat.beq pc 158) (some (.iload 7, 160, [])) none) (cond (Nat.beq pc 160) (some (.invokevirtual 203, 163, [])) none))) (cond (Nat.blt pc 166) (cond (Nat.blt pc 164) (cond (Nat.beq pc 163) (some (.aload_n 0, 164, [])) none) (cond (Nat.beq pc 164) (some (.iload 6, 166, [])) none)) (cond (Nat.blt pc 167) (cond (Nat.beq pc 166) (some (.iload_n 2, 167, [])) none) (cond (Nat.beq pc 167) (some (.iconst 1, 168, [])) none))))) (cond (Nat.blt pc 180) (cond (Nat.blt pc 173) (cond (Nat.blt pc 169) (cond (Nat.beq pc 168) (some (.iadd, 169, [])) none) (cond (Nat.blt pc 172) (cond (Nat.beq pc 169) (some (.invokevirtual 220, 172, [])) none) (cond (Nat.beq pc 172) (some (.aload_n 0, 173, [])) none))) (cond (Nat.blt pc 176) (cond (Nat.beq pc 173) (some (.getfield 210, 176, [])) none) (cond (Nat.blt pc 179) (cond (Nat.beq pc 176) (some (.ifCond .ne 13, 179, [189])) none) (cond (Nat.beq pc 179) (some (.aload_n 0, 180, [])) none)))) (cond (Nat.blt pc 189) (cond (Nat.blt pc 183) (cond (Nat.beq pc 180) (some (.getfield 200, 183, [])) none) (cond (Nat.blt pc 186) (cond (Nat.beq pc 183) (some (.sipush 4000, 186, [])) none) (cond (Nat.beq pc 186) (some (.if_icmp .lt 4, 189, [190])) none))) (cond (Nat.blt pc 193) (cond (Nat.blt pc 190) (cond (Nat.beq pc 189) (some (.return_, 190, [])) none) (cond (Nat.beq pc 190) (some (.iinc 6 1, 193, [])) none)) (cond (Nat.blt pc 196) (cond (Nat.beq pc 193) (some (.goto (-102), 196, [91])) none) (cond (Nat.beq pc 196) (some (.return_, 197, [])) none))))))))
set_option maxRecDepth 100000 in
theorem kX8_certificate : okT cX8_certificate tX8_certificate 197 8 = true := by decide +kernel
def tX8_prove : Tt := tWn 128 (fun pc => cond (Nat.blt pc 60) (cond (Nat.blt pc 30) (cond (Nat.blt pc 16) (cond (Nat.blt pc 8) (cond (Nat.blt pc 2) (cond (Nat.blt pc 1) (cond (Nat.beq pc 0) (some (.aload_n 0, 1, [])) none) (cond (Nat.beq pc 1) (some (.iload_n 1, 2, [])) none)) (cond (Nat.blt pc 5) (cond (Nat.beq pc 2) (some (.invokevirtual 138, 5, [])) none) (cond (Nat.beq pc 5) (some (.ifCond .ne 6, 8, [11])) none))) (cond (Nat.blt pc 11) (cond (Nat.blt pc 10) (cond (Nat.beq pc 8) (some (.bipush (-2), 10, [])) none) (cond (Nat.beq pc 10) (some (.ireturn, 11, [])) none)) (cond (Nat.blt pc 12) (cond (Nat.beq pc 11) (some (.aload_n 0, 12, [])) none) (cond (Nat.blt pc 15) (cond (Nat.beq pc 12) (some (.getfield 13, 15, [])) none) (cond (Nat.beq pc 15) (some (.iload_n 1, 16, [])) none))))) (cond (Nat.blt pc 23) (cond (Nat.blt pc 18) (cond (Nat.blt pc 17) (cond (Nat.beq pc 16) (some (.iaload, 17, [])) none) (cond (Nat.beq pc 17) (some (.iconst 2, 18, [])) none)) (cond (Nat.blt pc 21) (cond (Nat.beq pc 18) (some (.if_icmp .le 6, 21, [24])) none) (cond (Nat.beq pc 21) (some (.bipush (-3), 23, [])) none))) (cond (Nat.blt pc 25) (cond (Nat.blt pc 24) (cond (Nat.beq pc 23) (some (.ireturn, 24, [])) none) (cond (Nat.beq pc 24) (some (.aload_n 0, 25, [])) none)) (cond (Nat.blt pc 26) (cond (Nat.beq pc 25) (some (.iload_n 1, 26, [])) none) (cond (Nat.blt pc 27) (cond (Nat.beq pc 26) (some (.iconst 0, 27, [])) none) (cond (Nat.beq pc 27) (some (.invokevirtual 76, 30, [])) none)))))) (cond (Nat.blt pc 42) (cond (Nat.blt pc 35) (cond (Nat.blt pc 33) (cond (Nat.blt pc 32) (cond (Nat.beq pc 30) (some (.ldc 84, 32, [])) none) (cond (Nat.beq pc 32) (some (.aload_n 0, 33, [])) none)) (cond (Nat.blt pc 34) (cond (Nat.beq pc 33) (some (.iload_n 1, 34, [])) none) (cond (Nat.beq pc 34) (some (.iconst 1, 35, [])) none))) (cond (Nat.blt pc 39) (cond (Nat.blt pc 38) (cond (Nat.beq pc 35) (some (.invokevirtual 76, 38, [])) none) (cond (Nat.beq pc 38) (some (.imul, 39, [])) none)) (cond (Nat.blt pc 40) (cond (Nat.beq pc 39) (some (.iadd, 40, [])) none) (cond (Nat.blt pc 41) (cond (Nat.beq pc 40) (some (.istore_n 2, 41, [])) none) (cond (Nat.beq pc 41) (some (.iload_n 2, 42, [])) none))))) (cond (Nat.blt pc 51) (cond (Nat.blt pc 48) (cond (Nat.blt pc 45) (cond (Nat.beq pc 42) (some (.invokestatic 223, 45, [])) none) (cond (Nat.beq pc 45) (some (.ifCond .ne 5, 48, [50])) none)) (cond (Nat.blt pc 49) (cond (Nat.beq pc 48) (some (.iconst 0, 49, [])) none) (cond (Nat.blt pc 50) (cond (Nat.beq pc 49) (some (.ireturn, 50, [])) none) (cond (Nat.beq pc 50) (some (.aload_n 0, 51, [])) none)))) (cond (Nat.blt pc 55) (cond (Nat.blt pc 52) (cond (Nat.beq pc 51) (some (.iconst 0, 52, [])) none) (cond (Nat.beq pc 52) (some (.putfield 200, 55, [])) none)) (cond (Nat.blt pc 56) (cond (Nat.beq pc 55) (some (.aload_n 0, 56, [])) none) (cond (Nat.blt pc 57) (cond (Nat.beq pc 56) (some (.iconst 0, 57, [])) none) (cond (Nat.beq pc 57) (some (.putfield 210, 60, [])) none))))))) (cond (Nat.blt pc 91) (cond (Nat.blt pc 77) (cond (Nat.blt pc 66) (cond (Nat.blt pc 62) (cond (Nat.blt pc 61) (cond (Nat.beq pc 60) (some (.aload_n 0, 61, [])) none) (cond (Nat.beq pc 61) (some (.iload_n 2, 62, [])) none)) (cond (Nat.blt pc 63) (cond (Nat.beq pc 62) (some (.iconst 1, 63, [])) none) (cond (Nat.beq pc 63) (some (.invokevirtual 220, 66, [])) none))) (cond (Nat.blt pc 70) (cond (Nat.blt pc 67) (cond (Nat.beq pc 66) (some (.aload_n 0, 67, [])) none) (cond (Nat.beq pc 67) (some (.getfield 210, 70, [])) none)) (cond (Nat.blt pc 73) (cond (Nat.beq pc 70) (some (.ifCond .ne 14, 73, [84])) none) (cond (Nat.blt pc 74) (cond (Nat.beq pc 73) (some (.aload_n 0, 74, [])) none) (cond (Nat.beq pc 74) (some (.getfield 200, 77, [])) none))))) (cond (Nat.blt pc 86) (cond (Nat.blt pc 81) (cond (Nat.blt pc 78) (cond (Nat.beq pc 77) (some (.aload_n 0, 78, [])) none) (cond (Nat.beq pc 78) (some (.getfield 73, 81, [])) none)) (cond (Nat.blt pc 84) (cond (Nat.beq pc 81) (some (.if_icmp .le 6, 84, [87])) none) (cond (Nat.beq pc 84) (some (.bipush (-9), 86, [])) none))) (cond (Nat.blt pc 88) (cond (Nat.blt pc 87) (cond (Nat.beq pc 86) (some (.ireturn, 87, [])) none) (cond (Nat.beq pc 87) (some (.iconst 0, 88, [])) none)) (cond (Nat.blt pc 89) (cond (Nat.beq pc 88) (some (.istore_n 3, 89, [])) none) (cond (Nat.blt pc 90) (cond (Nat.beq pc 89) (some (.iload_n 3, 90, [])) none) (cond (Nat.beq pc 90) (some (.aload_n 0, 91, [])) none)))))) (cond (Nat.blt pc 108) (cond (Nat.blt pc 101) (cond (Nat.blt pc 97) (cond (Nat.blt pc 94) (cond (Nat.beq pc 91) (some (.getfield 200, 94, [])) none) (cond (Nat.beq pc 94) (some (.if_icmp .ge 21, 97, [115])) none)) (cond (Nat.blt pc 98) (cond (Nat.beq pc 97) (some (.aload_n 0, 98, [])) none) (cond (Nat.beq pc 98) (some (.getfield 42, 101, [])) none))) (cond (Nat.blt pc 103) (cond (Nat.blt pc 102) (cond (Nat.beq pc 101) (some (.iload_n 3, 102, [])) none) (cond (Nat.beq pc 102) (some (.aload_n 0, 103, [])) none)) (cond (Nat.blt pc 106) (cond (Nat.beq pc 103) (some (.getfield 60, 106, [])) none) (cond (Nat.blt pc 107) (cond (Nat.beq pc 106) (some (.iload_n 3, 107, [])) none) (cond (Nat.beq pc 107) (some (.iaload, 108, [])) none))))) (cond (Nat.blt pc 117) (cond (Nat.blt pc 112) (cond (Nat.blt pc 109) (cond (Nat.beq pc 108) (some (.iastore, 109, [])) none) (cond (Nat.beq pc 109) (some (.iinc 3 1, 112, [])) none)) (cond (Nat.blt pc 115) (cond (Nat.beq pc 112) (some (.goto (-23), 115, [89])) none) (cond (Nat.blt pc 116) (cond (Nat.beq pc 115) (some (.aload_n 0, 116, [])) none) (cond (Nat.beq pc 116) (some (.aload_n 0, 117, [])) none)))) (cond (Nat.blt pc 123) (cond (Nat.blt pc 120) (cond (Nat.beq pc 117) (some (.getfield 200, 120, [])) none) (cond (Nat.beq pc 120) (some (.putfield 144, 123, [])) none)) (cond (Nat.blt pc 124) (cond (Nat.beq pc 123) (some (.aload_n 0, 124, [])) none) (cond (Nat.blt pc 127) (cond (Nat.beq pc 124) (some (.getfield 144, 127, [])) none) (cond (Nat.beq pc 127) (some (.ireturn, 128, [])) none))))))))
set_option maxRecDepth 100000 in
theorem kX8_prove : okT cX8_prove tX8_prove 128 4 = true := by decide +kernel
theorem fwX8 : FdW RX8 fdX8 := fdW_of _ _ fpX8 (by decide +kernel) (by decide +kernel)
theorem iwX8 : IcW RX8 icX8 := icW_of _ _ ipX8 (by decide +kernel)
theorem lwX8 : LcW RX8 lcX8 := lcW_of _ _ lpX8 (by decide +kernel)
end
section
/-! ===== the instructions, decoded once: each with what follows it and where it may jump ===== -/
def tX0_init : Tt := tWn 82 (fun pc => cond (Nat.blt pc 41) (cond (Nat.blt pc 19) (cond (Nat.blt pc 8) (cond (Nat.blt pc 4) (cond (Nat.blt pc 1) (cond (Nat.beq pc 0) (some (.aload_n 0, 1, [])) none) (cond (Nat.beq pc 1) (some (.invokespecial 3, 4, [])) none)) (cond (Nat.blt pc 5) (cond (Nat.beq pc 4) (some (.aload_n 0, 5, [])) none) (cond (Nat.beq pc 5) (some (.new 9, 8, [])) none))) (cond (Nat.blt pc 12) (cond (Nat.blt pc 9) (cond (Nat.beq pc 8) (some (.dup, 9, [])) none) (cond (Nat.beq pc 9) (some (.invokespecial 11, 12, [])) none)) (cond (Nat.blt pc 15) (cond (Nat.beq pc 12) (some (.putfield 12, 15, [])) none) (cond (Nat.blt pc 16) (cond (Nat.beq pc 15) (some (.aload_n 0, 16, [])) none) (cond (Nat.beq pc 16) (some (.new 9, 19, [])) none))))) (cond (Nat.blt pc 30) (cond (Nat.blt pc 23) (cond (Nat.blt pc 20) (cond (Nat.beq pc 19) (some (.dup, 20, [])) none) (cond (Nat.beq pc 20) (some (.invokespecial 11, 23, [])) none)) (cond (Nat.blt pc 26) (cond (Nat.beq pc 23) (some (.putfield 18, 26, [])) none) (cond (Nat.blt pc 27) (cond (Nat.beq pc 26) (some (.aload_n 0, 27, [])) none) (cond (Nat.beq pc 27) (some (.new 9, 30, [])) none)))) (cond (Nat.blt pc 34) (cond (Nat.blt pc 31) (cond (Nat.beq pc 30) (some (.dup, 31, [])) none) (cond (Nat.beq pc 31) (some (.invokespecial 11, 34, [])) none)) (cond (Nat.blt pc 37) (cond (Nat.beq pc 34) (some (.putfield 21, 37, [])) none) (cond (Nat.blt pc 38) (cond (Nat.beq pc 37) (some (.aload_n 0, 38, [])) none) (cond (Nat.beq pc 38) (some (.new 9, 41, [])) none)))))) (cond (Nat.blt pc 60) (cond (Nat.blt pc 49) (cond (Nat.blt pc 45) (cond (Nat.blt pc 42) (cond (Nat.beq pc 41) (some (.dup, 42, [])) none) (cond (Nat.beq pc 42) (some (.invokespecial 11, 45, [])) none)) (cond (Nat.blt pc 48) (cond (Nat.beq pc 45) (some (.putfield 24, 48, [])) none) (cond (Nat.beq pc 48) (some (.aload_n 0, 49, [])) none))) (cond (Nat.blt pc 53) (cond (Nat.blt pc 52) (cond (Nat.beq pc 49) (some (.new 9, 52, [])) none) (cond (Nat.beq pc 52) (some (.dup, 53, [])) none)) (cond (Nat.blt pc 56) (cond (Nat.beq pc 53) (some (.invokespecial 11, 56, [])) none) (cond (Nat.blt pc 59) (cond (Nat.beq pc 56) (some (.putfield 27, 59, [])) none) (cond (Nat.beq pc 59) (some (.aload_n 0, 60, [])) none))))) (cond (Nat.blt pc 71) (cond (Nat.blt pc 64) (cond (Nat.blt pc 63) (cond (Nat.beq pc 60) (some (.new 9, 63, [])) none) (cond (Nat.beq pc 63) (some (.dup, 64, [])) none)) (cond (Nat.blt pc 67) (cond (Nat.beq pc 64) (some (.invokespecial 11, 67, [])) none) (cond (Nat.blt pc 70) (cond (Nat.beq pc 67) (some (.putfield 30, 70, [])) none) (cond (Nat.beq pc 70) (some (.aload_n 0, 71, [])) none)))) (cond (Nat.blt pc 75) (cond (Nat.blt pc 74) (cond (Nat.beq pc 71) (some (.new 9, 74, [])) none) (cond (Nat.beq pc 74) (some (.dup, 75, [])) none)) (cond (Nat.blt pc 78) (cond (Nat.beq pc 75) (some (.invokespecial 11, 78, [])) none) (cond (Nat.blt pc 81) (cond (Nat.beq pc 78) (some (.putfield 33, 81, [])) none) (cond (Nat.beq pc 81) (some (.return_, 82, [])) none)))))))
set_option maxRecDepth 100000 in
theorem kX0_init : okT cX0_init tX0_init 82 1 = true := by decide +kernel
def tX0_order : Tt := tWn 83 (fun pc => cond (Nat.blt pc 43) (cond (Nat.blt pc 23) (cond (Nat.blt pc 11) (cond (Nat.blt pc 4) (cond (Nat.blt pc 1) (cond (Nat.beq pc 0) (some (.aload_n 0, 1, [])) none) (cond (Nat.beq pc 1) (some (.getfield 36, 4, [])) none)) (cond (Nat.blt pc 5) (cond (Nat.beq pc 4) (some (.aload_n 1, 5, [])) none) (cond (Nat.blt pc 8) (cond (Nat.beq pc 5) (some (.getfield 36, 8, [])) none) (cond (Nat.beq pc 8) (some (.if_icmp .eq 20, 11, [28])) none)))) (cond (Nat.blt pc 16) (cond (Nat.blt pc 12) (cond (Nat.beq pc 11) (some (.aload_n 0, 12, [])) none) (cond (Nat.blt pc 15) (cond (Nat.beq pc 12) (some (.getfield 36, 15, [])) none) (cond (Nat.beq pc 15) (some (.aload_n 1, 16, [])) none))) (cond (Nat.blt pc 19) (cond (Nat.beq pc 16) (some (.getfield 36, 19, [])) none) (cond (Nat.blt pc 22) (cond (Nat.beq pc 19) (some (.if_icmp .ge 7, 22, [26])) none) (cond (Nat.beq pc 22) (some (.iconst (-1), 23, [])) none))))) (cond (Nat.blt pc 33) (cond (Nat.blt pc 28) (cond (Nat.blt pc 26) (cond (Nat.beq pc 23) (some (.goto 4, 26, [27])) none) (cond (Nat.blt pc 27) (cond (Nat.beq pc 26) (some (.iconst 1, 27, [])) none) (cond (Nat.beq pc 27) (some (.ireturn, 28, [])) none))) (cond (Nat.blt pc 29) (cond (Nat.beq pc 28) (some (.aload_n 0, 29, [])) none) (cond (Nat.blt pc 32) (cond (Nat.beq pc 29) (some (.getfield 36, 32, [])) none) (cond (Nat.beq pc 32) (some (.iconst 1, 33, [])) none)))) (cond (Nat.blt pc 36) (cond (Nat.blt pc 34) (cond (Nat.beq pc 33) (some (.isub, 34, [])) none) (cond (Nat.blt pc 35) (cond (Nat.beq pc 34) (some (.istore_n 2, 35, [])) none) (cond (Nat.beq pc 35) (some (.iload_n 2, 36, [])) none))) (cond (Nat.blt pc 39) (cond (Nat.beq pc 36) (some (.ifCond .lt 45, 39, [81])) none) (cond (Nat.blt pc 40) (cond (Nat.beq pc 39) (some (.aload_n 0, 40, [])) none) (cond (Nat.beq pc 40) (some (.getfield 40, 43, [])) none)))))) (cond (Nat.blt pc 61) (cond (Nat.blt pc 51) (cond (Nat.blt pc 46) (cond (Nat.blt pc 44) (cond (Nat.beq pc 43) (some (.iload_n 2, 44, [])) none) (cond (Nat.blt pc 45) (cond (Nat.beq pc 44) (some (.iaload, 45, [])) none) (cond (Nat.beq pc 45) (some (.aload_n 1, 46, [])) none))) (cond (Nat.blt pc 49) (cond (Nat.beq pc 46) (some (.getfield 40, 49, [])) none) (cond (Nat.blt pc 50) (cond (Nat.beq pc 49) (some (.iload_n 2, 50, [])) none) (cond (Nat.beq pc 50) (some (.iaload, 51, [])) none)))) (cond (Nat.blt pc 58) (cond (Nat.blt pc 54) (cond (Nat.beq pc 51) (some (.if_icmp .eq 24, 54, [75])) none) (cond (Nat.blt pc 55) (cond (Nat.beq pc 54) (some (.aload_n 0, 55, [])) none) (cond (Nat.beq pc 55) (some (.getfield 40, 58, [])) none))) (cond (Nat.blt pc 59) (cond (Nat.beq pc 58) (some (.iload_n 2, 59, [])) none) (cond (Nat.blt pc 60) (cond (Nat.beq pc 59) (some (.iaload, 60, [])) none) (cond (Nat.beq pc 60) (some (.aload_n 1, 61, [])) none))))) (cond (Nat.blt pc 73) (cond (Nat.blt pc 66) (cond (Nat.blt pc 64) (cond (Nat.beq pc 61) (some (.getfield 40, 64, [])) none) (cond (Nat.blt pc 65) (cond (Nat.beq pc 64) (some (.iload_n 2, 65, [])) none) (cond (Nat.beq pc 65) (some (.iaload, 66, [])) none))) (cond (Nat.blt pc 69) (cond (Nat.beq pc 66) (some (.if_icmp .ge 7, 69, [73])) none) (cond (Nat.blt pc 70) (cond (Nat.beq pc 69) (some (.iconst (-1), 70, [])) none) (cond (Nat.beq pc 70) (some (.goto 4, 73, [74])) none)))) (cond (Nat.blt pc 78) (cond (Nat.blt pc 74) (cond (Nat.beq pc 73) (some (.iconst 1, 74, [])) none) (cond (Nat.blt pc 75) (cond (Nat.beq pc 74) (some (.ireturn, 75, [])) none) (cond (Nat.beq pc 75) (some (.iinc 2 (-1), 78, [])) none))) (cond (Nat.blt pc 81) (cond (Nat.beq pc 78) (some (.goto (-43), 81, [35])) none) (cond (Nat.blt pc 82) (cond (Nat.beq pc 81) (some (.iconst 0, 82, [])) none) (cond (Nat.beq pc 82) (some (.ireturn, 83, [])) none)))))))
set_option maxRecDepth 100000 in
theorem kX0_order : okT cX0_order tX0_order 83 3 = true := by decide +kernel
def tX0_sum : Tt := tWn 84 (fun pc => cond (Nat.blt pc 42) (cond (Nat.blt pc 20) (cond (Nat.blt pc 11) (cond (Nat.blt pc 4) (cond (Nat.blt pc 1) (cond (Nat.beq pc 0) (some (.aload_n 1, 1, [])) none) (cond (Nat.beq pc 1) (some (.getfield 36, 4, [])) none)) (cond (Nat.blt pc 5) (cond (Nat.beq pc 4) (some (.aload_n 2, 5, [])) none) (cond (Nat.blt pc 8) (cond (Nat.beq pc 5) (some (.getfield 36, 8, [])) none) (cond (Nat.beq pc 8) (some (.invokestatic 44, 11, [])) none)))) (cond (Nat.blt pc 15) (cond (Nat.blt pc 12) (cond (Nat.beq pc 11) (some (.istore_n 3, 12, [])) none) (cond (Nat.blt pc 13) (cond (Nat.beq pc 12) (some (.iconst 0, 13, [])) none) (cond (Nat.beq pc 13) (some (.istore 4, 15, [])) none))) (cond (Nat.blt pc 16) (cond (Nat.beq pc 15) (some (.iconst 0, 16, [])) none) (cond (Nat.blt pc 18) (cond (Nat.beq pc 16) (some (.istore 5, 18, [])) none) (cond (Nat.beq pc 18) (some (.iload 5, 20, [])) none))))) (cond (Nat.blt pc 31) (cond (Nat.blt pc 25) (cond (Nat.blt pc 21) (cond (Nat.beq pc 20) (some (.iload_n 3, 21, [])) none) (cond (Nat.blt pc 24) (cond (Nat.beq pc 21) (some (.if_icmp .ge 47, 24, [68])) none) (cond (Nat.beq pc 24) (some (.aload_n 1, 25, [])) none))) (cond (Nat.blt pc 27) (cond (Nat.beq pc 25) (some (.iload 5, 27, [])) none) (cond (Nat.blt pc 30) (cond (Nat.beq pc 27) (some (.invokevirtual 50, 30, [])) none) (cond (Nat.beq pc 30) (some (.aload_n 2, 31, [])) none)))) (cond (Nat.blt pc 37) (cond (Nat.blt pc 33) (cond (Nat.beq pc 31) (some (.iload 5, 33, [])) none) (cond (Nat.blt pc 36) (cond (Nat.beq pc 33) (some (.invokevirtual 50, 36, [])) none) (cond (Nat.beq pc 36) (some (.iadd, 37, [])) none))) (cond (Nat.blt pc 39) (cond (Nat.beq pc 37) (some (.iload 4, 39, [])) none) (cond (Nat.blt pc 40) (cond (Nat.beq pc 39) (some (.iadd, 40, [])) none) (cond (Nat.beq pc 40) (some (.istore 6, 42, [])) none)))))) (cond (Nat.blt pc 65) (cond (Nat.blt pc 54) (cond (Nat.blt pc 48) (cond (Nat.blt pc 43) (cond (Nat.beq pc 42) (some (.aload_n 0, 43, [])) none) (cond (Nat.blt pc 46) (cond (Nat.beq pc 43) (some (.getfield 40, 46, [])) none) (cond (Nat.beq pc 46) (some (.iload 5, 48, [])) none))) (cond (Nat.blt pc 50) (cond (Nat.beq pc 48) (some (.iload 6, 50, [])) none) (cond (Nat.blt pc 53) (cond (Nat.beq pc 50) (some (.sipush 32767, 53, [])) none) (cond (Nat.beq pc 53) (some (.iand, 54, [])) none)))) (cond (Nat.blt pc 59) (cond (Nat.blt pc 55) (cond (Nat.beq pc 54) (some (.iastore, 55, [])) none) (cond (Nat.blt pc 57) (cond (Nat.beq pc 55) (some (.iload 6, 57, [])) none) (cond (Nat.beq pc 57) (some (.bipush 15, 59, [])) none))) (cond (Nat.blt pc 60) (cond (Nat.beq pc 59) (some (.ishr, 60, [])) none) (cond (Nat.blt pc 62) (cond (Nat.beq pc 60) (some (.istore 4, 62, [])) none) (cond (Nat.beq pc 62) (some (.iinc 5 1, 65, [])) none))))) (cond (Nat.blt pc 76) (cond (Nat.blt pc 72) (cond (Nat.blt pc 68) (cond (Nat.beq pc 65) (some (.goto (-47), 68, [18])) none) (cond (Nat.blt pc 69) (cond (Nat.beq pc 68) (some (.aload_n 0, 69, [])) none) (cond (Nat.beq pc 69) (some (.getfield 40, 72, [])) none))) (cond (Nat.blt pc 73) (cond (Nat.beq pc 72) (some (.iload_n 3, 73, [])) none) (cond (Nat.blt pc 75) (cond (Nat.beq pc 73) (some (.iload 4, 75, [])) none) (cond (Nat.beq pc 75) (some (.iastore, 76, [])) none)))) (cond (Nat.blt pc 79) (cond (Nat.blt pc 77) (cond (Nat.beq pc 76) (some (.aload_n 0, 77, [])) none) (cond (Nat.blt pc 78) (cond (Nat.beq pc 77) (some (.iload_n 3, 78, [])) none) (cond (Nat.beq pc 78) (some (.iconst 1, 79, [])) none))) (cond (Nat.blt pc 80) (cond (Nat.beq pc 79) (some (.iadd, 80, [])) none) (cond (Nat.blt pc 83) (cond (Nat.beq pc 80) (some (.invokevirtual 54, 83, [])) none) (cond (Nat.beq pc 83) (some (.return_, 84, [])) none)))))))
set_option maxRecDepth 100000 in
theorem kX0_sum : okT cX0_sum tX0_sum 84 7 = true := by decide +kernel
def tX0_difference : Tt := tWn 73 (fun pc => cond (Nat.blt pc 34) (cond (Nat.blt pc 17) (cond (Nat.blt pc 8) (cond (Nat.blt pc 4) (cond (Nat.blt pc 1) (cond (Nat.beq pc 0) (some (.aload_n 1, 1, [])) none) (cond (Nat.beq pc 1) (some (.getfield 36, 4, [])) none)) (cond (Nat.blt pc 5) (cond (Nat.beq pc 4) (some (.istore_n 3, 5, [])) none) (cond (Nat.blt pc 6) (cond (Nat.beq pc 5) (some (.iconst 0, 6, [])) none) (cond (Nat.beq pc 6) (some (.istore 4, 8, [])) none)))) (cond (Nat.blt pc 11) (cond (Nat.blt pc 9) (cond (Nat.beq pc 8) (some (.iconst 0, 9, [])) none) (cond (Nat.beq pc 9) (some (.istore 5, 11, [])) none)) (cond (Nat.blt pc 13) (cond (Nat.beq pc 11) (some (.iload 5, 13, [])) none) (cond (Nat.blt pc 14) (cond (Nat.beq pc 13) (some (.iload_n 3, 14, [])) none) (cond (Nat.beq pc 14) (some (.if_icmp .ge 53, 17, [67])) none))))) (cond (Nat.blt pc 25) (cond (Nat.blt pc 21) (cond (Nat.blt pc 18) (cond (Nat.beq pc 17) (some (.aload_n 1, 18, [])) none) (cond (Nat.beq pc 18) (some (.getfield 40, 21, [])) none)) (cond (Nat.blt pc 23) (cond (Nat.beq pc 21) (some (.iload 5, 23, [])) none) (cond (Nat.blt pc 24) (cond (Nat.beq pc 23) (some (.iaload, 24, [])) none) (cond (Nat.beq pc 24) (some (.aload_n 2, 25, [])) none)))) (cond (Nat.blt pc 30) (cond (Nat.blt pc 27) (cond (Nat.beq pc 25) (some (.iload 5, 27, [])) none) (cond (Nat.beq pc 27) (some (.invokevirtual 50, 30, [])) none)) (cond (Nat.blt pc 31) (cond (Nat.beq pc 30) (some (.isub, 31, [])) none) (cond (Nat.blt pc 33) (cond (Nat.beq pc 31) (some (.iload 4, 33, [])) none) (cond (Nat.beq pc 33) (some (.isub, 34, [])) none)))))) (cond (Nat.blt pc 54) (cond (Nat.blt pc 44) (cond (Nat.blt pc 37) (cond (Nat.blt pc 36) (cond (Nat.beq pc 34) (some (.istore 6, 36, [])) none) (cond (Nat.beq pc 36) (some (.aload_n 0, 37, [])) none)) (cond (Nat.blt pc 40) (cond (Nat.beq pc 37) (some (.getfield 40, 40, [])) none) (cond (Nat.blt pc 42) (cond (Nat.beq pc 40) (some (.iload 5, 42, [])) none) (cond (Nat.beq pc 42) (some (.iload 6, 44, [])) none)))) (cond (Nat.blt pc 48) (cond (Nat.blt pc 47) (cond (Nat.beq pc 44) (some (.sipush 32767, 47, [])) none) (cond (Nat.beq pc 47) (some (.iand, 48, [])) none)) (cond (Nat.blt pc 49) (cond (Nat.beq pc 48) (some (.iastore, 49, [])) none) (cond (Nat.blt pc 51) (cond (Nat.beq pc 49) (some (.iload 6, 51, [])) none) (cond (Nat.beq pc 51) (some (.ifCond .ge 7, 54, [58])) none))))) (cond (Nat.blt pc 64) (cond (Nat.blt pc 58) (cond (Nat.blt pc 55) (cond (Nat.beq pc 54) (some (.iconst 1, 55, [])) none) (cond (Nat.beq pc 55) (some (.goto 4, 58, [59])) none)) (cond (Nat.blt pc 59) (cond (Nat.beq pc 58) (some (.iconst 0, 59, [])) none) (cond (Nat.blt pc 61) (cond (Nat.beq pc 59) (some (.istore 4, 61, [])) none) (cond (Nat.beq pc 61) (some (.iinc 5 1, 64, [])) none)))) (cond (Nat.blt pc 68) (cond (Nat.blt pc 67) (cond (Nat.beq pc 64) (some (.goto (-53), 67, [11])) none) (cond (Nat.beq pc 67) (some (.aload_n 0, 68, [])) none)) (cond (Nat.blt pc 69) (cond (Nat.beq pc 68) (some (.iload_n 3, 69, [])) none) (cond (Nat.blt pc 72) (cond (Nat.beq pc 69) (some (.invokevirtual 54, 72, [])) none) (cond (Nat.beq pc 72) (some (.return_, 73, [])) none)))))))
set_option maxRecDepth 100000 in
theorem kX0_difference : okT cX0_difference tX0_difference 73 7 = true := by decide +kernel
def tX0_product : Tt := tWn 129 (fun pc => cond (Nat.blt pc 63) (cond (Nat.blt pc 30) (cond (Nat.blt pc 15) (cond (Nat.blt pc 6) (cond (Nat.blt pc 4) (cond (Nat.blt pc 1) (cond (Nat.beq pc 0) (some (.aload_n 1, 1, [])) none) (cond (Nat.beq pc 1) (some (.getfield 40, 4, [])) none)) (cond (Nat.blt pc 5) (cond (Nat.beq pc 4) (some (.astore_n 3, 5, [])) none) (cond (Nat.beq pc 5) (some (.aload_n 2, 6, [])) none))) (cond (Nat.blt pc 11) (cond (Nat.blt pc 9) (cond (Nat.beq pc 6) (some (.getfield 40, 9, [])) none) (cond (Nat.beq pc 9) (some (.astore 4, 11, [])) none)) (cond (Nat.blt pc 12) (cond (Nat.beq pc 11) (some (.aload_n 1, 12, [])) none) (cond (Nat.beq pc 12) (some (.getfield 36, 15, [])) none)))) (cond (Nat.blt pc 22) (cond (Nat.blt pc 19) (cond (Nat.blt pc 16) (cond (Nat.beq pc 15) (some (.aload_n 2, 16, [])) none) (cond (Nat.beq pc 16) (some (.getfield 36, 19, [])) none)) (cond (Nat.blt pc 20) (cond (Nat.beq pc 19) (some (.iadd, 20, [])) none) (cond (Nat.beq pc 20) (some (.istore 5, 22, [])) none))) (cond (Nat.blt pc 25) (cond (Nat.blt pc 23) (cond (Nat.beq pc 22) (some (.lconst 0, 23, [])) none) (cond (Nat.beq pc 23) (some (.lstore 6, 25, [])) none)) (cond (Nat.blt pc 26) (cond (Nat.beq pc 25) (some (.iconst 0, 26, [])) none) (cond (Nat.blt pc 28) (cond (Nat.beq pc 26) (some (.istore 8, 28, [])) none) (cond (Nat.beq pc 28) (some (.iload 8, 30, [])) none)))))) (cond (Nat.blt pc 48) (cond (Nat.blt pc 38) (cond (Nat.blt pc 35) (cond (Nat.blt pc 32) (cond (Nat.beq pc 30) (some (.iload 5, 32, [])) none) (cond (Nat.beq pc 32) (some (.if_icmp .ge 90, 35, [122])) none)) (cond (Nat.blt pc 37) (cond (Nat.beq pc 35) (some (.iload 8, 37, [])) none) (cond (Nat.beq pc 37) (some (.aload_n 1, 38, [])) none))) (cond (Nat.blt pc 42) (cond (Nat.blt pc 41) (cond (Nat.beq pc 38) (some (.getfield 36, 41, [])) none) (cond (Nat.beq pc 41) (some (.iconst 1, 42, [])) none)) (cond (Nat.blt pc 43) (cond (Nat.beq pc 42) (some (.isub, 43, [])) none) (cond (Nat.blt pc 46) (cond (Nat.beq pc 43) (some (.invokestatic 58, 46, [])) none) (cond (Nat.beq pc 46) (some (.istore 9, 48, [])) none))))) (cond (Nat.blt pc 55) (cond (Nat.blt pc 51) (cond (Nat.blt pc 49) (cond (Nat.beq pc 48) (some (.iconst 0, 49, [])) none) (cond (Nat.beq pc 49) (some (.iload 8, 51, [])) none)) (cond (Nat.blt pc 52) (cond (Nat.beq pc 51) (some (.aload_n 2, 52, [])) none) (cond (Nat.beq pc 52) (some (.getfield 36, 55, [])) none))) (cond (Nat.blt pc 57) (cond (Nat.blt pc 56) (cond (Nat.beq pc 55) (some (.isub, 56, [])) none) (cond (Nat.beq pc 56) (some (.iconst 1, 57, [])) none)) (cond (Nat.blt pc 58) (cond (Nat.beq pc 57) (some (.iadd, 58, [])) none) (cond (Nat.blt pc 61) (cond (Nat.beq pc 58) (some (.invokestatic 44, 61, [])) none) (cond (Nat.beq pc 61) (some (.istore 10, 63, [])) none))))))) (cond (Nat.blt pc 95) (cond (Nat.blt pc 80) (cond (Nat.blt pc 72) (cond (Nat.blt pc 67) (cond (Nat.blt pc 65) (cond (Nat.beq pc 63) (some (.iload 10, 65, [])) none) (cond (Nat.beq pc 65) (some (.iload 9, 67, [])) none)) (cond (Nat.blt pc 70) (cond (Nat.beq pc 67) (some (.if_icmp .gt 28, 70, [95])) none) (cond (Nat.beq pc 70) (some (.lload 6, 72, [])) none))) (cond (Nat.blt pc 75) (cond (Nat.blt pc 73) (cond (Nat.beq pc 72) (some (.aload_n 3, 73, [])) none) (cond (Nat.beq pc 73) (some (.iload 10, 75, [])) none)) (cond (Nat.blt pc 76) (cond (Nat.beq pc 75) (some (.iaload, 76, [])) none) (cond (Nat.blt pc 78) (cond (Nat.beq pc 76) (some (.aload 4, 78, [])) none) (cond (Nat.beq pc 78) (some (.iload 8, 80, [])) none))))) (cond (Nat.blt pc 85) (cond (Nat.blt pc 83) (cond (Nat.blt pc 82) (cond (Nat.beq pc 80) (some (.iload 10, 82, [])) none) (cond (Nat.beq pc 82) (some (.isub, 83, [])) none)) (cond (Nat.blt pc 84) (cond (Nat.beq pc 83) (some (.iaload, 84, [])) none) (cond (Nat.beq pc 84) (some (.imul, 85, [])) none))) (cond (Nat.blt pc 87) (cond (Nat.blt pc 86) (cond (Nat.beq pc 85) (some (.i2l, 86, [])) none) (cond (Nat.beq pc 86) (some (.ladd, 87, [])) none)) (cond (Nat.blt pc 89) (cond (Nat.beq pc 87) (some (.lstore 6, 89, [])) none) (cond (Nat.blt pc 92) (cond (Nat.beq pc 89) (some (.iinc 10 1, 92, [])) none) (cond (Nat.beq pc 92) (some (.goto (-29), 95, [63])) none)))))) (cond (Nat.blt pc 111) (cond (Nat.blt pc 103) (cond (Nat.blt pc 99) (cond (Nat.blt pc 96) (cond (Nat.beq pc 95) (some (.aload_n 0, 96, [])) none) (cond (Nat.beq pc 96) (some (.getfield 40, 99, [])) none)) (cond (Nat.blt pc 101) (cond (Nat.beq pc 99) (some (.iload 8, 101, [])) none) (cond (Nat.beq pc 101) (some (.lload 6, 103, [])) none))) (cond (Nat.blt pc 107) (cond (Nat.blt pc 104) (cond (Nat.beq pc 103) (some (.l2i, 104, [])) none) (cond (Nat.beq pc 104) (some (.sipush 32767, 107, [])) none)) (cond (Nat.blt pc 108) (cond (Nat.beq pc 107) (some (.iand, 108, [])) none) (cond (Nat.blt pc 109) (cond (Nat.beq pc 108) (some (.iastore, 109, [])) none) (cond (Nat.beq pc 109) (some (.lload 6, 111, [])) none))))) (cond (Nat.blt pc 119) (cond (Nat.blt pc 114) (cond (Nat.blt pc 113) (cond (Nat.beq pc 111) (some (.bipush 15, 113, [])) none) (cond (Nat.beq pc 113) (some (.lshr, 114, [])) none)) (cond (Nat.blt pc 116) (cond (Nat.beq pc 114) (some (.lstore 6, 116, [])) none) (cond (Nat.beq pc 116) (some (.iinc 8 1, 119, [])) none))) (cond (Nat.blt pc 123) (cond (Nat.blt pc 122) (cond (Nat.beq pc 119) (some (.goto (-91), 122, [28])) none) (cond (Nat.beq pc 122) (some (.aload_n 0, 123, [])) none)) (cond (Nat.blt pc 125) (cond (Nat.beq pc 123) (some (.iload 5, 125, [])) none) (cond (Nat.blt pc 128) (cond (Nat.beq pc 125) (some (.invokevirtual 54, 128, [])) none) (cond (Nat.beq pc 128) (some (.return_, 129, [])) none))))))))
set_option maxRecDepth 100000 in
theorem kX0_product : okT cX0_product tX0_product 129 11 = true := by decide +kernel
def tX0_shiftUp : Tt := tWn 94 (fun pc => cond (Nat.blt pc 48) (cond (Nat.blt pc 23) (cond (Nat.blt pc 9) (cond (Nat.blt pc 4) (cond (Nat.blt pc 1) (cond (Nat.beq pc 0) (some (.iload_n 2, 1, [])) none) (cond (Nat.blt pc 3) (cond (Nat.beq pc 1) (some (.bipush 15, 3, [])) none) (cond (Nat.beq pc 3) (some (.idiv, 4, [])) none))) (cond (Nat.blt pc 6) (cond (Nat.blt pc 5) (cond (Nat.beq pc 4) (some (.istore_n 3, 5, [])) none) (cond (Nat.beq pc 5) (some (.iload_n 2, 6, [])) none)) (cond (Nat.blt pc 8) (cond (Nat.beq pc 6) (some (.bipush 15, 8, [])) none) (cond (Nat.beq pc 8) (some (.irem, 9, [])) none)))) (cond (Nat.blt pc 15) (cond (Nat.blt pc 11) (cond (Nat.beq pc 9) (some (.istore 4, 11, [])) none) (cond (Nat.blt pc 12) (cond (Nat.beq pc 11) (some (.aload_n 1, 12, [])) none) (cond (Nat.beq pc 12) (some (.getfield 36, 15, [])) none))) (cond (Nat.blt pc 19) (cond (Nat.blt pc 17) (cond (Nat.beq pc 15) (some (.istore 5, 17, [])) none) (cond (Nat.beq pc 17) (some (.iload 5, 19, [])) none)) (cond (Nat.blt pc 21) (cond (Nat.beq pc 19) (some (.istore 6, 21, [])) none) (cond (Nat.beq pc 21) (some (.iload 6, 23, [])) none))))) (cond (Nat.blt pc 36) (cond (Nat.blt pc 29) (cond (Nat.blt pc 26) (cond (Nat.beq pc 23) (some (.ifCond .lt 50, 26, [73])) none) (cond (Nat.blt pc 27) (cond (Nat.beq pc 26) (some (.aload_n 1, 27, [])) none) (cond (Nat.beq pc 27) (some (.iload 6, 29, [])) none))) (cond (Nat.blt pc 34) (cond (Nat.blt pc 32) (cond (Nat.beq pc 29) (some (.invokevirtual 50, 32, [])) none) (cond (Nat.beq pc 32) (some (.iload 4, 34, [])) none)) (cond (Nat.blt pc 35) (cond (Nat.beq pc 34) (some (.ishl, 35, [])) none) (cond (Nat.beq pc 35) (some (.aload_n 1, 36, [])) none)))) (cond (Nat.blt pc 40) (cond (Nat.blt pc 38) (cond (Nat.beq pc 36) (some (.iload 6, 38, [])) none) (cond (Nat.blt pc 39) (cond (Nat.beq pc 38) (some (.iconst 1, 39, [])) none) (cond (Nat.beq pc 39) (some (.isub, 40, [])) none))) (cond (Nat.blt pc 45) (cond (Nat.blt pc 43) (cond (Nat.beq pc 40) (some (.invokevirtual 50, 43, [])) none) (cond (Nat.beq pc 43) (some (.bipush 15, 45, [])) none)) (cond (Nat.blt pc 47) (cond (Nat.beq pc 45) (some (.iload 4, 47, [])) none) (cond (Nat.beq pc 47) (some (.isub, 48, [])) none)))))) (cond (Nat.blt pc 73) (cond (Nat.blt pc 59) (cond (Nat.blt pc 52) (cond (Nat.blt pc 49) (cond (Nat.beq pc 48) (some (.ishr, 49, [])) none) (cond (Nat.blt pc 50) (cond (Nat.beq pc 49) (some (.ior, 50, [])) none) (cond (Nat.beq pc 50) (some (.istore 7, 52, [])) none))) (cond (Nat.blt pc 56) (cond (Nat.blt pc 53) (cond (Nat.beq pc 52) (some (.aload_n 0, 53, [])) none) (cond (Nat.beq pc 53) (some (.getfield 40, 56, [])) none)) (cond (Nat.blt pc 58) (cond (Nat.beq pc 56) (some (.iload 6, 58, [])) none) (cond (Nat.beq pc 58) (some (.iload_n 3, 59, [])) none)))) (cond (Nat.blt pc 65) (cond (Nat.blt pc 60) (cond (Nat.beq pc 59) (some (.iadd, 60, [])) none) (cond (Nat.blt pc 62) (cond (Nat.beq pc 60) (some (.iload 7, 62, [])) none) (cond (Nat.beq pc 62) (some (.sipush 32767, 65, [])) none))) (cond (Nat.blt pc 67) (cond (Nat.blt pc 66) (cond (Nat.beq pc 65) (some (.iand, 66, [])) none) (cond (Nat.beq pc 66) (some (.iastore, 67, [])) none)) (cond (Nat.blt pc 70) (cond (Nat.beq pc 67) (some (.iinc 6 (-1), 70, [])) none) (cond (Nat.beq pc 70) (some (.goto (-49), 73, [21])) none))))) (cond (Nat.blt pc 84) (cond (Nat.blt pc 78) (cond (Nat.blt pc 74) (cond (Nat.beq pc 73) (some (.aload_n 0, 74, [])) none) (cond (Nat.blt pc 77) (cond (Nat.beq pc 74) (some (.getfield 40, 77, [])) none) (cond (Nat.beq pc 77) (some (.iconst 0, 78, [])) none))) (cond (Nat.blt pc 80) (cond (Nat.blt pc 79) (cond (Nat.beq pc 78) (some (.iload_n 3, 79, [])) none) (cond (Nat.beq pc 79) (some (.iconst 0, 80, [])) none)) (cond (Nat.blt pc 83) (cond (Nat.beq pc 80) (some (.invokestatic 61, 83, [])) none) (cond (Nat.beq pc 83) (some (.aload_n 0, 84, [])) none)))) (cond (Nat.blt pc 88) (cond (Nat.blt pc 86) (cond (Nat.beq pc 84) (some (.iload 5, 86, [])) none) (cond (Nat.blt pc 87) (cond (Nat.beq pc 86) (some (.iload_n 3, 87, [])) none) (cond (Nat.beq pc 87) (some (.iadd, 88, [])) none))) (cond (Nat.blt pc 90) (cond (Nat.blt pc 89) (cond (Nat.beq pc 88) (some (.iconst 1, 89, [])) none) (cond (Nat.beq pc 89) (some (.iadd, 90, [])) none)) (cond (Nat.blt pc 93) (cond (Nat.beq pc 90) (some (.invokevirtual 54, 93, [])) none) (cond (Nat.beq pc 93) (some (.return_, 94, [])) none)))))))
set_option maxRecDepth 100000 in
theorem kX0_shiftUp : okT cX0_shiftUp tX0_shiftUp 94 8 = true := by decide +kernel
def tX0_shiftDown : Tt := tWn 89 (fun pc => cond (Nat.blt pc 40) (cond (Nat.blt pc 18) (cond (Nat.blt pc 8) (cond (Nat.blt pc 4) (cond (Nat.blt pc 1) (cond (Nat.beq pc 0) (some (.iload_n 2, 1, [])) none) (cond (Nat.blt pc 3) (cond (Nat.beq pc 1) (some (.bipush 15, 3, [])) none) (cond (Nat.beq pc 3) (some (.idiv, 4, [])) none))) (cond (Nat.blt pc 5) (cond (Nat.beq pc 4) (some (.istore_n 3, 5, [])) none) (cond (Nat.blt pc 6) (cond (Nat.beq pc 5) (some (.iload_n 2, 6, [])) none) (cond (Nat.beq pc 6) (some (.bipush 15, 8, [])) none)))) (cond (Nat.blt pc 12) (cond (Nat.blt pc 9) (cond (Nat.beq pc 8) (some (.irem, 9, [])) none) (cond (Nat.blt pc 11) (cond (Nat.beq pc 9) (some (.istore 4, 11, [])) none) (cond (Nat.beq pc 11) (some (.iconst 0, 12, [])) none))) (cond (Nat.blt pc 16) (cond (Nat.blt pc 13) (cond (Nat.beq pc 12) (some (.aload_n 1, 13, [])) none) (cond (Nat.beq pc 13) (some (.getfield 36, 16, [])) none)) (cond (Nat.blt pc 17) (cond (Nat.beq pc 16) (some (.iload_n 3, 17, [])) none) (cond (Nat.beq pc 17) (some (.isub, 18, [])) none))))) (cond (Nat.blt pc 30) (cond (Nat.blt pc 24) (cond (Nat.blt pc 21) (cond (Nat.beq pc 18) (some (.invokestatic 44, 21, [])) none) (cond (Nat.blt pc 23) (cond (Nat.beq pc 21) (some (.istore 5, 23, [])) none) (cond (Nat.beq pc 23) (some (.iconst 0, 24, [])) none))) (cond (Nat.blt pc 26) (cond (Nat.beq pc 24) (some (.istore 6, 26, [])) none) (cond (Nat.blt pc 28) (cond (Nat.beq pc 26) (some (.iload 6, 28, [])) none) (cond (Nat.beq pc 28) (some (.iload 5, 30, [])) none)))) (cond (Nat.blt pc 36) (cond (Nat.blt pc 33) (cond (Nat.beq pc 30) (some (.if_icmp .ge 52, 33, [82])) none) (cond (Nat.blt pc 34) (cond (Nat.beq pc 33) (some (.aload_n 1, 34, [])) none) (cond (Nat.beq pc 34) (some (.iload 6, 36, [])) none))) (cond (Nat.blt pc 38) (cond (Nat.blt pc 37) (cond (Nat.beq pc 36) (some (.iload_n 3, 37, [])) none) (cond (Nat.beq pc 37) (some (.iadd, 38, [])) none)) (cond (Nat.blt pc 39) (cond (Nat.beq pc 38) (some (.iconst 1, 39, [])) none) (cond (Nat.beq pc 39) (some (.iadd, 40, [])) none)))))) (cond (Nat.blt pc 62) (cond (Nat.blt pc 51) (cond (Nat.blt pc 47) (cond (Nat.blt pc 43) (cond (Nat.beq pc 40) (some (.invokevirtual 50, 43, [])) none) (cond (Nat.blt pc 45) (cond (Nat.beq pc 43) (some (.bipush 15, 45, [])) none) (cond (Nat.beq pc 45) (some (.iload 4, 47, [])) none))) (cond (Nat.blt pc 48) (cond (Nat.beq pc 47) (some (.isub, 48, [])) none) (cond (Nat.blt pc 49) (cond (Nat.beq pc 48) (some (.ishl, 49, [])) none) (cond (Nat.beq pc 49) (some (.istore 7, 51, [])) none)))) (cond (Nat.blt pc 57) (cond (Nat.blt pc 52) (cond (Nat.beq pc 51) (some (.aload_n 0, 52, [])) none) (cond (Nat.blt pc 55) (cond (Nat.beq pc 52) (some (.getfield 40, 55, [])) none) (cond (Nat.beq pc 55) (some (.iload 6, 57, [])) none))) (cond (Nat.blt pc 60) (cond (Nat.blt pc 58) (cond (Nat.beq pc 57) (some (.aload_n 1, 58, [])) none) (cond (Nat.beq pc 58) (some (.iload 6, 60, [])) none)) (cond (Nat.blt pc 61) (cond (Nat.beq pc 60) (some (.iload_n 3, 61, [])) none) (cond (Nat.beq pc 61) (some (.iadd, 62, [])) none))))) (cond (Nat.blt pc 75) (cond (Nat.blt pc 68) (cond (Nat.blt pc 65) (cond (Nat.beq pc 62) (some (.invokevirtual 50, 65, [])) none) (cond (Nat.blt pc 67) (cond (Nat.beq pc 65) (some (.iload 4, 67, [])) none) (cond (Nat.beq pc 67) (some (.ishr, 68, [])) none))) (cond (Nat.blt pc 71) (cond (Nat.blt pc 70) (cond (Nat.beq pc 68) (some (.iload 7, 70, [])) none) (cond (Nat.beq pc 70) (some (.ior, 71, [])) none)) (cond (Nat.blt pc 74) (cond (Nat.beq pc 71) (some (.sipush 32767, 74, [])) none) (cond (Nat.beq pc 74) (some (.iand, 75, [])) none)))) (cond (Nat.blt pc 82) (cond (Nat.blt pc 76) (cond (Nat.beq pc 75) (some (.iastore, 76, [])) none) (cond (Nat.blt pc 79) (cond (Nat.beq pc 76) (some (.iinc 6 1, 79, [])) none) (cond (Nat.beq pc 79) (some (.goto (-53), 82, [26])) none))) (cond (Nat.blt pc 85) (cond (Nat.blt pc 83) (cond (Nat.beq pc 82) (some (.aload_n 0, 83, [])) none) (cond (Nat.beq pc 83) (some (.iload 5, 85, [])) none)) (cond (Nat.blt pc 88) (cond (Nat.beq pc 85) (some (.invokevirtual 54, 88, [])) none) (cond (Nat.beq pc 88) (some (.return_, 89, [])) none)))))))
set_option maxRecDepth 100000 in
theorem kX0_shiftDown : okT cX0_shiftDown tX0_shiftDown 89 8 = true := by decide +kernel
def tX0_divide : Tt := tWn 171 (fun pc => cond (Nat.blt pc 81) (cond (Nat.blt pc 41) (cond (Nat.blt pc 18) (cond (Nat.blt pc 9) (cond (Nat.blt pc 4) (cond (Nat.blt pc 1) (cond (Nat.beq pc 0) (some (.aload_n 1, 1, [])) none) (cond (Nat.beq pc 1) (some (.getfield 36, 4, [])) none)) (cond (Nat.blt pc 5) (cond (Nat.beq pc 4) (some (.istore_n 3, 5, [])) none) (cond (Nat.blt pc 6) (cond (Nat.beq pc 5) (some (.aload_n 2, 6, [])) none) (cond (Nat.beq pc 6) (some (.getfield 36, 9, [])) none)))) (cond (Nat.blt pc 13) (cond (Nat.blt pc 11) (cond (Nat.beq pc 9) (some (.istore 4, 11, [])) none) (cond (Nat.beq pc 11) (some (.iload 4, 13, [])) none)) (cond (Nat.blt pc 16) (cond (Nat.beq pc 13) (some (.ifCond .eq 11, 16, [24])) none) (cond (Nat.blt pc 17) (cond (Nat.beq pc 16) (some (.aload_n 1, 17, [])) none) (cond (Nat.beq pc 17) (some (.aload_n 2, 18, [])) none))))) (cond (Nat.blt pc 29) (cond (Nat.blt pc 24) (cond (Nat.blt pc 21) (cond (Nat.beq pc 18) (some (.invokestatic 67, 21, [])) none) (cond (Nat.beq pc 21) (some (.ifCond .ge 20, 24, [41])) none)) (cond (Nat.blt pc 25) (cond (Nat.beq pc 24) (some (.aload_n 0, 25, [])) none) (cond (Nat.blt pc 28) (cond (Nat.beq pc 25) (some (.getfield 18, 28, [])) none) (cond (Nat.beq pc 28) (some (.aload_n 1, 29, [])) none)))) (cond (Nat.blt pc 36) (cond (Nat.blt pc 32) (cond (Nat.beq pc 29) (some (.invokevirtual 71, 32, [])) none) (cond (Nat.blt pc 33) (cond (Nat.beq pc 32) (some (.aload_n 0, 33, [])) none) (cond (Nat.beq pc 33) (some (.getfield 12, 36, [])) none))) (cond (Nat.blt pc 37) (cond (Nat.beq pc 36) (some (.iconst 0, 37, [])) none) (cond (Nat.blt pc 40) (cond (Nat.beq pc 37) (some (.invokevirtual 54, 40, [])) none) (cond (Nat.beq pc 40) (some (.return_, 41, [])) none)))))) (cond (Nat.blt pc 59) (cond (Nat.blt pc 50) (cond (Nat.blt pc 44) (cond (Nat.blt pc 43) (cond (Nat.beq pc 41) (some (.bipush 15, 43, [])) none) (cond (Nat.beq pc 43) (some (.aload_n 2, 44, [])) none)) (cond (Nat.blt pc 47) (cond (Nat.beq pc 44) (some (.getfield 40, 47, [])) none) (cond (Nat.blt pc 49) (cond (Nat.beq pc 47) (some (.iload 4, 49, [])) none) (cond (Nat.beq pc 49) (some (.iconst 1, 50, [])) none)))) (cond (Nat.blt pc 55) (cond (Nat.blt pc 51) (cond (Nat.beq pc 50) (some (.isub, 51, [])) none) (cond (Nat.blt pc 52) (cond (Nat.beq pc 51) (some (.iaload, 52, [])) none) (cond (Nat.beq pc 52) (some (.invokestatic 75, 55, [])) none))) (cond (Nat.blt pc 56) (cond (Nat.beq pc 55) (some (.isub, 56, [])) none) (cond (Nat.blt pc 58) (cond (Nat.beq pc 56) (some (.istore 5, 58, [])) none) (cond (Nat.beq pc 58) (some (.aload_n 0, 59, [])) none))))) (cond (Nat.blt pc 69) (cond (Nat.blt pc 63) (cond (Nat.blt pc 62) (cond (Nat.beq pc 59) (some (.getfield 24, 62, [])) none) (cond (Nat.beq pc 62) (some (.aload_n 1, 63, [])) none)) (cond (Nat.blt pc 65) (cond (Nat.beq pc 63) (some (.iload 5, 65, [])) none) (cond (Nat.blt pc 68) (cond (Nat.beq pc 65) (some (.invokestatic 78, 68, [])) none) (cond (Nat.beq pc 68) (some (.aload_n 0, 69, [])) none)))) (cond (Nat.blt pc 75) (cond (Nat.blt pc 72) (cond (Nat.beq pc 69) (some (.getfield 27, 72, [])) none) (cond (Nat.blt pc 73) (cond (Nat.beq pc 72) (some (.aload_n 2, 73, [])) none) (cond (Nat.beq pc 73) (some (.iload 5, 75, [])) none))) (cond (Nat.blt pc 78) (cond (Nat.beq pc 75) (some (.invokestatic 78, 78, [])) none) (cond (Nat.blt pc 79) (cond (Nat.beq pc 78) (some (.iload_n 3, 79, [])) none) (cond (Nat.beq pc 79) (some (.iload 4, 81, [])) none))))))) (cond (Nat.blt pc 128) (cond (Nat.blt pc 102) (cond (Nat.blt pc 90) (cond (Nat.blt pc 84) (cond (Nat.blt pc 82) (cond (Nat.beq pc 81) (some (.isub, 82, [])) none) (cond (Nat.beq pc 82) (some (.istore 6, 84, [])) none)) (cond (Nat.blt pc 86) (cond (Nat.beq pc 84) (some (.iload 6, 86, [])) none) (cond (Nat.blt pc 89) (cond (Nat.beq pc 86) (some (.ifCond .lt 49, 89, [135])) none) (cond (Nat.beq pc 89) (some (.aload_n 0, 90, [])) none)))) (cond (Nat.blt pc 97) (cond (Nat.blt pc 92) (cond (Nat.beq pc 90) (some (.iload 6, 92, [])) none) (cond (Nat.blt pc 95) (cond (Nat.beq pc 92) (some (.invokevirtual 82, 95, [])) none) (cond (Nat.beq pc 95) (some (.istore 7, 97, [])) none))) (cond (Nat.blt pc 98) (cond (Nat.beq pc 97) (some (.aload_n 0, 98, [])) none) (cond (Nat.blt pc 100) (cond (Nat.beq pc 98) (some (.iload 7, 100, [])) none) (cond (Nat.beq pc 100) (some (.iload 6, 102, [])) none))))) (cond (Nat.blt pc 114) (cond (Nat.blt pc 108) (cond (Nat.blt pc 105) (cond (Nat.beq pc 102) (some (.invokevirtual 85, 105, [])) none) (cond (Nat.beq pc 105) (some (.ifCond .eq 12, 108, [117])) none)) (cond (Nat.blt pc 109) (cond (Nat.beq pc 108) (some (.aload_n 0, 109, [])) none) (cond (Nat.blt pc 111) (cond (Nat.beq pc 109) (some (.iload 6, 111, [])) none) (cond (Nat.beq pc 111) (some (.invokevirtual 89, 114, [])) none)))) (cond (Nat.blt pc 121) (cond (Nat.blt pc 117) (cond (Nat.beq pc 114) (some (.iinc 7 (-1), 117, [])) none) (cond (Nat.blt pc 118) (cond (Nat.beq pc 117) (some (.aload_n 0, 118, [])) none) (cond (Nat.beq pc 118) (some (.getfield 12, 121, [])) none))) (cond (Nat.blt pc 124) (cond (Nat.beq pc 121) (some (.getfield 40, 124, [])) none) (cond (Nat.blt pc 126) (cond (Nat.beq pc 124) (some (.iload 6, 126, [])) none) (cond (Nat.beq pc 126) (some (.iload 7, 128, [])) none)))))) (cond (Nat.blt pc 148) (cond (Nat.blt pc 139) (cond (Nat.blt pc 132) (cond (Nat.blt pc 129) (cond (Nat.beq pc 128) (some (.iastore, 129, [])) none) (cond (Nat.beq pc 129) (some (.iinc 6 (-1), 132, [])) none)) (cond (Nat.blt pc 135) (cond (Nat.beq pc 132) (some (.goto (-48), 135, [84])) none) (cond (Nat.blt pc 136) (cond (Nat.beq pc 135) (some (.aload_n 0, 136, [])) none) (cond (Nat.beq pc 136) (some (.getfield 12, 139, [])) none)))) (cond (Nat.blt pc 143) (cond (Nat.blt pc 140) (cond (Nat.beq pc 139) (some (.iload_n 3, 140, [])) none) (cond (Nat.blt pc 142) (cond (Nat.beq pc 140) (some (.iload 4, 142, [])) none) (cond (Nat.beq pc 142) (some (.isub, 143, [])) none))) (cond (Nat.blt pc 144) (cond (Nat.beq pc 143) (some (.iconst 1, 144, [])) none) (cond (Nat.blt pc 145) (cond (Nat.beq pc 144) (some (.iadd, 145, [])) none) (cond (Nat.beq pc 145) (some (.invokevirtual 54, 148, [])) none))))) (cond (Nat.blt pc 158) (cond (Nat.blt pc 152) (cond (Nat.blt pc 149) (cond (Nat.beq pc 148) (some (.aload_n 0, 149, [])) none) (cond (Nat.beq pc 149) (some (.getfield 24, 152, [])) none)) (cond (Nat.blt pc 154) (cond (Nat.beq pc 152) (some (.iload 4, 154, [])) none) (cond (Nat.blt pc 157) (cond (Nat.beq pc 154) (some (.invokevirtual 54, 157, [])) none) (cond (Nat.beq pc 157) (some (.aload_n 0, 158, [])) none)))) (cond (Nat.blt pc 165) (cond (Nat.blt pc 161) (cond (Nat.beq pc 158) (some (.getfield 18, 161, [])) none) (cond (Nat.blt pc 162) (cond (Nat.beq pc 161) (some (.aload_n 0, 162, [])) none) (cond (Nat.beq pc 162) (some (.getfield 24, 165, [])) none))) (cond (Nat.blt pc 167) (cond (Nat.beq pc 165) (some (.iload 5, 167, [])) none) (cond (Nat.blt pc 170) (cond (Nat.beq pc 167) (some (.invokestatic 92, 170, [])) none) (cond (Nat.beq pc 170) (some (.return_, 171, [])) none))))))))
set_option maxRecDepth 100000 in
theorem kX0_divide : okT cX0_divide tX0_divide 171 8 = true := by decide +kernel
def tX0_guessDigit : Tt := tWn 165 (fun pc => cond (Nat.blt pc 76) (cond (Nat.blt pc 38) (cond (Nat.blt pc 19) (cond (Nat.blt pc 9) (cond (Nat.blt pc 4) (cond (Nat.blt pc 1) (cond (Nat.beq pc 0) (some (.aload_n 0, 1, [])) none) (cond (Nat.beq pc 1) (some (.getfield 27, 4, [])) none)) (cond (Nat.blt pc 7) (cond (Nat.beq pc 4) (some (.getfield 36, 7, [])) none) (cond (Nat.blt pc 8) (cond (Nat.beq pc 7) (some (.istore_n 2, 8, [])) none) (cond (Nat.beq pc 8) (some (.aload_n 0, 9, [])) none)))) (cond (Nat.blt pc 14) (cond (Nat.blt pc 12) (cond (Nat.beq pc 9) (some (.getfield 27, 12, [])) none) (cond (Nat.blt pc 13) (cond (Nat.beq pc 12) (some (.iload_n 2, 13, [])) none) (cond (Nat.beq pc 13) (some (.iconst 1, 14, [])) none))) (cond (Nat.blt pc 15) (cond (Nat.beq pc 14) (some (.isub, 15, [])) none) (cond (Nat.blt pc 18) (cond (Nat.beq pc 15) (some (.invokevirtual 50, 18, [])) none) (cond (Nat.beq pc 18) (some (.istore_n 3, 19, [])) none))))) (cond (Nat.blt pc 29) (cond (Nat.blt pc 24) (cond (Nat.blt pc 20) (cond (Nat.beq pc 19) (some (.iload_n 3, 20, [])) none) (cond (Nat.blt pc 23) (cond (Nat.beq pc 20) (some (.ifCond .ne 5, 23, [25])) none) (cond (Nat.beq pc 23) (some (.iconst 0, 24, [])) none))) (cond (Nat.blt pc 25) (cond (Nat.beq pc 24) (some (.ireturn, 25, [])) none) (cond (Nat.blt pc 26) (cond (Nat.beq pc 25) (some (.aload_n 0, 26, [])) none) (cond (Nat.beq pc 26) (some (.getfield 27, 29, [])) none)))) (cond (Nat.blt pc 32) (cond (Nat.blt pc 30) (cond (Nat.beq pc 29) (some (.iload_n 2, 30, [])) none) (cond (Nat.blt pc 31) (cond (Nat.beq pc 30) (some (.iconst 2, 31, [])) none) (cond (Nat.beq pc 31) (some (.isub, 32, [])) none))) (cond (Nat.blt pc 35) (cond (Nat.beq pc 32) (some (.invokevirtual 50, 35, [])) none) (cond (Nat.blt pc 37) (cond (Nat.beq pc 35) (some (.istore 4, 37, [])) none) (cond (Nat.beq pc 37) (some (.aload_n 0, 38, [])) none)))))) (cond (Nat.blt pc 59) (cond (Nat.blt pc 48) (cond (Nat.blt pc 45) (cond (Nat.blt pc 41) (cond (Nat.beq pc 38) (some (.getfield 24, 41, [])) none) (cond (Nat.blt pc 44) (cond (Nat.beq pc 41) (some (.getfield 40, 44, [])) none) (cond (Nat.beq pc 44) (some (.iload_n 1, 45, [])) none))) (cond (Nat.blt pc 46) (cond (Nat.beq pc 45) (some (.iload_n 2, 46, [])) none) (cond (Nat.blt pc 47) (cond (Nat.beq pc 46) (some (.iadd, 47, [])) none) (cond (Nat.beq pc 47) (some (.iaload, 48, [])) none)))) (cond (Nat.blt pc 52) (cond (Nat.blt pc 50) (cond (Nat.beq pc 48) (some (.bipush 15, 50, [])) none) (cond (Nat.blt pc 51) (cond (Nat.beq pc 50) (some (.ishl, 51, [])) none) (cond (Nat.beq pc 51) (some (.aload_n 0, 52, [])) none))) (cond (Nat.blt pc 55) (cond (Nat.beq pc 52) (some (.getfield 24, 55, [])) none) (cond (Nat.blt pc 58) (cond (Nat.beq pc 55) (some (.getfield 40, 58, [])) none) (cond (Nat.beq pc 58) (some (.iload_n 1, 59, [])) none))))) (cond (Nat.blt pc 65) (cond (Nat.blt pc 62) (cond (Nat.blt pc 60) (cond (Nat.beq pc 59) (some (.iload_n 2, 60, [])) none) (cond (Nat.blt pc 61) (cond (Nat.beq pc 60) (some (.iadd, 61, [])) none) (cond (Nat.beq pc 61) (some (.iconst 1, 62, [])) none))) (cond (Nat.blt pc 63) (cond (Nat.beq pc 62) (some (.isub, 63, [])) none) (cond (Nat.blt pc 64) (cond (Nat.beq pc 63) (some (.iaload, 64, [])) none) (cond (Nat.beq pc 64) (some (.iadd, 65, [])) none)))) (cond (Nat.blt pc 69) (cond (Nat.blt pc 67) (cond (Nat.beq pc 65) (some (.istore 5, 67, [])) none) (cond (Nat.blt pc 68) (cond (Nat.beq pc 67) (some (.iload_n 2, 68, [])) none) (cond (Nat.beq pc 68) (some (.iconst 1, 69, [])) none))) (cond (Nat.blt pc 72) (cond (Nat.beq pc 69) (some (.if_icmp .le 19, 72, [88])) none) (cond (Nat.blt pc 73) (cond (Nat.beq pc 72) (some (.aload_n 0, 73, [])) none) (cond (Nat.beq pc 73) (some (.getfield 24, 76, [])) none))))))) (cond (Nat.blt pc 114) (cond (Nat.blt pc 94) (cond (Nat.blt pc 84) (cond (Nat.blt pc 81) (cond (Nat.blt pc 79) (cond (Nat.beq pc 76) (some (.getfield 40, 79, [])) none) (cond (Nat.blt pc 80) (cond (Nat.beq pc 79) (some (.iload_n 1, 80, [])) none) (cond (Nat.beq pc 80) (some (.iload_n 2, 81, [])) none))) (cond (Nat.blt pc 82) (cond (Nat.beq pc 81) (some (.iadd, 82, [])) none) (cond (Nat.blt pc 83) (cond (Nat.beq pc 82) (some (.iconst 2, 83, [])) none) (cond (Nat.beq pc 83) (some (.isub, 84, [])) none)))) (cond (Nat.blt pc 89) (cond (Nat.blt pc 85) (cond (Nat.beq pc 84) (some (.iaload, 85, [])) none) (cond (Nat.blt pc 88) (cond (Nat.beq pc 85) (some (.goto 4, 88, [89])) none) (cond (Nat.beq pc 88) (some (.iconst 0, 89, [])) none))) (cond (Nat.blt pc 91) (cond (Nat.beq pc 89) (some (.istore 6, 91, [])) none) (cond (Nat.blt pc 93) (cond (Nat.beq pc 91) (some (.iload 5, 93, [])) none) (cond (Nat.beq pc 93) (some (.iload_n 3, 94, [])) none))))) (cond (Nat.blt pc 103) (cond (Nat.blt pc 99) (cond (Nat.blt pc 95) (cond (Nat.beq pc 94) (some (.idiv, 95, [])) none) (cond (Nat.blt pc 97) (cond (Nat.beq pc 95) (some (.istore 7, 97, [])) none) (cond (Nat.beq pc 97) (some (.iload 5, 99, [])) none))) (cond (Nat.blt pc 100) (cond (Nat.beq pc 99) (some (.iload_n 3, 100, [])) none) (cond (Nat.blt pc 101) (cond (Nat.beq pc 100) (some (.irem, 101, [])) none) (cond (Nat.beq pc 101) (some (.istore 8, 103, [])) none)))) (cond (Nat.blt pc 108) (cond (Nat.blt pc 104) (cond (Nat.beq pc 103) (some (.iconst 0, 104, [])) none) (cond (Nat.blt pc 106) (cond (Nat.beq pc 104) (some (.istore 9, 106, [])) none) (cond (Nat.beq pc 106) (some (.iload 9, 108, [])) none))) (cond (Nat.blt pc 109) (cond (Nat.beq pc 108) (some (.iconst 2, 109, [])) none) (cond (Nat.blt pc 112) (cond (Nat.beq pc 109) (some (.if_icmp .ge 53, 112, [162])) none) (cond (Nat.beq pc 112) (some (.iload 8, 114, [])) none)))))) (cond (Nat.blt pc 140) (cond (Nat.blt pc 130) (cond (Nat.blt pc 122) (cond (Nat.blt pc 117) (cond (Nat.beq pc 114) (some (.sipush 32767, 117, [])) none) (cond (Nat.blt pc 120) (cond (Nat.beq pc 117) (some (.if_icmp .gt 45, 120, [162])) none) (cond (Nat.beq pc 120) (some (.iload 7, 122, [])) none))) (cond (Nat.blt pc 125) (cond (Nat.beq pc 122) (some (.sipush 32767, 125, [])) none) (cond (Nat.blt pc 128) (cond (Nat.beq pc 125) (some (.if_icmp .gt 22, 128, [147])) none) (cond (Nat.beq pc 128) (some (.iload 7, 130, [])) none)))) (cond (Nat.blt pc 135) (cond (Nat.blt pc 132) (cond (Nat.beq pc 130) (some (.iload 4, 132, [])) none) (cond (Nat.blt pc 133) (cond (Nat.beq pc 132) (some (.imul, 133, [])) none) (cond (Nat.beq pc 133) (some (.iload 8, 135, [])) none))) (cond (Nat.blt pc 137) (cond (Nat.beq pc 135) (some (.bipush 15, 137, [])) none) (cond (Nat.blt pc 138) (cond (Nat.beq pc 137) (some (.ishl, 138, [])) none) (cond (Nat.beq pc 138) (some (.iload 6, 140, [])) none))))) (cond (Nat.blt pc 153) (cond (Nat.blt pc 147) (cond (Nat.blt pc 141) (cond (Nat.beq pc 140) (some (.iadd, 141, [])) none) (cond (Nat.blt pc 144) (cond (Nat.beq pc 141) (some (.if_icmp .gt 6, 144, [147])) none) (cond (Nat.beq pc 144) (some (.goto 18, 147, [162])) none))) (cond (Nat.blt pc 150) (cond (Nat.beq pc 147) (some (.iinc 7 (-1), 150, [])) none) (cond (Nat.blt pc 152) (cond (Nat.beq pc 150) (some (.iload 8, 152, [])) none) (cond (Nat.beq pc 152) (some (.iload_n 3, 153, [])) none)))) (cond (Nat.blt pc 159) (cond (Nat.blt pc 154) (cond (Nat.beq pc 153) (some (.iadd, 154, [])) none) (cond (Nat.blt pc 156) (cond (Nat.beq pc 154) (some (.istore 8, 156, [])) none) (cond (Nat.beq pc 156) (some (.iinc 9 1, 159, [])) none))) (cond (Nat.blt pc 162) (cond (Nat.beq pc 159) (some (.goto (-53), 162, [106])) none) (cond (Nat.blt pc 164) (cond (Nat.beq pc 162) (some (.iload 7, 164, [])) none) (cond (Nat.beq pc 164) (some (.ireturn, 165, [])) none))))))))
set_option maxRecDepth 100000 in
theorem kX0_guessDigit : okT cX0_guessDigit tX0_guessDigit 165 10 = true := by decide +kernel
def tX0_subtractMultiple : Tt := tWn 101 (fun pc => cond (Nat.blt pc 52) (cond (Nat.blt pc 29) (cond (Nat.blt pc 15) (cond (Nat.blt pc 7) (cond (Nat.blt pc 1) (cond (Nat.beq pc 0) (some (.aload_n 0, 1, [])) none) (cond (Nat.blt pc 4) (cond (Nat.beq pc 1) (some (.getfield 24, 4, [])) none) (cond (Nat.beq pc 4) (some (.getfield 40, 7, [])) none))) (cond (Nat.blt pc 9) (cond (Nat.blt pc 8) (cond (Nat.beq pc 7) (some (.astore_n 3, 8, [])) none) (cond (Nat.beq pc 8) (some (.aload_n 0, 9, [])) none)) (cond (Nat.blt pc 12) (cond (Nat.beq pc 9) (some (.getfield 27, 12, [])) none) (cond (Nat.beq pc 12) (some (.getfield 40, 15, [])) none)))) (cond (Nat.blt pc 21) (cond (Nat.blt pc 17) (cond (Nat.beq pc 15) (some (.astore 4, 17, [])) none) (cond (Nat.blt pc 18) (cond (Nat.beq pc 17) (some (.aload_n 0, 18, [])) none) (cond (Nat.beq pc 18) (some (.getfield 27, 21, [])) none))) (cond (Nat.blt pc 26) (cond (Nat.blt pc 24) (cond (Nat.beq pc 21) (some (.getfield 36, 24, [])) none) (cond (Nat.beq pc 24) (some (.istore 5, 26, [])) none)) (cond (Nat.blt pc 27) (cond (Nat.beq pc 26) (some (.iconst 0, 27, [])) none) (cond (Nat.beq pc 27) (some (.istore 6, 29, [])) none))))) (cond (Nat.blt pc 42) (cond (Nat.blt pc 34) (cond (Nat.blt pc 30) (cond (Nat.beq pc 29) (some (.iconst 0, 30, [])) none) (cond (Nat.blt pc 32) (cond (Nat.beq pc 30) (some (.istore 7, 32, [])) none) (cond (Nat.beq pc 32) (some (.iload 7, 34, [])) none))) (cond (Nat.blt pc 39) (cond (Nat.blt pc 36) (cond (Nat.beq pc 34) (some (.iload 5, 36, [])) none) (cond (Nat.beq pc 36) (some (.if_icmp .ge 48, 39, [84])) none)) (cond (Nat.blt pc 40) (cond (Nat.beq pc 39) (some (.aload_n 3, 40, [])) none) (cond (Nat.beq pc 40) (some (.iload 7, 42, [])) none)))) (cond (Nat.blt pc 46) (cond (Nat.blt pc 44) (cond (Nat.blt pc 43) (cond (Nat.beq pc 42) (some (.iload_n 2, 43, [])) none) (cond (Nat.beq pc 43) (some (.iadd, 44, [])) none)) (cond (Nat.blt pc 45) (cond (Nat.beq pc 44) (some (.iaload, 45, [])) none) (cond (Nat.beq pc 45) (some (.iload_n 1, 46, [])) none))) (cond (Nat.blt pc 50) (cond (Nat.blt pc 48) (cond (Nat.beq pc 46) (some (.aload 4, 48, [])) none) (cond (Nat.beq pc 48) (some (.iload 7, 50, [])) none)) (cond (Nat.blt pc 51) (cond (Nat.beq pc 50) (some (.iaload, 51, [])) none) (cond (Nat.beq pc 51) (some (.imul, 52, [])) none)))))) (cond (Nat.blt pc 75) (cond (Nat.blt pc 62) (cond (Nat.blt pc 56) (cond (Nat.blt pc 53) (cond (Nat.beq pc 52) (some (.isub, 53, [])) none) (cond (Nat.blt pc 55) (cond (Nat.beq pc 53) (some (.iload 6, 55, [])) none) (cond (Nat.beq pc 55) (some (.isub, 56, [])) none))) (cond (Nat.blt pc 59) (cond (Nat.blt pc 58) (cond (Nat.beq pc 56) (some (.istore 8, 58, [])) none) (cond (Nat.beq pc 58) (some (.aload_n 3, 59, [])) none)) (cond (Nat.blt pc 61) (cond (Nat.beq pc 59) (some (.iload 7, 61, [])) none) (cond (Nat.beq pc 61) (some (.iload_n 2, 62, [])) none)))) (cond (Nat.blt pc 69) (cond (Nat.blt pc 65) (cond (Nat.blt pc 63) (cond (Nat.beq pc 62) (some (.iadd, 63, [])) none) (cond (Nat.beq pc 63) (some (.iload 8, 65, [])) none)) (cond (Nat.blt pc 68) (cond (Nat.beq pc 65) (some (.sipush 32767, 68, [])) none) (cond (Nat.beq pc 68) (some (.iand, 69, [])) none))) (cond (Nat.blt pc 72) (cond (Nat.blt pc 70) (cond (Nat.beq pc 69) (some (.iastore, 70, [])) none) (cond (Nat.beq pc 70) (some (.iload 8, 72, [])) none)) (cond (Nat.blt pc 74) (cond (Nat.beq pc 72) (some (.bipush 15, 74, [])) none) (cond (Nat.beq pc 74) (some (.ishr, 75, [])) none))))) (cond (Nat.blt pc 88) (cond (Nat.blt pc 81) (cond (Nat.blt pc 76) (cond (Nat.beq pc 75) (some (.ineg, 76, [])) none) (cond (Nat.blt pc 78) (cond (Nat.beq pc 76) (some (.istore 6, 78, [])) none) (cond (Nat.beq pc 78) (some (.iinc 7 1, 81, [])) none))) (cond (Nat.blt pc 85) (cond (Nat.blt pc 84) (cond (Nat.beq pc 81) (some (.goto (-49), 84, [32])) none) (cond (Nat.beq pc 84) (some (.aload_n 3, 85, [])) none)) (cond (Nat.blt pc 86) (cond (Nat.beq pc 85) (some (.iload_n 2, 86, [])) none) (cond (Nat.beq pc 86) (some (.iload 5, 88, [])) none)))) (cond (Nat.blt pc 95) (cond (Nat.blt pc 90) (cond (Nat.blt pc 89) (cond (Nat.beq pc 88) (some (.iadd, 89, [])) none) (cond (Nat.beq pc 89) (some (.iaload, 90, [])) none)) (cond (Nat.blt pc 92) (cond (Nat.beq pc 90) (some (.iload 6, 92, [])) none) (cond (Nat.beq pc 92) (some (.if_icmp .ge 7, 95, [99])) none))) (cond (Nat.blt pc 99) (cond (Nat.blt pc 96) (cond (Nat.beq pc 95) (some (.iconst 1, 96, [])) none) (cond (Nat.beq pc 96) (some (.goto 4, 99, [100])) none)) (cond (Nat.blt pc 100) (cond (Nat.beq pc 99) (some (.iconst 0, 100, [])) none) (cond (Nat.beq pc 100) (some (.ireturn, 101, [])) none)))))))
set_option maxRecDepth 100000 in
theorem kX0_subtractMultiple : okT cX0_subtractMultiple tX0_subtractMultiple 101 9 = true := by decide +kernel
def tX0_addBack : Tt := tWn 77 (fun pc => cond (Nat.blt pc 40) (cond (Nat.blt pc 19) (cond (Nat.blt pc 9) (cond (Nat.blt pc 4) (cond (Nat.blt pc 1) (cond (Nat.beq pc 0) (some (.aload_n 0, 1, [])) none) (cond (Nat.beq pc 1) (some (.getfield 27, 4, [])) none)) (cond (Nat.blt pc 7) (cond (Nat.beq pc 4) (some (.getfield 36, 7, [])) none) (cond (Nat.blt pc 8) (cond (Nat.beq pc 7) (some (.istore_n 2, 8, [])) none) (cond (Nat.beq pc 8) (some (.iconst 0, 9, [])) none)))) (cond (Nat.blt pc 13) (cond (Nat.blt pc 10) (cond (Nat.beq pc 9) (some (.istore_n 3, 10, [])) none) (cond (Nat.blt pc 11) (cond (Nat.beq pc 10) (some (.iconst 0, 11, [])) none) (cond (Nat.beq pc 11) (some (.istore 4, 13, [])) none))) (cond (Nat.blt pc 15) (cond (Nat.beq pc 13) (some (.iload 4, 15, [])) none) (cond (Nat.blt pc 16) (cond (Nat.beq pc 15) (some (.iload_n 2, 16, [])) none) (cond (Nat.beq pc 16) (some (.if_icmp .ge 60, 19, [76])) none))))) (cond (Nat.blt pc 29) (cond (Nat.blt pc 23) (cond (Nat.blt pc 20) (cond (Nat.beq pc 19) (some (.aload_n 0, 20, [])) none) (cond (Nat.beq pc 20) (some (.getfield 24, 23, [])) none)) (cond (Nat.blt pc 26) (cond (Nat.beq pc 23) (some (.getfield 40, 26, [])) none) (cond (Nat.blt pc 28) (cond (Nat.beq pc 26) (some (.iload 4, 28, [])) none) (cond (Nat.beq pc 28) (some (.iload_n 1, 29, [])) none)))) (cond (Nat.blt pc 32) (cond (Nat.blt pc 30) (cond (Nat.beq pc 29) (some (.iadd, 30, [])) none) (cond (Nat.blt pc 31) (cond (Nat.beq pc 30) (some (.iaload, 31, [])) none) (cond (Nat.beq pc 31) (some (.aload_n 0, 32, [])) none))) (cond (Nat.blt pc 35) (cond (Nat.beq pc 32) (some (.getfield 27, 35, [])) none) (cond (Nat.blt pc 38) (cond (Nat.beq pc 35) (some (.getfield 40, 38, [])) none) (cond (Nat.beq pc 38) (some (.iload 4, 40, [])) none)))))) (cond (Nat.blt pc 57) (cond (Nat.blt pc 46) (cond (Nat.blt pc 42) (cond (Nat.blt pc 41) (cond (Nat.beq pc 40) (some (.iaload, 41, [])) none) (cond (Nat.beq pc 41) (some (.iadd, 42, [])) none)) (cond (Nat.blt pc 43) (cond (Nat.beq pc 42) (some (.iload_n 3, 43, [])) none) (cond (Nat.blt pc 44) (cond (Nat.beq pc 43) (some (.iadd, 44, [])) none) (cond (Nat.beq pc 44) (some (.istore 5, 46, [])) none)))) (cond (Nat.blt pc 53) (cond (Nat.blt pc 47) (cond (Nat.beq pc 46) (some (.aload_n 0, 47, [])) none) (cond (Nat.blt pc 50) (cond (Nat.beq pc 47) (some (.getfield 24, 50, [])) none) (cond (Nat.beq pc 50) (some (.getfield 40, 53, [])) none))) (cond (Nat.blt pc 55) (cond (Nat.beq pc 53) (some (.iload 4, 55, [])) none) (cond (Nat.blt pc 56) (cond (Nat.beq pc 55) (some (.iload_n 1, 56, [])) none) (cond (Nat.beq pc 56) (some (.iadd, 57, [])) none))))) (cond (Nat.blt pc 66) (cond (Nat.blt pc 62) (cond (Nat.blt pc 59) (cond (Nat.beq pc 57) (some (.iload 5, 59, [])) none) (cond (Nat.beq pc 59) (some (.sipush 32767, 62, [])) none)) (cond (Nat.blt pc 63) (cond (Nat.beq pc 62) (some (.iand, 63, [])) none) (cond (Nat.blt pc 64) (cond (Nat.beq pc 63) (some (.iastore, 64, [])) none) (cond (Nat.beq pc 64) (some (.iload 5, 66, [])) none)))) (cond (Nat.blt pc 70) (cond (Nat.blt pc 68) (cond (Nat.beq pc 66) (some (.bipush 15, 68, [])) none) (cond (Nat.blt pc 69) (cond (Nat.beq pc 68) (some (.ishr, 69, [])) none) (cond (Nat.beq pc 69) (some (.istore_n 3, 70, [])) none))) (cond (Nat.blt pc 73) (cond (Nat.beq pc 70) (some (.iinc 4 1, 73, [])) none) (cond (Nat.blt pc 76) (cond (Nat.beq pc 73) (some (.goto (-60), 76, [13])) none) (cond (Nat.beq pc 76) (some (.return_, 77, [])) none)))))))
set_option maxRecDepth 100000 in
theorem kX0_addBack : okT cX0_addBack tX0_addBack 77 6 = true := by decide +kernel
def tX0_raise : Tt := tWn 144 (fun pc => cond (Nat.blt pc 68) (cond (Nat.blt pc 31) (cond (Nat.blt pc 14) (cond (Nat.blt pc 6) (cond (Nat.blt pc 2) (cond (Nat.blt pc 1) (cond (Nat.beq pc 0) (some (.aload_n 0, 1, [])) none) (cond (Nat.beq pc 1) (some (.aload_n 1, 2, [])) none)) (cond (Nat.blt pc 3) (cond (Nat.beq pc 2) (some (.aload_n 3, 3, [])) none) (cond (Nat.beq pc 3) (some (.invokevirtual 95, 6, [])) none))) (cond (Nat.blt pc 10) (cond (Nat.blt pc 7) (cond (Nat.beq pc 6) (some (.aload_n 0, 7, [])) none) (cond (Nat.beq pc 7) (some (.getfield 33, 10, [])) none)) (cond (Nat.blt pc 11) (cond (Nat.beq pc 10) (some (.aload_n 0, 11, [])) none) (cond (Nat.beq pc 11) (some (.getfield 18, 14, [])) none)))) (cond (Nat.blt pc 22) (cond (Nat.blt pc 18) (cond (Nat.blt pc 17) (cond (Nat.beq pc 14) (some (.invokevirtual 71, 17, [])) none) (cond (Nat.beq pc 17) (some (.aload_n 0, 18, [])) none)) (cond (Nat.blt pc 21) (cond (Nat.beq pc 18) (some (.getfield 21, 21, [])) none) (cond (Nat.beq pc 21) (some (.iconst 1, 22, [])) none))) (cond (Nat.blt pc 26) (cond (Nat.blt pc 25) (cond (Nat.beq pc 22) (some (.invokevirtual 99, 25, [])) none) (cond (Nat.beq pc 25) (some (.aload_n 0, 26, [])) none)) (cond (Nat.blt pc 27) (cond (Nat.beq pc 26) (some (.aload_n 0, 27, [])) none) (cond (Nat.blt pc 30) (cond (Nat.beq pc 27) (some (.getfield 21, 30, [])) none) (cond (Nat.beq pc 30) (some (.aload_n 3, 31, [])) none)))))) (cond (Nat.blt pc 50) (cond (Nat.blt pc 39) (cond (Nat.blt pc 35) (cond (Nat.blt pc 34) (cond (Nat.beq pc 31) (some (.invokevirtual 95, 34, [])) none) (cond (Nat.beq pc 34) (some (.aload_n 0, 35, [])) none)) (cond (Nat.blt pc 38) (cond (Nat.beq pc 35) (some (.getfield 21, 38, [])) none) (cond (Nat.beq pc 38) (some (.aload_n 0, 39, [])) none))) (cond (Nat.blt pc 45) (cond (Nat.blt pc 42) (cond (Nat.beq pc 39) (some (.getfield 18, 42, [])) none) (cond (Nat.beq pc 42) (some (.invokevirtual 71, 45, [])) none)) (cond (Nat.blt pc 46) (cond (Nat.beq pc 45) (some (.aload_n 2, 46, [])) none) (cond (Nat.blt pc 49) (cond (Nat.beq pc 46) (some (.invokevirtual 102, 49, [])) none) (cond (Nat.beq pc 49) (some (.iconst 1, 50, [])) none))))) (cond (Nat.blt pc 58) (cond (Nat.blt pc 53) (cond (Nat.blt pc 51) (cond (Nat.beq pc 50) (some (.isub, 51, [])) none) (cond (Nat.beq pc 51) (some (.istore 4, 53, [])) none)) (cond (Nat.blt pc 55) (cond (Nat.beq pc 53) (some (.iload 4, 55, [])) none) (cond (Nat.beq pc 55) (some (.ifCond .lt 88, 58, [143])) none))) (cond (Nat.blt pc 61) (cond (Nat.blt pc 59) (cond (Nat.beq pc 58) (some (.aload_n 2, 59, [])) none) (cond (Nat.beq pc 59) (some (.iload 4, 61, [])) none)) (cond (Nat.blt pc 64) (cond (Nat.beq pc 61) (some (.invokevirtual 106, 64, [])) none) (cond (Nat.blt pc 67) (cond (Nat.beq pc 64) (some (.ifCond .eq 7, 67, [71])) none) (cond (Nat.beq pc 67) (some (.iconst 2, 68, [])) none))))))) (cond (Nat.blt pc 104) (cond (Nat.blt pc 84) (cond (Nat.blt pc 75) (cond (Nat.blt pc 72) (cond (Nat.blt pc 71) (cond (Nat.beq pc 68) (some (.goto 4, 71, [72])) none) (cond (Nat.beq pc 71) (some (.iconst 1, 72, [])) none)) (cond (Nat.blt pc 74) (cond (Nat.beq pc 72) (some (.istore 5, 74, [])) none) (cond (Nat.beq pc 74) (some (.iconst 0, 75, [])) none))) (cond (Nat.blt pc 79) (cond (Nat.blt pc 77) (cond (Nat.beq pc 75) (some (.istore 6, 77, [])) none) (cond (Nat.beq pc 77) (some (.iload 6, 79, [])) none)) (cond (Nat.blt pc 81) (cond (Nat.beq pc 79) (some (.iload 5, 81, [])) none) (cond (Nat.beq pc 81) (some (.if_icmp .ge 56, 84, [137])) none)))) (cond (Nat.blt pc 92) (cond (Nat.blt pc 88) (cond (Nat.blt pc 85) (cond (Nat.beq pc 84) (some (.aload_n 0, 85, [])) none) (cond (Nat.beq pc 85) (some (.getfield 30, 88, [])) none)) (cond (Nat.blt pc 89) (cond (Nat.beq pc 88) (some (.aload_n 0, 89, [])) none) (cond (Nat.beq pc 89) (some (.getfield 21, 92, [])) none))) (cond (Nat.blt pc 97) (cond (Nat.blt pc 94) (cond (Nat.beq pc 92) (some (.iload 6, 94, [])) none) (cond (Nat.beq pc 94) (some (.ifCond .ne 10, 97, [104])) none)) (cond (Nat.blt pc 98) (cond (Nat.beq pc 97) (some (.aload_n 0, 98, [])) none) (cond (Nat.blt pc 101) (cond (Nat.beq pc 98) (some (.getfield 21, 101, [])) none) (cond (Nat.beq pc 101) (some (.goto 7, 104, [108])) none)))))) (cond (Nat.blt pc 121) (cond (Nat.blt pc 112) (cond (Nat.blt pc 108) (cond (Nat.blt pc 105) (cond (Nat.beq pc 104) (some (.aload_n 0, 105, [])) none) (cond (Nat.beq pc 105) (some (.getfield 33, 108, [])) none)) (cond (Nat.blt pc 111) (cond (Nat.beq pc 108) (some (.invokestatic 110, 111, [])) none) (cond (Nat.beq pc 111) (some (.aload_n 0, 112, [])) none))) (cond (Nat.blt pc 116) (cond (Nat.blt pc 113) (cond (Nat.beq pc 112) (some (.aload_n 0, 113, [])) none) (cond (Nat.beq pc 113) (some (.getfield 30, 116, [])) none)) (cond (Nat.blt pc 117) (cond (Nat.beq pc 116) (some (.aload_n 3, 117, [])) none) (cond (Nat.blt pc 120) (cond (Nat.beq pc 117) (some (.invokevirtual 95, 120, [])) none) (cond (Nat.beq pc 120) (some (.aload_n 0, 121, [])) none))))) (cond (Nat.blt pc 131) (cond (Nat.blt pc 125) (cond (Nat.blt pc 124) (cond (Nat.beq pc 121) (some (.getfield 21, 124, [])) none) (cond (Nat.beq pc 124) (some (.aload_n 0, 125, [])) none)) (cond (Nat.blt pc 128) (cond (Nat.beq pc 125) (some (.getfield 18, 128, [])) none) (cond (Nat.beq pc 128) (some (.invokevirtual 71, 131, [])) none))) (cond (Nat.blt pc 137) (cond (Nat.blt pc 134) (cond (Nat.beq pc 131) (some (.iinc 6 1, 134, [])) none) (cond (Nat.beq pc 134) (some (.goto (-57), 137, [77])) none)) (cond (Nat.blt pc 140) (cond (Nat.beq pc 137) (some (.iinc 4 (-1), 140, [])) none) (cond (Nat.blt pc 143) (cond (Nat.beq pc 140) (some (.goto (-87), 143, [53])) none) (cond (Nat.beq pc 143) (some (.return_, 144, [])) none))))))))
set_option maxRecDepth 100000 in
theorem kX0_raise : okT cX0_raise tX0_raise 144 7 = true := by decide +kernel
def tX0_commonDivisor : Tt := tWn 76 (fun pc => cond (Nat.blt pc 36) (cond (Nat.blt pc 17) (cond (Nat.blt pc 8) (cond (Nat.blt pc 4) (cond (Nat.blt pc 1) (cond (Nat.beq pc 0) (some (.aload_n 0, 1, [])) none) (cond (Nat.beq pc 1) (some (.getfield 21, 4, [])) none)) (cond (Nat.blt pc 5) (cond (Nat.beq pc 4) (some (.aload_n 1, 5, [])) none) (cond (Nat.beq pc 5) (some (.invokevirtual 71, 8, [])) none))) (cond (Nat.blt pc 12) (cond (Nat.blt pc 9) (cond (Nat.beq pc 8) (some (.aload_n 0, 9, [])) none) (cond (Nat.beq pc 9) (some (.getfield 33, 12, [])) none)) (cond (Nat.blt pc 13) (cond (Nat.beq pc 12) (some (.aload_n 2, 13, [])) none) (cond (Nat.blt pc 16) (cond (Nat.beq pc 13) (some (.invokevirtual 71, 16, [])) none) (cond (Nat.beq pc 16) (some (.iconst 0, 17, [])) none))))) (cond (Nat.blt pc 25) (cond (Nat.blt pc 19) (cond (Nat.blt pc 18) (cond (Nat.beq pc 17) (some (.istore_n 3, 18, [])) none) (cond (Nat.beq pc 18) (some (.iload_n 3, 19, [])) none)) (cond (Nat.blt pc 22) (cond (Nat.beq pc 19) (some (.sipush 10000, 22, [])) none) (cond (Nat.beq pc 22) (some (.if_icmp .ge 53, 25, [75])) none))) (cond (Nat.blt pc 29) (cond (Nat.blt pc 26) (cond (Nat.beq pc 25) (some (.aload_n 0, 26, [])) none) (cond (Nat.beq pc 26) (some (.getfield 33, 29, [])) none)) (cond (Nat.blt pc 32) (cond (Nat.beq pc 29) (some (.getfield 36, 32, [])) none) (cond (Nat.blt pc 35) (cond (Nat.beq pc 32) (some (.ifCond .le 43, 35, [75])) none) (cond (Nat.beq pc 35) (some (.aload_n 0, 36, [])) none)))))) (cond (Nat.blt pc 55) (cond (Nat.blt pc 44) (cond (Nat.blt pc 40) (cond (Nat.blt pc 37) (cond (Nat.beq pc 36) (some (.aload_n 0, 37, [])) none) (cond (Nat.beq pc 37) (some (.getfield 21, 40, [])) none)) (cond (Nat.blt pc 41) (cond (Nat.beq pc 40) (some (.aload_n 0, 41, [])) none) (cond (Nat.beq pc 41) (some (.getfield 33, 44, [])) none))) (cond (Nat.blt pc 48) (cond (Nat.blt pc 47) (cond (Nat.beq pc 44) (some (.invokevirtual 95, 47, [])) none) (cond (Nat.beq pc 47) (some (.aload_n 0, 48, [])) none)) (cond (Nat.blt pc 51) (cond (Nat.beq pc 48) (some (.getfield 21, 51, [])) none) (cond (Nat.blt pc 52) (cond (Nat.beq pc 51) (some (.aload_n 0, 52, [])) none) (cond (Nat.beq pc 52) (some (.getfield 33, 55, [])) none))))) (cond (Nat.blt pc 63) (cond (Nat.blt pc 59) (cond (Nat.blt pc 58) (cond (Nat.beq pc 55) (some (.invokevirtual 71, 58, [])) none) (cond (Nat.beq pc 58) (some (.aload_n 0, 59, [])) none)) (cond (Nat.blt pc 62) (cond (Nat.beq pc 59) (some (.getfield 33, 62, [])) none) (cond (Nat.beq pc 62) (some (.aload_n 0, 63, [])) none))) (cond (Nat.blt pc 69) (cond (Nat.blt pc 66) (cond (Nat.beq pc 63) (some (.getfield 18, 66, [])) none) (cond (Nat.beq pc 66) (some (.invokevirtual 71, 69, [])) none)) (cond (Nat.blt pc 72) (cond (Nat.beq pc 69) (some (.iinc 3 1, 72, [])) none) (cond (Nat.blt pc 75) (cond (Nat.beq pc 72) (some (.goto (-54), 75, [18])) none) (cond (Nat.beq pc 75) (some (.return_, 76, [])) none)))))))
set_option maxRecDepth 100000 in
theorem kX0_commonDivisor : okT cX0_commonDivisor tX0_commonDivisor 76 4 = true := by decide +kernel
def tX0_squareRoot : Tt := tWn 118 (fun pc => cond (Nat.blt pc 53) (cond (Nat.blt pc 28) (cond (Nat.blt pc 15) (cond (Nat.blt pc 5) (cond (Nat.blt pc 1) (cond (Nat.beq pc 0) (some (.aload_n 0, 1, [])) none) (cond (Nat.blt pc 4) (cond (Nat.beq pc 1) (some (.getfield 21, 4, [])) none) (cond (Nat.beq pc 4) (some (.aload_n 1, 5, [])) none))) (cond (Nat.blt pc 11) (cond (Nat.blt pc 8) (cond (Nat.beq pc 5) (some (.getfield 36, 8, [])) none) (cond (Nat.beq pc 8) (some (.ifCond .ne 7, 11, [15])) none)) (cond (Nat.blt pc 12) (cond (Nat.beq pc 11) (some (.iconst 0, 12, [])) none) (cond (Nat.beq pc 12) (some (.goto 4, 15, [16])) none)))) (cond (Nat.blt pc 20) (cond (Nat.blt pc 16) (cond (Nat.beq pc 15) (some (.iconst 1, 16, [])) none) (cond (Nat.blt pc 19) (cond (Nat.beq pc 16) (some (.invokevirtual 99, 19, [])) none) (cond (Nat.beq pc 19) (some (.aload_n 0, 20, [])) none))) (cond (Nat.blt pc 24) (cond (Nat.blt pc 23) (cond (Nat.beq pc 20) (some (.getfield 21, 23, [])) none) (cond (Nat.beq pc 23) (some (.aload_n 0, 24, [])) none)) (cond (Nat.blt pc 27) (cond (Nat.beq pc 24) (some (.getfield 21, 27, [])) none) (cond (Nat.beq pc 27) (some (.aload_n 1, 28, [])) none))))) (cond (Nat.blt pc 39) (cond (Nat.blt pc 33) (cond (Nat.blt pc 31) (cond (Nat.beq pc 28) (some (.invokevirtual 102, 31, [])) none) (cond (Nat.blt pc 32) (cond (Nat.beq pc 31) (some (.iconst 1, 32, [])) none) (cond (Nat.beq pc 32) (some (.iadd, 33, [])) none))) (cond (Nat.blt pc 35) (cond (Nat.blt pc 34) (cond (Nat.beq pc 33) (some (.iconst 2, 34, [])) none) (cond (Nat.beq pc 34) (some (.idiv, 35, [])) none)) (cond (Nat.blt pc 38) (cond (Nat.beq pc 35) (some (.invokestatic 78, 38, [])) none) (cond (Nat.beq pc 38) (some (.iconst 0, 39, [])) none)))) (cond (Nat.blt pc 47) (cond (Nat.blt pc 41) (cond (Nat.blt pc 40) (cond (Nat.beq pc 39) (some (.istore_n 2, 40, [])) none) (cond (Nat.beq pc 40) (some (.iload_n 2, 41, [])) none)) (cond (Nat.blt pc 44) (cond (Nat.beq pc 41) (some (.sipush 10000, 44, [])) none) (cond (Nat.beq pc 44) (some (.if_icmp .ge 73, 47, [117])) none))) (cond (Nat.blt pc 49) (cond (Nat.blt pc 48) (cond (Nat.beq pc 47) (some (.aload_n 0, 48, [])) none) (cond (Nat.beq pc 48) (some (.aload_n 1, 49, [])) none)) (cond (Nat.blt pc 50) (cond (Nat.beq pc 49) (some (.aload_n 0, 50, [])) none) (cond (Nat.beq pc 50) (some (.getfield 21, 53, [])) none)))))) (cond (Nat.blt pc 83) (cond (Nat.blt pc 68) (cond (Nat.blt pc 60) (cond (Nat.blt pc 56) (cond (Nat.beq pc 53) (some (.invokevirtual 95, 56, [])) none) (cond (Nat.blt pc 57) (cond (Nat.beq pc 56) (some (.aload_n 0, 57, [])) none) (cond (Nat.beq pc 57) (some (.getfield 33, 60, [])) none))) (cond (Nat.blt pc 64) (cond (Nat.blt pc 61) (cond (Nat.beq pc 60) (some (.aload_n 0, 61, [])) none) (cond (Nat.beq pc 61) (some (.getfield 12, 64, [])) none)) (cond (Nat.blt pc 65) (cond (Nat.beq pc 64) (some (.aload_n 0, 65, [])) none) (cond (Nat.beq pc 65) (some (.getfield 21, 68, [])) none)))) (cond (Nat.blt pc 75) (cond (Nat.blt pc 71) (cond (Nat.beq pc 68) (some (.invokestatic 114, 71, [])) none) (cond (Nat.blt pc 72) (cond (Nat.beq pc 71) (some (.aload_n 0, 72, [])) none) (cond (Nat.beq pc 72) (some (.getfield 33, 75, [])) none))) (cond (Nat.blt pc 79) (cond (Nat.blt pc 76) (cond (Nat.beq pc 75) (some (.aload_n 0, 76, [])) none) (cond (Nat.beq pc 76) (some (.getfield 33, 79, [])) none)) (cond (Nat.blt pc 80) (cond (Nat.beq pc 79) (some (.iconst 1, 80, [])) none) (cond (Nat.beq pc 80) (some (.invokestatic 92, 83, [])) none))))) (cond (Nat.blt pc 100) (cond (Nat.blt pc 88) (cond (Nat.blt pc 84) (cond (Nat.beq pc 83) (some (.aload_n 0, 84, [])) none) (cond (Nat.blt pc 87) (cond (Nat.beq pc 84) (some (.getfield 33, 87, [])) none) (cond (Nat.beq pc 87) (some (.aload_n 0, 88, [])) none))) (cond (Nat.blt pc 94) (cond (Nat.blt pc 91) (cond (Nat.beq pc 88) (some (.getfield 21, 91, [])) none) (cond (Nat.beq pc 91) (some (.invokestatic 67, 94, [])) none)) (cond (Nat.blt pc 97) (cond (Nat.beq pc 94) (some (.ifCond .lt 6, 97, [100])) none) (cond (Nat.beq pc 97) (some (.goto 20, 100, [117])) none)))) (cond (Nat.blt pc 108) (cond (Nat.blt pc 104) (cond (Nat.blt pc 101) (cond (Nat.beq pc 100) (some (.aload_n 0, 101, [])) none) (cond (Nat.beq pc 101) (some (.getfield 21, 104, [])) none)) (cond (Nat.blt pc 105) (cond (Nat.beq pc 104) (some (.aload_n 0, 105, [])) none) (cond (Nat.beq pc 105) (some (.getfield 33, 108, [])) none))) (cond (Nat.blt pc 114) (cond (Nat.blt pc 111) (cond (Nat.beq pc 108) (some (.invokevirtual 71, 111, [])) none) (cond (Nat.beq pc 111) (some (.iinc 2 1, 114, [])) none)) (cond (Nat.blt pc 117) (cond (Nat.beq pc 114) (some (.goto (-74), 117, [40])) none) (cond (Nat.beq pc 117) (some (.return_, 118, [])) none)))))))
set_option maxRecDepth 100000 in
theorem kX0_squareRoot : okT cX0_squareRoot tX0_squareRoot 118 3 = true := by decide +kernel
def tX0_jacobiSymbol : Tt := tWn 187 (fun pc => cond (Nat.blt pc 94) (cond (Nat.blt pc 48) (cond (Nat.blt pc 20) (cond (Nat.blt pc 8) (cond (Nat.blt pc 3) (cond (Nat.blt pc 1) (cond (Nat.beq pc 0) (some (.iconst 1, 1, [])) none) (cond (Nat.blt pc 2) (cond (Nat.beq pc 1) (some (.istore_n 3, 2, [])) none) (cond (Nat.beq pc 2) (some (.aload_n 0, 3, [])) none))) (cond (Nat.blt pc 4) (cond (Nat.beq pc 3) (some (.aload_n 1, 4, [])) none) (cond (Nat.blt pc 5) (cond (Nat.beq pc 4) (some (.aload_n 2, 5, [])) none) (cond (Nat.beq pc 5) (some (.invokevirtual 95, 8, [])) none)))) (cond (Nat.blt pc 13) (cond (Nat.blt pc 9) (cond (Nat.beq pc 8) (some (.aload_n 0, 9, [])) none) (cond (Nat.blt pc 12) (cond (Nat.beq pc 9) (some (.getfield 33, 12, [])) none) (cond (Nat.beq pc 12) (some (.aload_n 0, 13, [])) none))) (cond (Nat.blt pc 16) (cond (Nat.beq pc 13) (some (.getfield 18, 16, [])) none) (cond (Nat.blt pc 19) (cond (Nat.beq pc 16) (some (.invokevirtual 71, 19, [])) none) (cond (Nat.beq pc 19) (some (.aload_n 0, 20, [])) none))))) (cond (Nat.blt pc 32) (cond (Nat.blt pc 27) (cond (Nat.blt pc 23) (cond (Nat.beq pc 20) (some (.getfield 21, 23, [])) none) (cond (Nat.blt pc 24) (cond (Nat.beq pc 23) (some (.aload_n 2, 24, [])) none) (cond (Nat.beq pc 24) (some (.invokevirtual 71, 27, [])) none))) (cond (Nat.blt pc 28) (cond (Nat.beq pc 27) (some (.iconst 0, 28, [])) none) (cond (Nat.blt pc 30) (cond (Nat.beq pc 28) (some (.istore 4, 30, [])) none) (cond (Nat.beq pc 30) (some (.iload 4, 32, [])) none)))) (cond (Nat.blt pc 39) (cond (Nat.blt pc 35) (cond (Nat.beq pc 32) (some (.sipush 10000, 35, [])) none) (cond (Nat.blt pc 38) (cond (Nat.beq pc 35) (some (.if_icmp .ge 136, 38, [171])) none) (cond (Nat.beq pc 38) (some (.aload_n 0, 39, [])) none))) (cond (Nat.blt pc 42) (cond (Nat.beq pc 39) (some (.getfield 33, 42, [])) none) (cond (Nat.blt pc 45) (cond (Nat.beq pc 42) (some (.getfield 36, 45, [])) none) (cond (Nat.beq pc 45) (some (.ifCond .le 126, 48, [171])) none)))))) (cond (Nat.blt pc 74) (cond (Nat.blt pc 61) (cond (Nat.blt pc 55) (cond (Nat.blt pc 49) (cond (Nat.beq pc 48) (some (.aload_n 0, 49, [])) none) (cond (Nat.blt pc 52) (cond (Nat.beq pc 49) (some (.getfield 33, 52, [])) none) (cond (Nat.beq pc 52) (some (.invokevirtual 117, 55, [])) none))) (cond (Nat.blt pc 57) (cond (Nat.beq pc 55) (some (.istore 5, 57, [])) none) (cond (Nat.blt pc 58) (cond (Nat.beq pc 57) (some (.aload_n 0, 58, [])) none) (cond (Nat.beq pc 58) (some (.getfield 33, 61, [])) none)))) (cond (Nat.blt pc 67) (cond (Nat.blt pc 62) (cond (Nat.beq pc 61) (some (.aload_n 0, 62, [])) none) (cond (Nat.blt pc 65) (cond (Nat.beq pc 62) (some (.getfield 33, 65, [])) none) (cond (Nat.beq pc 65) (some (.iload 5, 67, [])) none))) (cond (Nat.blt pc 70) (cond (Nat.beq pc 67) (some (.invokestatic 92, 70, [])) none) (cond (Nat.blt pc 71) (cond (Nat.beq pc 70) (some (.aload_n 0, 71, [])) none) (cond (Nat.beq pc 71) (some (.getfield 21, 74, [])) none))))) (cond (Nat.blt pc 85) (cond (Nat.blt pc 80) (cond (Nat.blt pc 75) (cond (Nat.beq pc 74) (some (.iconst 0, 75, [])) none) (cond (Nat.blt pc 78) (cond (Nat.beq pc 75) (some (.invokevirtual 50, 78, [])) none) (cond (Nat.beq pc 78) (some (.bipush 8, 80, [])) none))) (cond (Nat.blt pc 81) (cond (Nat.beq pc 80) (some (.irem, 81, [])) none) (cond (Nat.blt pc 83) (cond (Nat.beq pc 81) (some (.istore 6, 83, [])) none) (cond (Nat.beq pc 83) (some (.iload 5, 85, [])) none)))) (cond (Nat.blt pc 88) (cond (Nat.blt pc 86) (cond (Nat.beq pc 85) (some (.iconst 2, 86, [])) none) (cond (Nat.blt pc 87) (cond (Nat.beq pc 86) (some (.irem, 87, [])) none) (cond (Nat.beq pc 87) (some (.iconst 1, 88, [])) none))) (cond (Nat.blt pc 91) (cond (Nat.beq pc 88) (some (.if_icmp .ne 18, 91, [106])) none) (cond (Nat.blt pc 93) (cond (Nat.beq pc 91) (some (.iload 6, 93, [])) none) (cond (Nat.beq pc 93) (some (.iconst 3, 94, [])) none))))))) (cond (Nat.blt pc 132) (cond (Nat.blt pc 115) (cond (Nat.blt pc 105) (cond (Nat.blt pc 100) (cond (Nat.blt pc 97) (cond (Nat.beq pc 94) (some (.if_icmp .eq 9, 97, [103])) none) (cond (Nat.blt pc 99) (cond (Nat.beq pc 97) (some (.iload 6, 99, [])) none) (cond (Nat.beq pc 99) (some (.iconst 5, 100, [])) none))) (cond (Nat.blt pc 103) (cond (Nat.beq pc 100) (some (.if_icmp .ne 6, 103, [106])) none) (cond (Nat.blt pc 104) (cond (Nat.beq pc 103) (some (.iload_n 3, 104, [])) none) (cond (Nat.beq pc 104) (some (.ineg, 105, [])) none)))) (cond (Nat.blt pc 110) (cond (Nat.blt pc 106) (cond (Nat.beq pc 105) (some (.istore_n 3, 106, [])) none) (cond (Nat.blt pc 107) (cond (Nat.beq pc 106) (some (.aload_n 0, 107, [])) none) (cond (Nat.beq pc 107) (some (.getfield 33, 110, [])) none))) (cond (Nat.blt pc 111) (cond (Nat.beq pc 110) (some (.iconst 0, 111, [])) none) (cond (Nat.blt pc 114) (cond (Nat.beq pc 111) (some (.invokevirtual 50, 114, [])) none) (cond (Nat.beq pc 114) (some (.iconst 4, 115, [])) none))))) (cond (Nat.blt pc 124) (cond (Nat.blt pc 120) (cond (Nat.blt pc 116) (cond (Nat.beq pc 115) (some (.irem, 116, [])) none) (cond (Nat.blt pc 117) (cond (Nat.beq pc 116) (some (.iconst 3, 117, [])) none) (cond (Nat.beq pc 117) (some (.if_icmp .ne 14, 120, [131])) none))) (cond (Nat.blt pc 122) (cond (Nat.beq pc 120) (some (.iload 6, 122, [])) none) (cond (Nat.blt pc 123) (cond (Nat.beq pc 122) (some (.iconst 4, 123, [])) none) (cond (Nat.beq pc 123) (some (.irem, 124, [])) none)))) (cond (Nat.blt pc 129) (cond (Nat.blt pc 125) (cond (Nat.beq pc 124) (some (.iconst 3, 125, [])) none) (cond (Nat.blt pc 128) (cond (Nat.beq pc 125) (some (.if_icmp .ne 6, 128, [131])) none) (cond (Nat.beq pc 128) (some (.iload_n 3, 129, [])) none))) (cond (Nat.blt pc 130) (cond (Nat.beq pc 129) (some (.ineg, 130, [])) none) (cond (Nat.blt pc 131) (cond (Nat.beq pc 130) (some (.istore_n 3, 131, [])) none) (cond (Nat.beq pc 131) (some (.aload_n 0, 132, [])) none)))))) (cond (Nat.blt pc 158) (cond (Nat.blt pc 144) (cond (Nat.blt pc 137) (cond (Nat.blt pc 133) (cond (Nat.beq pc 132) (some (.aload_n 0, 133, [])) none) (cond (Nat.blt pc 136) (cond (Nat.beq pc 133) (some (.getfield 21, 136, [])) none) (cond (Nat.beq pc 136) (some (.aload_n 0, 137, [])) none))) (cond (Nat.blt pc 140) (cond (Nat.beq pc 137) (some (.getfield 33, 140, [])) none) (cond (Nat.blt pc 143) (cond (Nat.beq pc 140) (some (.invokevirtual 95, 143, [])) none) (cond (Nat.beq pc 143) (some (.aload_n 0, 144, [])) none)))) (cond (Nat.blt pc 151) (cond (Nat.blt pc 147) (cond (Nat.beq pc 144) (some (.getfield 21, 147, [])) none) (cond (Nat.blt pc 148) (cond (Nat.beq pc 147) (some (.aload_n 0, 148, [])) none) (cond (Nat.beq pc 148) (some (.getfield 33, 151, [])) none))) (cond (Nat.blt pc 154) (cond (Nat.beq pc 151) (some (.invokevirtual 71, 154, [])) none) (cond (Nat.blt pc 155) (cond (Nat.beq pc 154) (some (.aload_n 0, 155, [])) none) (cond (Nat.beq pc 155) (some (.getfield 33, 158, [])) none))))) (cond (Nat.blt pc 172) (cond (Nat.blt pc 165) (cond (Nat.blt pc 159) (cond (Nat.beq pc 158) (some (.aload_n 0, 159, [])) none) (cond (Nat.blt pc 162) (cond (Nat.beq pc 159) (some (.getfield 18, 162, [])) none) (cond (Nat.beq pc 162) (some (.invokevirtual 71, 165, [])) none))) (cond (Nat.blt pc 168) (cond (Nat.beq pc 165) (some (.iinc 4 1, 168, [])) none) (cond (Nat.blt pc 171) (cond (Nat.beq pc 168) (some (.goto (-138), 171, [30])) none) (cond (Nat.beq pc 171) (some (.aload_n 0, 172, [])) none)))) (cond (Nat.blt pc 181) (cond (Nat.blt pc 175) (cond (Nat.beq pc 172) (some (.getfield 21, 175, [])) none) (cond (Nat.blt pc 178) (cond (Nat.beq pc 175) (some (.invokevirtual 120, 178, [])) none) (cond (Nat.beq pc 178) (some (.ifCond .eq 7, 181, [185])) none))) (cond (Nat.blt pc 185) (cond (Nat.blt pc 182) (cond (Nat.beq pc 181) (some (.iload_n 3, 182, [])) none) (cond (Nat.beq pc 182) (some (.goto 4, 185, [186])) none)) (cond (Nat.blt pc 186) (cond (Nat.beq pc 185) (some (.iconst 0, 186, [])) none) (cond (Nat.beq pc 186) (some (.ireturn, 187, [])) none))))))))
set_option maxRecDepth 100000 in
theorem kX0_jacobiSymbol : okT cX0_jacobiSymbol tX0_jacobiSymbol 187 7 = true := by decide +kernel
def tX1_init : Tt := tWn 42 (fun pc => cond (Nat.blt pc 20) (cond (Nat.blt pc 10) (cond (Nat.blt pc 5) (cond (Nat.blt pc 1) (cond (Nat.beq pc 0) (some (.aload_n 0, 1, [])) none) (cond (Nat.blt pc 4) (cond (Nat.beq pc 1) (some (.invokespecial 3, 4, [])) none) (cond (Nat.beq pc 4) (some (.aload_n 0, 5, [])) none))) (cond (Nat.blt pc 6) (cond (Nat.beq pc 5) (some (.iload_n 1, 6, [])) none) (cond (Nat.blt pc 9) (cond (Nat.beq pc 6) (some (.putfield 9, 9, [])) none) (cond (Nat.beq pc 9) (some (.aload_n 0, 10, [])) none)))) (cond (Nat.blt pc 16) (cond (Nat.blt pc 11) (cond (Nat.beq pc 10) (some (.iload_n 2, 11, [])) none) (cond (Nat.blt pc 13) (cond (Nat.beq pc 11) (some (.newarray .int, 13, [])) none) (cond (Nat.beq pc 13) (some (.putfield 15, 16, [])) none))) (cond (Nat.blt pc 18) (cond (Nat.blt pc 17) (cond (Nat.beq pc 16) (some (.aload_n 0, 17, [])) none) (cond (Nat.beq pc 17) (some (.iload_n 1, 18, [])) none)) (cond (Nat.blt pc 19) (cond (Nat.beq pc 18) (some (.iconst 5, 19, [])) none) (cond (Nat.beq pc 19) (some (.iadd, 20, [])) none))))) (cond (Nat.blt pc 29) (cond (Nat.blt pc 26) (cond (Nat.blt pc 22) (cond (Nat.beq pc 20) (some (.newarray .int, 22, [])) none) (cond (Nat.blt pc 25) (cond (Nat.beq pc 22) (some (.putfield 19, 25, [])) none) (cond (Nat.beq pc 25) (some (.aload_n 0, 26, [])) none))) (cond (Nat.blt pc 27) (cond (Nat.beq pc 26) (some (.iload_n 1, 27, [])) none) (cond (Nat.blt pc 28) (cond (Nat.beq pc 27) (some (.iconst 5, 28, [])) none) (cond (Nat.beq pc 28) (some (.iadd, 29, [])) none)))) (cond (Nat.blt pc 35) (cond (Nat.blt pc 31) (cond (Nat.beq pc 29) (some (.newarray .int, 31, [])) none) (cond (Nat.blt pc 34) (cond (Nat.beq pc 31) (some (.putfield 22, 34, [])) none) (cond (Nat.beq pc 34) (some (.aload_n 0, 35, [])) none))) (cond (Nat.blt pc 38) (cond (Nat.blt pc 36) (cond (Nat.beq pc 35) (some (.iload_n 1, 36, [])) none) (cond (Nat.beq pc 36) (some (.newarray .int, 38, [])) none)) (cond (Nat.blt pc 41) (cond (Nat.beq pc 38) (some (.putfield 25, 41, [])) none) (cond (Nat.beq pc 41) (some (.return_, 42, [])) none))))))
set_option maxRecDepth 100000 in
theorem kX1_init : okT cX1_init tX1_init 42 3 = true := by decide +kernel
def tX1_isLive : Tt := tWn 27 (fun pc => cond (Nat.blt pc 13) (cond (Nat.blt pc 5) (cond (Nat.blt pc 1) (cond (Nat.beq pc 0) (some (.iload_n 1, 1, [])) none) (cond (Nat.blt pc 4) (cond (Nat.beq pc 1) (some (.ifCond .lt 24, 4, [25])) none) (cond (Nat.beq pc 4) (some (.iload_n 1, 5, [])) none))) (cond (Nat.blt pc 9) (cond (Nat.blt pc 6) (cond (Nat.beq pc 5) (some (.aload_n 0, 6, [])) none) (cond (Nat.beq pc 6) (some (.getfield 9, 9, [])) none)) (cond (Nat.blt pc 12) (cond (Nat.beq pc 9) (some (.if_icmp .ge 16, 12, [25])) none) (cond (Nat.beq pc 12) (some (.aload_n 0, 13, [])) none)))) (cond (Nat.blt pc 21) (cond (Nat.blt pc 17) (cond (Nat.blt pc 16) (cond (Nat.beq pc 13) (some (.getfield 22, 16, [])) none) (cond (Nat.beq pc 16) (some (.iload_n 1, 17, [])) none)) (cond (Nat.blt pc 18) (cond (Nat.beq pc 17) (some (.iaload, 18, [])) none) (cond (Nat.beq pc 18) (some (.ifCond .le 7, 21, [25])) none))) (cond (Nat.blt pc 25) (cond (Nat.blt pc 22) (cond (Nat.beq pc 21) (some (.iconst 1, 22, [])) none) (cond (Nat.beq pc 22) (some (.goto 4, 25, [26])) none)) (cond (Nat.blt pc 26) (cond (Nat.beq pc 25) (some (.iconst 0, 26, [])) none) (cond (Nat.beq pc 26) (some (.ireturn, 27, [])) none)))))
set_option maxRecDepth 100000 in
theorem kX1_isLive : okT cX1_isLive tX1_isLive 27 2 = true := by decide +kernel
def tX1_areLive : Tt := tWn 30 (fun pc => cond (Nat.blt pc 16) (cond (Nat.blt pc 8) (cond (Nat.blt pc 2) (cond (Nat.blt pc 1) (cond (Nat.beq pc 0) (some (.aload_n 0, 1, [])) none) (cond (Nat.beq pc 1) (some (.iload_n 1, 2, [])) none)) (cond (Nat.blt pc 5) (cond (Nat.beq pc 2) (some (.invokevirtual 28, 5, [])) none) (cond (Nat.beq pc 5) (some (.ifCond .eq 23, 8, [28])) none))) (cond (Nat.blt pc 10) (cond (Nat.blt pc 9) (cond (Nat.beq pc 8) (some (.aload_n 0, 9, [])) none) (cond (Nat.beq pc 9) (some (.iload_n 2, 10, [])) none)) (cond (Nat.blt pc 13) (cond (Nat.beq pc 10) (some (.invokevirtual 28, 13, [])) none) (cond (Nat.beq pc 13) (some (.ifCond .eq 15, 16, [28])) none)))) (cond (Nat.blt pc 24) (cond (Nat.blt pc 18) (cond (Nat.blt pc 17) (cond (Nat.beq pc 16) (some (.aload_n 0, 17, [])) none) (cond (Nat.beq pc 17) (some (.iload_n 3, 18, [])) none)) (cond (Nat.blt pc 21) (cond (Nat.beq pc 18) (some (.invokevirtual 28, 21, [])) none) (cond (Nat.beq pc 21) (some (.ifCond .eq 7, 24, [28])) none))) (cond (Nat.blt pc 28) (cond (Nat.blt pc 25) (cond (Nat.beq pc 24) (some (.iconst 1, 25, [])) none) (cond (Nat.beq pc 25) (some (.goto 4, 28, [29])) none)) (cond (Nat.blt pc 29) (cond (Nat.beq pc 28) (some (.iconst 0, 29, [])) none) (cond (Nat.beq pc 29) (some (.ireturn, 30, [])) none)))))
set_option maxRecDepth 100000 in
theorem kX1_areLive : okT cX1_areLive tX1_areLive 30 4 = true := by decide +kernel
def tX1_leastFree : Tt := tWn 29 (fun pc => cond (Nat.blt pc 14) (cond (Nat.blt pc 4) (cond (Nat.blt pc 2) (cond (Nat.blt pc 1) (cond (Nat.beq pc 0) (some (.iconst 0, 1, [])) none) (cond (Nat.beq pc 1) (some (.istore_n 1, 2, [])) none)) (cond (Nat.blt pc 3) (cond (Nat.beq pc 2) (some (.iload_n 1, 3, [])) none) (cond (Nat.beq pc 3) (some (.aload_n 0, 4, [])) none))) (cond (Nat.blt pc 10) (cond (Nat.blt pc 7) (cond (Nat.beq pc 4) (some (.getfield 9, 7, [])) none) (cond (Nat.beq pc 7) (some (.if_icmp .ge 20, 10, [27])) none)) (cond (Nat.blt pc 11) (cond (Nat.beq pc 10) (some (.aload_n 0, 11, [])) none) (cond (Nat.beq pc 11) (some (.getfield 22, 14, [])) none)))) (cond (Nat.blt pc 20) (cond (Nat.blt pc 16) (cond (Nat.blt pc 15) (cond (Nat.beq pc 14) (some (.iload_n 1, 15, [])) none) (cond (Nat.beq pc 15) (some (.iaload, 16, [])) none)) (cond (Nat.blt pc 19) (cond (Nat.beq pc 16) (some (.ifCond .ne 5, 19, [21])) none) (cond (Nat.beq pc 19) (some (.iload_n 1, 20, [])) none))) (cond (Nat.blt pc 24) (cond (Nat.blt pc 21) (cond (Nat.beq pc 20) (some (.ireturn, 21, [])) none) (cond (Nat.beq pc 21) (some (.iinc 1 1, 24, [])) none)) (cond (Nat.blt pc 27) (cond (Nat.beq pc 24) (some (.goto (-22), 27, [2])) none) (cond (Nat.blt pc 28) (cond (Nat.beq pc 27) (some (.iconst (-1), 28, [])) none) (cond (Nat.beq pc 28) (some (.ireturn, 29, [])) none))))))
set_option maxRecDepth 100000 in
theorem kX1_leastFree : okT cX1_leastFree tX1_leastFree 29 2 = true := by decide +kernel
def tX1_liveHandles : Tt := tWn 32 (fun pc => cond (Nat.blt pc 13) (cond (Nat.blt pc 4) (cond (Nat.blt pc 2) (cond (Nat.blt pc 1) (cond (Nat.beq pc 0) (some (.iconst 0, 1, [])) none) (cond (Nat.beq pc 1) (some (.istore_n 1, 2, [])) none)) (cond (Nat.blt pc 3) (cond (Nat.beq pc 2) (some (.iconst 0, 3, [])) none) (cond (Nat.beq pc 3) (some (.istore_n 2, 4, [])) none))) (cond (Nat.blt pc 6) (cond (Nat.blt pc 5) (cond (Nat.beq pc 4) (some (.iload_n 2, 5, [])) none) (cond (Nat.beq pc 5) (some (.aload_n 0, 6, [])) none)) (cond (Nat.blt pc 9) (cond (Nat.beq pc 6) (some (.getfield 9, 9, [])) none) (cond (Nat.blt pc 12) (cond (Nat.beq pc 9) (some (.if_icmp .ge 21, 12, [30])) none) (cond (Nat.beq pc 12) (some (.aload_n 0, 13, [])) none))))) (cond (Nat.blt pc 21) (cond (Nat.blt pc 17) (cond (Nat.blt pc 16) (cond (Nat.beq pc 13) (some (.getfield 22, 16, [])) none) (cond (Nat.beq pc 16) (some (.iload_n 2, 17, [])) none)) (cond (Nat.blt pc 18) (cond (Nat.beq pc 17) (some (.iaload, 18, [])) none) (cond (Nat.beq pc 18) (some (.ifCond .le 6, 21, [24])) none))) (cond (Nat.blt pc 27) (cond (Nat.blt pc 24) (cond (Nat.beq pc 21) (some (.iinc 1 1, 24, [])) none) (cond (Nat.beq pc 24) (some (.iinc 2 1, 27, [])) none)) (cond (Nat.blt pc 30) (cond (Nat.beq pc 27) (some (.goto (-23), 30, [4])) none) (cond (Nat.blt pc 31) (cond (Nat.beq pc 30) (some (.iload_n 1, 31, [])) none) (cond (Nat.beq pc 31) (some (.ireturn, 32, [])) none))))))
set_option maxRecDepth 100000 in
theorem kX1_liveHandles : okT cX1_liveHandles tX1_liveHandles 32 3 = true := by decide +kernel
def tX1_free : Tt := tWn 15 (fun pc => cond (Nat.blt pc 7) (cond (Nat.blt pc 4) (cond (Nat.blt pc 1) (cond (Nat.beq pc 0) (some (.aload_n 0, 1, [])) none) (cond (Nat.beq pc 1) (some (.getfield 22, 4, [])) none)) (cond (Nat.blt pc 5) (cond (Nat.beq pc 4) (some (.iload_n 1, 5, [])) none) (cond (Nat.blt pc 6) (cond (Nat.beq pc 5) (some (.iconst 0, 6, [])) none) (cond (Nat.beq pc 6) (some (.iastore, 7, [])) none)))) (cond (Nat.blt pc 12) (cond (Nat.blt pc 8) (cond (Nat.beq pc 7) (some (.aload_n 0, 8, [])) none) (cond (Nat.blt pc 11) (cond (Nat.beq pc 8) (some (.getfield 25, 11, [])) none) (cond (Nat.beq pc 11) (some (.iload_n 1, 12, [])) none))) (cond (Nat.blt pc 13) (cond (Nat.beq pc 12) (some (.iconst 0, 13, [])) none) (cond (Nat.blt pc 14) (cond (Nat.beq pc 13) (some (.iastore, 14, [])) none) (cond (Nat.beq pc 14) (some (.return_, 15, [])) none)))))
set_option maxRecDepth 100000 in
theorem kX1_free : okT cX1_free tX1_free 15 2 = true := by decide +kernel
def tX1_usedCells : Tt := tWn 30 (fun pc => cond (Nat.blt pc 14) (cond (Nat.blt pc 5) (cond (Nat.blt pc 2) (cond (Nat.blt pc 1) (cond (Nat.beq pc 0) (some (.iconst 0, 1, [])) none) (cond (Nat.beq pc 1) (some (.istore_n 1, 2, [])) none)) (cond (Nat.blt pc 3) (cond (Nat.beq pc 2) (some (.iconst 0, 3, [])) none) (cond (Nat.blt pc 4) (cond (Nat.beq pc 3) (some (.istore_n 2, 4, [])) none) (cond (Nat.beq pc 4) (some (.iload_n 2, 5, [])) none)))) (cond (Nat.blt pc 9) (cond (Nat.blt pc 6) (cond (Nat.beq pc 5) (some (.aload_n 0, 6, [])) none) (cond (Nat.beq pc 6) (some (.getfield 22, 9, [])) none)) (cond (Nat.blt pc 10) (cond (Nat.beq pc 9) (some (.arraylength, 10, [])) none) (cond (Nat.blt pc 13) (cond (Nat.beq pc 10) (some (.if_icmp .ge 18, 13, [28])) none) (cond (Nat.beq pc 13) (some (.iload_n 1, 14, [])) none))))) (cond (Nat.blt pc 21) (cond (Nat.blt pc 18) (cond (Nat.blt pc 15) (cond (Nat.beq pc 14) (some (.aload_n 0, 15, [])) none) (cond (Nat.beq pc 15) (some (.getfield 22, 18, [])) none)) (cond (Nat.blt pc 19) (cond (Nat.beq pc 18) (some (.iload_n 2, 19, [])) none) (cond (Nat.blt pc 20) (cond (Nat.beq pc 19) (some (.iaload, 20, [])) none) (cond (Nat.beq pc 20) (some (.iadd, 21, [])) none)))) (cond (Nat.blt pc 25) (cond (Nat.blt pc 22) (cond (Nat.beq pc 21) (some (.istore_n 1, 22, [])) none) (cond (Nat.beq pc 22) (some (.iinc 2 1, 25, [])) none)) (cond (Nat.blt pc 28) (cond (Nat.beq pc 25) (some (.goto (-21), 28, [4])) none) (cond (Nat.blt pc 29) (cond (Nat.beq pc 28) (some (.iload_n 1, 29, [])) none) (cond (Nat.beq pc 29) (some (.ireturn, 30, [])) none))))))
set_option maxRecDepth 100000 in
theorem kX1_usedCells : okT cX1_usedCells tX1_usedCells 30 3 = true := by decide +kernel
def tX1_highestEnd : Tt := tWn 48 (fun pc => cond (Nat.blt pc 23) (cond (Nat.blt pc 9) (cond (Nat.blt pc 3) (cond (Nat.blt pc 1) (cond (Nat.beq pc 0) (some (.iconst 0, 1, [])) none) (cond (Nat.blt pc 2) (cond (Nat.beq pc 1) (some (.istore_n 1, 2, [])) none) (cond (Nat.beq pc 2) (some (.iconst 0, 3, [])) none))) (cond (Nat.blt pc 5) (cond (Nat.blt pc 4) (cond (Nat.beq pc 3) (some (.istore_n 2, 4, [])) none) (cond (Nat.beq pc 4) (some (.iload_n 2, 5, [])) none)) (cond (Nat.blt pc 6) (cond (Nat.beq pc 5) (some (.aload_n 0, 6, [])) none) (cond (Nat.beq pc 6) (some (.getfield 22, 9, [])) none)))) (cond (Nat.blt pc 17) (cond (Nat.blt pc 13) (cond (Nat.blt pc 10) (cond (Nat.beq pc 9) (some (.arraylength, 10, [])) none) (cond (Nat.beq pc 10) (some (.if_icmp .ge 36, 13, [46])) none)) (cond (Nat.blt pc 14) (cond (Nat.beq pc 13) (some (.aload_n 0, 14, [])) none) (cond (Nat.beq pc 14) (some (.getfield 22, 17, [])) none))) (cond (Nat.blt pc 19) (cond (Nat.blt pc 18) (cond (Nat.beq pc 17) (some (.iload_n 2, 18, [])) none) (cond (Nat.beq pc 18) (some (.iaload, 19, [])) none)) (cond (Nat.blt pc 22) (cond (Nat.beq pc 19) (some (.ifCond .le 21, 22, [40])) none) (cond (Nat.beq pc 22) (some (.iload_n 1, 23, [])) none))))) (cond (Nat.blt pc 34) (cond (Nat.blt pc 28) (cond (Nat.blt pc 24) (cond (Nat.beq pc 23) (some (.aload_n 0, 24, [])) none) (cond (Nat.blt pc 27) (cond (Nat.beq pc 24) (some (.getfield 19, 27, [])) none) (cond (Nat.beq pc 27) (some (.iload_n 2, 28, [])) none))) (cond (Nat.blt pc 30) (cond (Nat.blt pc 29) (cond (Nat.beq pc 28) (some (.iaload, 29, [])) none) (cond (Nat.beq pc 29) (some (.aload_n 0, 30, [])) none)) (cond (Nat.blt pc 33) (cond (Nat.beq pc 30) (some (.getfield 22, 33, [])) none) (cond (Nat.beq pc 33) (some (.iload_n 2, 34, [])) none)))) (cond (Nat.blt pc 40) (cond (Nat.blt pc 36) (cond (Nat.blt pc 35) (cond (Nat.beq pc 34) (some (.iaload, 35, [])) none) (cond (Nat.beq pc 35) (some (.iadd, 36, [])) none)) (cond (Nat.blt pc 39) (cond (Nat.beq pc 36) (some (.invokestatic 32, 39, [])) none) (cond (Nat.beq pc 39) (some (.istore_n 1, 40, [])) none))) (cond (Nat.blt pc 46) (cond (Nat.blt pc 43) (cond (Nat.beq pc 40) (some (.iinc 2 1, 43, [])) none) (cond (Nat.beq pc 43) (some (.goto (-39), 46, [4])) none)) (cond (Nat.blt pc 47) (cond (Nat.beq pc 46) (some (.iload_n 1, 47, [])) none) (cond (Nat.beq pc 47) (some (.ireturn, 48, [])) none))))))
set_option maxRecDepth 100000 in
theorem kX1_highestEnd : okT cX1_highestEnd tX1_highestEnd 48 3 = true := by decide +kernel
def tX1_hasSpace : Tt := tWn 20 (fun pc => cond (Nat.blt pc 10) (cond (Nat.blt pc 5) (cond (Nat.blt pc 1) (cond (Nat.beq pc 0) (some (.aload_n 0, 1, [])) none) (cond (Nat.blt pc 4) (cond (Nat.beq pc 1) (some (.invokevirtual 38, 4, [])) none) (cond (Nat.beq pc 4) (some (.iload_n 1, 5, [])) none))) (cond (Nat.blt pc 6) (cond (Nat.beq pc 5) (some (.iadd, 6, [])) none) (cond (Nat.blt pc 7) (cond (Nat.beq pc 6) (some (.aload_n 0, 7, [])) none) (cond (Nat.beq pc 7) (some (.getfield 15, 10, [])) none)))) (cond (Nat.blt pc 15) (cond (Nat.blt pc 11) (cond (Nat.beq pc 10) (some (.arraylength, 11, [])) none) (cond (Nat.blt pc 14) (cond (Nat.beq pc 11) (some (.if_icmp .gt 7, 14, [18])) none) (cond (Nat.beq pc 14) (some (.iconst 1, 15, [])) none))) (cond (Nat.blt pc 18) (cond (Nat.beq pc 15) (some (.goto 4, 18, [19])) none) (cond (Nat.blt pc 19) (cond (Nat.beq pc 18) (some (.iconst 0, 19, [])) none) (cond (Nat.beq pc 19) (some (.ireturn, 20, [])) none)))))
set_option maxRecDepth 100000 in
theorem kX1_hasSpace : okT cX1_hasSpace tX1_hasSpace 20 2 = true := by decide +kernel
def tX1_limbIn : Tt := tWn 52 (fun pc => cond (Nat.blt pc 26) (cond (Nat.blt pc 12) (cond (Nat.blt pc 4) (cond (Nat.blt pc 2) (cond (Nat.blt pc 1) (cond (Nat.beq pc 0) (some (.iconst 0, 1, [])) none) (cond (Nat.beq pc 1) (some (.istore_n 2, 2, [])) none)) (cond (Nat.blt pc 3) (cond (Nat.beq pc 2) (some (.iload_n 2, 3, [])) none) (cond (Nat.beq pc 3) (some (.aload_n 0, 4, [])) none))) (cond (Nat.blt pc 10) (cond (Nat.blt pc 7) (cond (Nat.beq pc 4) (some (.getfield 9, 7, [])) none) (cond (Nat.beq pc 7) (some (.if_icmp .ge 43, 10, [50])) none)) (cond (Nat.blt pc 11) (cond (Nat.beq pc 10) (some (.iload_n 1, 11, [])) none) (cond (Nat.beq pc 11) (some (.aload_n 0, 12, [])) none)))) (cond (Nat.blt pc 20) (cond (Nat.blt pc 16) (cond (Nat.blt pc 15) (cond (Nat.beq pc 12) (some (.getfield 19, 15, [])) none) (cond (Nat.beq pc 15) (some (.iload_n 2, 16, [])) none)) (cond (Nat.blt pc 17) (cond (Nat.beq pc 16) (some (.iaload, 17, [])) none) (cond (Nat.beq pc 17) (some (.if_icmp .lt 27, 20, [44])) none))) (cond (Nat.blt pc 22) (cond (Nat.blt pc 21) (cond (Nat.beq pc 20) (some (.iload_n 1, 21, [])) none) (cond (Nat.beq pc 21) (some (.aload_n 0, 22, [])) none)) (cond (Nat.blt pc 25) (cond (Nat.beq pc 22) (some (.getfield 19, 25, [])) none) (cond (Nat.beq pc 25) (some (.iload_n 2, 26, [])) none))))) (cond (Nat.blt pc 38) (cond (Nat.blt pc 32) (cond (Nat.blt pc 28) (cond (Nat.blt pc 27) (cond (Nat.beq pc 26) (some (.iaload, 27, [])) none) (cond (Nat.beq pc 27) (some (.isub, 28, [])) none)) (cond (Nat.blt pc 29) (cond (Nat.beq pc 28) (some (.aload_n 0, 29, [])) none) (cond (Nat.beq pc 29) (some (.getfield 22, 32, [])) none))) (cond (Nat.blt pc 34) (cond (Nat.blt pc 33) (cond (Nat.beq pc 32) (some (.iload_n 2, 33, [])) none) (cond (Nat.beq pc 33) (some (.iaload, 34, [])) none)) (cond (Nat.blt pc 37) (cond (Nat.beq pc 34) (some (.if_icmp .ge 10, 37, [44])) none) (cond (Nat.beq pc 37) (some (.aload_n 0, 38, [])) none)))) (cond (Nat.blt pc 44) (cond (Nat.blt pc 42) (cond (Nat.blt pc 41) (cond (Nat.beq pc 38) (some (.getfield 15, 41, [])) none) (cond (Nat.beq pc 41) (some (.iload_n 1, 42, [])) none)) (cond (Nat.blt pc 43) (cond (Nat.beq pc 42) (some (.iaload, 43, [])) none) (cond (Nat.beq pc 43) (some (.ireturn, 44, [])) none))) (cond (Nat.blt pc 50) (cond (Nat.blt pc 47) (cond (Nat.beq pc 44) (some (.iinc 2 1, 47, [])) none) (cond (Nat.beq pc 47) (some (.goto (-45), 50, [2])) none)) (cond (Nat.blt pc 51) (cond (Nat.beq pc 50) (some (.iconst (-1), 51, [])) none) (cond (Nat.beq pc 51) (some (.ireturn, 52, [])) none))))))
set_option maxRecDepth 100000 in
theorem kX1_limbIn : okT cX1_limbIn tX1_limbIn 52 3 = true := by decide +kernel
def tX1_limbOf : Tt := tWn 32 (fun pc => cond (Nat.blt pc 18) (cond (Nat.blt pc 9) (cond (Nat.blt pc 4) (cond (Nat.blt pc 1) (cond (Nat.beq pc 0) (some (.iload_n 2, 1, [])) none) (cond (Nat.beq pc 1) (some (.ifCond .lt 29, 4, [30])) none)) (cond (Nat.blt pc 5) (cond (Nat.beq pc 4) (some (.iload_n 2, 5, [])) none) (cond (Nat.blt pc 6) (cond (Nat.beq pc 5) (some (.aload_n 0, 6, [])) none) (cond (Nat.beq pc 6) (some (.getfield 25, 9, [])) none)))) (cond (Nat.blt pc 11) (cond (Nat.blt pc 10) (cond (Nat.beq pc 9) (some (.iload_n 1, 10, [])) none) (cond (Nat.beq pc 10) (some (.iaload, 11, [])) none)) (cond (Nat.blt pc 14) (cond (Nat.beq pc 11) (some (.if_icmp .ge 19, 14, [30])) none) (cond (Nat.blt pc 15) (cond (Nat.beq pc 14) (some (.aload_n 0, 15, [])) none) (cond (Nat.beq pc 15) (some (.getfield 15, 18, [])) none))))) (cond (Nat.blt pc 25) (cond (Nat.blt pc 22) (cond (Nat.blt pc 19) (cond (Nat.beq pc 18) (some (.aload_n 0, 19, [])) none) (cond (Nat.beq pc 19) (some (.getfield 19, 22, [])) none)) (cond (Nat.blt pc 23) (cond (Nat.beq pc 22) (some (.iload_n 1, 23, [])) none) (cond (Nat.blt pc 24) (cond (Nat.beq pc 23) (some (.iaload, 24, [])) none) (cond (Nat.beq pc 24) (some (.iload_n 2, 25, [])) none)))) (cond (Nat.blt pc 27) (cond (Nat.blt pc 26) (cond (Nat.beq pc 25) (some (.iadd, 26, [])) none) (cond (Nat.beq pc 26) (some (.iaload, 27, [])) none)) (cond (Nat.blt pc 30) (cond (Nat.beq pc 27) (some (.goto 4, 30, [31])) none) (cond (Nat.blt pc 31) (cond (Nat.beq pc 30) (some (.iconst 0, 31, [])) none) (cond (Nat.beq pc 31) (some (.ireturn, 32, [])) none))))))
set_option maxRecDepth 100000 in
theorem kX1_limbOf : okT cX1_limbOf tX1_limbOf 32 3 = true := by decide +kernel
def tX1_writeLimb : Tt := tWn 63 (fun pc => cond (Nat.blt pc 31) (cond (Nat.blt pc 13) (cond (Nat.blt pc 8) (cond (Nat.blt pc 4) (cond (Nat.blt pc 1) (cond (Nat.beq pc 0) (some (.aload_n 0, 1, [])) none) (cond (Nat.beq pc 1) (some (.getfield 15, 4, [])) none)) (cond (Nat.blt pc 5) (cond (Nat.beq pc 4) (some (.aload_n 0, 5, [])) none) (cond (Nat.beq pc 5) (some (.getfield 19, 8, [])) none))) (cond (Nat.blt pc 10) (cond (Nat.blt pc 9) (cond (Nat.beq pc 8) (some (.iload_n 1, 9, [])) none) (cond (Nat.beq pc 9) (some (.iaload, 10, [])) none)) (cond (Nat.blt pc 11) (cond (Nat.beq pc 10) (some (.iload_n 2, 11, [])) none) (cond (Nat.blt pc 12) (cond (Nat.beq pc 11) (some (.iadd, 12, [])) none) (cond (Nat.beq pc 12) (some (.iload_n 3, 13, [])) none))))) (cond (Nat.blt pc 20) (cond (Nat.blt pc 15) (cond (Nat.blt pc 14) (cond (Nat.beq pc 13) (some (.iastore, 14, [])) none) (cond (Nat.beq pc 14) (some (.aload_n 0, 15, [])) none)) (cond (Nat.blt pc 18) (cond (Nat.beq pc 15) (some (.getfield 22, 18, [])) none) (cond (Nat.blt pc 19) (cond (Nat.beq pc 18) (some (.iload_n 1, 19, [])) none) (cond (Nat.beq pc 19) (some (.iaload, 20, [])) none)))) (cond (Nat.blt pc 24) (cond (Nat.blt pc 22) (cond (Nat.beq pc 20) (some (.istore 4, 22, [])) none) (cond (Nat.beq pc 22) (some (.iload 4, 24, [])) none)) (cond (Nat.blt pc 27) (cond (Nat.beq pc 24) (some (.ifCond .le 28, 27, [52])) none) (cond (Nat.blt pc 28) (cond (Nat.beq pc 27) (some (.aload_n 0, 28, [])) none) (cond (Nat.beq pc 28) (some (.getfield 15, 31, [])) none)))))) (cond (Nat.blt pc 43) (cond (Nat.blt pc 37) (cond (Nat.blt pc 35) (cond (Nat.blt pc 32) (cond (Nat.beq pc 31) (some (.aload_n 0, 32, [])) none) (cond (Nat.beq pc 32) (some (.getfield 19, 35, [])) none)) (cond (Nat.blt pc 36) (cond (Nat.beq pc 35) (some (.iload_n 1, 36, [])) none) (cond (Nat.beq pc 36) (some (.iaload, 37, [])) none))) (cond (Nat.blt pc 40) (cond (Nat.blt pc 39) (cond (Nat.beq pc 37) (some (.iload 4, 39, [])) none) (cond (Nat.beq pc 39) (some (.iadd, 40, [])) none)) (cond (Nat.blt pc 41) (cond (Nat.beq pc 40) (some (.iconst 1, 41, [])) none) (cond (Nat.blt pc 42) (cond (Nat.beq pc 41) (some (.isub, 42, [])) none) (cond (Nat.beq pc 42) (some (.iaload, 43, [])) none))))) (cond (Nat.blt pc 56) (cond (Nat.blt pc 49) (cond (Nat.blt pc 46) (cond (Nat.beq pc 43) (some (.ifCond .ne 9, 46, [52])) none) (cond (Nat.beq pc 46) (some (.iinc 4 (-1), 49, [])) none)) (cond (Nat.blt pc 52) (cond (Nat.beq pc 49) (some (.goto (-27), 52, [22])) none) (cond (Nat.blt pc 53) (cond (Nat.beq pc 52) (some (.aload_n 0, 53, [])) none) (cond (Nat.beq pc 53) (some (.getfield 25, 56, [])) none)))) (cond (Nat.blt pc 59) (cond (Nat.blt pc 57) (cond (Nat.beq pc 56) (some (.iload_n 1, 57, [])) none) (cond (Nat.beq pc 57) (some (.iload 4, 59, [])) none)) (cond (Nat.blt pc 60) (cond (Nat.beq pc 59) (some (.iastore, 60, [])) none) (cond (Nat.blt pc 62) (cond (Nat.beq pc 60) (some (.iload 4, 62, [])) none) (cond (Nat.beq pc 62) (some (.ireturn, 63, [])) none)))))))
set_option maxRecDepth 100000 in
theorem kX1_writeLimb : okT cX1_writeLimb tX1_writeLimb 63 5 = true := by decide +kernel
def tX1_read : Tt := tWn 35 (fun pc => cond (Nat.blt pc 16) (cond (Nat.blt pc 9) (cond (Nat.blt pc 4) (cond (Nat.blt pc 1) (cond (Nat.beq pc 0) (some (.aload_n 0, 1, [])) none) (cond (Nat.beq pc 1) (some (.getfield 15, 4, [])) none)) (cond (Nat.blt pc 5) (cond (Nat.beq pc 4) (some (.aload_n 0, 5, [])) none) (cond (Nat.blt pc 8) (cond (Nat.beq pc 5) (some (.getfield 19, 8, [])) none) (cond (Nat.beq pc 8) (some (.iload_n 1, 9, [])) none)))) (cond (Nat.blt pc 11) (cond (Nat.blt pc 10) (cond (Nat.beq pc 9) (some (.iaload, 10, [])) none) (cond (Nat.beq pc 10) (some (.aload_n 2, 11, [])) none)) (cond (Nat.blt pc 14) (cond (Nat.beq pc 11) (some (.getfield 42, 14, [])) none) (cond (Nat.blt pc 15) (cond (Nat.beq pc 14) (some (.iconst 0, 15, [])) none) (cond (Nat.beq pc 15) (some (.aload_n 0, 16, [])) none))))) (cond (Nat.blt pc 25) (cond (Nat.blt pc 20) (cond (Nat.blt pc 19) (cond (Nat.beq pc 16) (some (.getfield 25, 19, [])) none) (cond (Nat.beq pc 19) (some (.iload_n 1, 20, [])) none)) (cond (Nat.blt pc 21) (cond (Nat.beq pc 20) (some (.iaload, 21, [])) none) (cond (Nat.blt pc 24) (cond (Nat.beq pc 21) (some (.invokestatic 45, 24, [])) none) (cond (Nat.beq pc 24) (some (.aload_n 2, 25, [])) none)))) (cond (Nat.blt pc 30) (cond (Nat.blt pc 26) (cond (Nat.beq pc 25) (some (.aload_n 0, 26, [])) none) (cond (Nat.blt pc 29) (cond (Nat.beq pc 26) (some (.getfield 25, 29, [])) none) (cond (Nat.beq pc 29) (some (.iload_n 1, 30, [])) none))) (cond (Nat.blt pc 31) (cond (Nat.beq pc 30) (some (.iaload, 31, [])) none) (cond (Nat.blt pc 34) (cond (Nat.beq pc 31) (some (.putfield 51, 34, [])) none) (cond (Nat.beq pc 34) (some (.return_, 35, [])) none))))))
set_option maxRecDepth 100000 in
theorem kX1_read : okT cX1_read tX1_read 35 3 = true := by decide +kernel
def tX1_takeAhead : Tt := tWn 20 (fun pc => cond (Nat.blt pc 9) (cond (Nat.blt pc 4) (cond (Nat.blt pc 1) (cond (Nat.beq pc 0) (some (.iload_n 1, 1, [])) none) (cond (Nat.beq pc 1) (some (.ifCond .le 13, 4, [14])) none)) (cond (Nat.blt pc 5) (cond (Nat.beq pc 4) (some (.aload_n 0, 5, [])) none) (cond (Nat.blt pc 6) (cond (Nat.beq pc 5) (some (.iload_n 1, 6, [])) none) (cond (Nat.beq pc 6) (some (.invokevirtual 54, 9, [])) none)))) (cond (Nat.blt pc 15) (cond (Nat.blt pc 11) (cond (Nat.beq pc 9) (some (.bipush (-4), 11, [])) none) (cond (Nat.blt pc 14) (cond (Nat.beq pc 11) (some (.if_icmp .eq 7, 14, [18])) none) (cond (Nat.beq pc 14) (some (.iconst 1, 15, [])) none))) (cond (Nat.blt pc 18) (cond (Nat.beq pc 15) (some (.goto 4, 18, [19])) none) (cond (Nat.blt pc 19) (cond (Nat.beq pc 18) (some (.iconst 0, 19, [])) none) (cond (Nat.beq pc 19) (some (.ireturn, 20, [])) none)))))
set_option maxRecDepth 100000 in
theorem kX1_takeAhead : okT cX1_takeAhead tX1_takeAhead 20 2 = true := by decide +kernel
def tX1_take : Tt := tWn 75 (fun pc => cond (Nat.blt pc 40) (cond (Nat.blt pc 19) (cond (Nat.blt pc 9) (cond (Nat.blt pc 4) (cond (Nat.blt pc 1) (cond (Nat.beq pc 0) (some (.aload_n 0, 1, [])) none) (cond (Nat.beq pc 1) (some (.getfield 9, 4, [])) none)) (cond (Nat.blt pc 5) (cond (Nat.beq pc 4) (some (.aload_n 0, 5, [])) none) (cond (Nat.blt pc 8) (cond (Nat.beq pc 5) (some (.getfield 58, 8, [])) none) (cond (Nat.beq pc 8) (some (.iadd, 9, [])) none)))) (cond (Nat.blt pc 12) (cond (Nat.blt pc 10) (cond (Nat.beq pc 9) (some (.istore_n 2, 10, [])) none) (cond (Nat.blt pc 11) (cond (Nat.beq pc 10) (some (.aload_n 0, 11, [])) none) (cond (Nat.beq pc 11) (some (.iload_n 1, 12, [])) none))) (cond (Nat.blt pc 15) (cond (Nat.beq pc 12) (some (.invokevirtual 61, 15, [])) none) (cond (Nat.blt pc 18) (cond (Nat.beq pc 15) (some (.ifCond .ne 7, 18, [22])) none) (cond (Nat.beq pc 18) (some (.aload_n 0, 19, [])) none))))) (cond (Nat.blt pc 30) (cond (Nat.blt pc 23) (cond (Nat.blt pc 22) (cond (Nat.beq pc 19) (some (.invokevirtual 64, 22, [])) none) (cond (Nat.beq pc 22) (some (.aload_n 0, 23, [])) none)) (cond (Nat.blt pc 24) (cond (Nat.beq pc 23) (some (.iload_n 1, 24, [])) none) (cond (Nat.blt pc 27) (cond (Nat.beq pc 24) (some (.invokevirtual 61, 27, [])) none) (cond (Nat.beq pc 27) (some (.ifCond .eq 12, 30, [39])) none)))) (cond (Nat.blt pc 35) (cond (Nat.blt pc 31) (cond (Nat.beq pc 30) (some (.iload_n 2, 31, [])) none) (cond (Nat.blt pc 32) (cond (Nat.beq pc 31) (some (.aload_n 0, 32, [])) none) (cond (Nat.beq pc 32) (some (.getfield 22, 35, [])) none))) (cond (Nat.blt pc 36) (cond (Nat.beq pc 35) (some (.arraylength, 36, [])) none) (cond (Nat.blt pc 39) (cond (Nat.beq pc 36) (some (.if_icmp .lt 10, 39, [46])) none) (cond (Nat.beq pc 39) (some (.aload_n 0, 40, [])) none)))))) (cond (Nat.blt pc 60) (cond (Nat.blt pc 50) (cond (Nat.blt pc 45) (cond (Nat.blt pc 43) (cond (Nat.beq pc 40) (some (.invokevirtual 67, 43, [])) none) (cond (Nat.beq pc 43) (some (.bipush (-4), 45, [])) none)) (cond (Nat.blt pc 46) (cond (Nat.beq pc 45) (some (.ireturn, 46, [])) none) (cond (Nat.blt pc 47) (cond (Nat.beq pc 46) (some (.aload_n 0, 47, [])) none) (cond (Nat.beq pc 47) (some (.getfield 19, 50, [])) none)))) (cond (Nat.blt pc 55) (cond (Nat.blt pc 51) (cond (Nat.beq pc 50) (some (.iload_n 2, 51, [])) none) (cond (Nat.blt pc 52) (cond (Nat.beq pc 51) (some (.aload_n 0, 52, [])) none) (cond (Nat.beq pc 52) (some (.invokevirtual 38, 55, [])) none))) (cond (Nat.blt pc 56) (cond (Nat.beq pc 55) (some (.iastore, 56, [])) none) (cond (Nat.blt pc 57) (cond (Nat.beq pc 56) (some (.aload_n 0, 57, [])) none) (cond (Nat.beq pc 57) (some (.getfield 22, 60, [])) none))))) (cond (Nat.blt pc 65) (cond (Nat.blt pc 62) (cond (Nat.blt pc 61) (cond (Nat.beq pc 60) (some (.iload_n 2, 61, [])) none) (cond (Nat.beq pc 61) (some (.iload_n 1, 62, [])) none)) (cond (Nat.blt pc 63) (cond (Nat.beq pc 62) (some (.iastore, 63, [])) none) (cond (Nat.blt pc 64) (cond (Nat.beq pc 63) (some (.aload_n 0, 64, [])) none) (cond (Nat.beq pc 64) (some (.dup, 65, [])) none)))) (cond (Nat.blt pc 70) (cond (Nat.blt pc 68) (cond (Nat.beq pc 65) (some (.getfield 58, 68, [])) none) (cond (Nat.blt pc 69) (cond (Nat.beq pc 68) (some (.iconst 1, 69, [])) none) (cond (Nat.beq pc 69) (some (.iadd, 70, [])) none))) (cond (Nat.blt pc 73) (cond (Nat.beq pc 70) (some (.putfield 58, 73, [])) none) (cond (Nat.blt pc 74) (cond (Nat.beq pc 73) (some (.iload_n 2, 74, [])) none) (cond (Nat.beq pc 74) (some (.ireturn, 75, [])) none)))))))
set_option maxRecDepth 100000 in
theorem kX1_take : okT cX1_take tX1_take 75 3 = true := by decide +kernel
def tX1_dropTaken : Tt := tWn 33 (fun pc => cond (Nat.blt pc 15) (cond (Nat.blt pc 6) (cond (Nat.blt pc 4) (cond (Nat.blt pc 1) (cond (Nat.beq pc 0) (some (.aload_n 0, 1, [])) none) (cond (Nat.beq pc 1) (some (.getfield 9, 4, [])) none)) (cond (Nat.blt pc 5) (cond (Nat.beq pc 4) (some (.istore_n 1, 5, [])) none) (cond (Nat.beq pc 5) (some (.iload_n 1, 6, [])) none))) (cond (Nat.blt pc 10) (cond (Nat.blt pc 7) (cond (Nat.beq pc 6) (some (.aload_n 0, 7, [])) none) (cond (Nat.beq pc 7) (some (.getfield 22, 10, [])) none)) (cond (Nat.blt pc 11) (cond (Nat.beq pc 10) (some (.arraylength, 11, [])) none) (cond (Nat.blt pc 14) (cond (Nat.beq pc 11) (some (.if_icmp .ge 16, 14, [27])) none) (cond (Nat.beq pc 14) (some (.aload_n 0, 15, [])) none))))) (cond (Nat.blt pc 24) (cond (Nat.blt pc 19) (cond (Nat.blt pc 18) (cond (Nat.beq pc 15) (some (.getfield 22, 18, [])) none) (cond (Nat.beq pc 18) (some (.iload_n 1, 19, [])) none)) (cond (Nat.blt pc 20) (cond (Nat.beq pc 19) (some (.iconst 0, 20, [])) none) (cond (Nat.blt pc 21) (cond (Nat.beq pc 20) (some (.iastore, 21, [])) none) (cond (Nat.beq pc 21) (some (.iinc 1 1, 24, [])) none)))) (cond (Nat.blt pc 28) (cond (Nat.blt pc 27) (cond (Nat.beq pc 24) (some (.goto (-19), 27, [5])) none) (cond (Nat.beq pc 27) (some (.aload_n 0, 28, [])) none)) (cond (Nat.blt pc 29) (cond (Nat.beq pc 28) (some (.iconst 0, 29, [])) none) (cond (Nat.blt pc 32) (cond (Nat.beq pc 29) (some (.putfield 58, 32, [])) none) (cond (Nat.beq pc 32) (some (.return_, 33, [])) none))))))
set_option maxRecDepth 100000 in
theorem kX1_dropTaken : okT cX1_dropTaken tX1_dropTaken 33 2 = true := by decide +kernel
def tX1_slideTogether : Tt := tWn 84 (fun pc => cond (Nat.blt pc 42) (cond (Nat.blt pc 19) (cond (Nat.blt pc 10) (cond (Nat.blt pc 5) (cond (Nat.blt pc 1) (cond (Nat.beq pc 0) (some (.aload_n 0, 1, [])) none) (cond (Nat.blt pc 2) (cond (Nat.beq pc 1) (some (.dup, 2, [])) none) (cond (Nat.beq pc 2) (some (.getfield 70, 5, [])) none))) (cond (Nat.blt pc 6) (cond (Nat.beq pc 5) (some (.iconst 1, 6, [])) none) (cond (Nat.blt pc 7) (cond (Nat.beq pc 6) (some (.iadd, 7, [])) none) (cond (Nat.beq pc 7) (some (.putfield 70, 10, [])) none)))) (cond (Nat.blt pc 13) (cond (Nat.blt pc 11) (cond (Nat.beq pc 10) (some (.iconst 0, 11, [])) none) (cond (Nat.blt pc 12) (cond (Nat.beq pc 11) (some (.istore_n 1, 12, [])) none) (cond (Nat.beq pc 12) (some (.iconst 0, 13, [])) none))) (cond (Nat.blt pc 15) (cond (Nat.blt pc 14) (cond (Nat.beq pc 13) (some (.istore_n 2, 14, [])) none) (cond (Nat.beq pc 14) (some (.iload_n 2, 15, [])) none)) (cond (Nat.blt pc 16) (cond (Nat.beq pc 15) (some (.aload_n 0, 16, [])) none) (cond (Nat.beq pc 16) (some (.getfield 22, 19, [])) none))))) (cond (Nat.blt pc 29) (cond (Nat.blt pc 24) (cond (Nat.blt pc 20) (cond (Nat.beq pc 19) (some (.arraylength, 20, [])) none) (cond (Nat.blt pc 23) (cond (Nat.beq pc 20) (some (.if_icmp .ge 63, 23, [83])) none) (cond (Nat.beq pc 23) (some (.aload_n 0, 24, [])) none))) (cond (Nat.blt pc 25) (cond (Nat.beq pc 24) (some (.iload_n 1, 25, [])) none) (cond (Nat.blt pc 28) (cond (Nat.beq pc 25) (some (.invokevirtual 73, 28, [])) none) (cond (Nat.beq pc 28) (some (.istore_n 3, 29, [])) none)))) (cond (Nat.blt pc 34) (cond (Nat.blt pc 30) (cond (Nat.beq pc 29) (some (.iload_n 3, 30, [])) none) (cond (Nat.blt pc 31) (cond (Nat.beq pc 30) (some (.iconst (-1), 31, [])) none) (cond (Nat.beq pc 31) (some (.if_icmp .ne 6, 34, [37])) none))) (cond (Nat.blt pc 38) (cond (Nat.blt pc 37) (cond (Nat.beq pc 34) (some (.goto 49, 37, [83])) none) (cond (Nat.beq pc 37) (some (.aload_n 0, 38, [])) none)) (cond (Nat.blt pc 41) (cond (Nat.beq pc 38) (some (.getfield 15, 41, [])) none) (cond (Nat.beq pc 41) (some (.aload_n 0, 42, [])) none)))))) (cond (Nat.blt pc 65) (cond (Nat.blt pc 52) (cond (Nat.blt pc 47) (cond (Nat.blt pc 45) (cond (Nat.beq pc 42) (some (.getfield 19, 45, [])) none) (cond (Nat.blt pc 46) (cond (Nat.beq pc 45) (some (.iload_n 3, 46, [])) none) (cond (Nat.beq pc 46) (some (.iaload, 47, [])) none))) (cond (Nat.blt pc 48) (cond (Nat.beq pc 47) (some (.aload_n 0, 48, [])) none) (cond (Nat.blt pc 51) (cond (Nat.beq pc 48) (some (.getfield 15, 51, [])) none) (cond (Nat.beq pc 51) (some (.iload_n 1, 52, [])) none)))) (cond (Nat.blt pc 57) (cond (Nat.blt pc 53) (cond (Nat.beq pc 52) (some (.aload_n 0, 53, [])) none) (cond (Nat.blt pc 56) (cond (Nat.beq pc 53) (some (.getfield 22, 56, [])) none) (cond (Nat.beq pc 56) (some (.iload_n 3, 57, [])) none))) (cond (Nat.blt pc 61) (cond (Nat.blt pc 58) (cond (Nat.beq pc 57) (some (.iaload, 58, [])) none) (cond (Nat.beq pc 58) (some (.invokestatic 45, 61, [])) none)) (cond (Nat.blt pc 62) (cond (Nat.beq pc 61) (some (.aload_n 0, 62, [])) none) (cond (Nat.beq pc 62) (some (.getfield 19, 65, [])) none))))) (cond (Nat.blt pc 73) (cond (Nat.blt pc 68) (cond (Nat.blt pc 66) (cond (Nat.beq pc 65) (some (.iload_n 3, 66, [])) none) (cond (Nat.blt pc 67) (cond (Nat.beq pc 66) (some (.iload_n 1, 67, [])) none) (cond (Nat.beq pc 67) (some (.iastore, 68, [])) none))) (cond (Nat.blt pc 69) (cond (Nat.beq pc 68) (some (.iload_n 1, 69, [])) none) (cond (Nat.blt pc 70) (cond (Nat.beq pc 69) (some (.aload_n 0, 70, [])) none) (cond (Nat.beq pc 70) (some (.getfield 22, 73, [])) none)))) (cond (Nat.blt pc 76) (cond (Nat.blt pc 74) (cond (Nat.beq pc 73) (some (.iload_n 3, 74, [])) none) (cond (Nat.blt pc 75) (cond (Nat.beq pc 74) (some (.iaload, 75, [])) none) (cond (Nat.beq pc 75) (some (.iadd, 76, [])) none))) (cond (Nat.blt pc 80) (cond (Nat.blt pc 77) (cond (Nat.beq pc 76) (some (.istore_n 1, 77, [])) none) (cond (Nat.beq pc 77) (some (.iinc 2 1, 80, [])) none)) (cond (Nat.blt pc 83) (cond (Nat.beq pc 80) (some (.goto (-66), 83, [14])) none) (cond (Nat.beq pc 83) (some (.return_, 84, [])) none)))))))
set_option maxRecDepth 100000 in
theorem kX1_slideTogether : okT cX1_slideTogether tX1_slideTogether 84 4 = true := by decide +kernel
def tX1_lowestRunFrom : Tt := tWn 74 (fun pc => cond (Nat.blt pc 36) (cond (Nat.blt pc 17) (cond (Nat.blt pc 5) (cond (Nat.blt pc 2) (cond (Nat.blt pc 1) (cond (Nat.beq pc 0) (some (.iconst (-1), 1, [])) none) (cond (Nat.beq pc 1) (some (.istore_n 2, 2, [])) none)) (cond (Nat.blt pc 3) (cond (Nat.beq pc 2) (some (.iconst 0, 3, [])) none) (cond (Nat.blt pc 4) (cond (Nat.beq pc 3) (some (.istore_n 3, 4, [])) none) (cond (Nat.beq pc 4) (some (.iload_n 3, 5, [])) none)))) (cond (Nat.blt pc 10) (cond (Nat.blt pc 6) (cond (Nat.beq pc 5) (some (.aload_n 0, 6, [])) none) (cond (Nat.blt pc 9) (cond (Nat.beq pc 6) (some (.getfield 22, 9, [])) none) (cond (Nat.beq pc 9) (some (.arraylength, 10, [])) none))) (cond (Nat.blt pc 13) (cond (Nat.beq pc 10) (some (.if_icmp .ge 62, 13, [72])) none) (cond (Nat.blt pc 14) (cond (Nat.beq pc 13) (some (.aload_n 0, 14, [])) none) (cond (Nat.beq pc 14) (some (.getfield 22, 17, [])) none))))) (cond (Nat.blt pc 26) (cond (Nat.blt pc 19) (cond (Nat.blt pc 18) (cond (Nat.beq pc 17) (some (.iload_n 3, 18, [])) none) (cond (Nat.beq pc 18) (some (.iaload, 19, [])) none)) (cond (Nat.blt pc 22) (cond (Nat.beq pc 19) (some (.ifCond .le 17, 22, [36])) none) (cond (Nat.blt pc 23) (cond (Nat.beq pc 22) (some (.aload_n 0, 23, [])) none) (cond (Nat.beq pc 23) (some (.getfield 19, 26, [])) none)))) (cond (Nat.blt pc 29) (cond (Nat.blt pc 27) (cond (Nat.beq pc 26) (some (.iload_n 3, 27, [])) none) (cond (Nat.blt pc 28) (cond (Nat.beq pc 27) (some (.iaload, 28, [])) none) (cond (Nat.beq pc 28) (some (.iload_n 1, 29, [])) none))) (cond (Nat.blt pc 32) (cond (Nat.beq pc 29) (some (.if_icmp .lt 7, 32, [36])) none) (cond (Nat.blt pc 33) (cond (Nat.beq pc 32) (some (.iconst 1, 33, [])) none) (cond (Nat.beq pc 33) (some (.goto 4, 36, [37])) none)))))) (cond (Nat.blt pc 55) (cond (Nat.blt pc 45) (cond (Nat.blt pc 39) (cond (Nat.blt pc 37) (cond (Nat.beq pc 36) (some (.iconst 0, 37, [])) none) (cond (Nat.beq pc 37) (some (.istore 4, 39, [])) none)) (cond (Nat.blt pc 41) (cond (Nat.beq pc 39) (some (.iload 4, 41, [])) none) (cond (Nat.blt pc 44) (cond (Nat.beq pc 41) (some (.ifCond .eq 25, 44, [66])) none) (cond (Nat.beq pc 44) (some (.iload_n 2, 45, [])) none)))) (cond (Nat.blt pc 50) (cond (Nat.blt pc 46) (cond (Nat.beq pc 45) (some (.iconst (-1), 46, [])) none) (cond (Nat.blt pc 49) (cond (Nat.beq pc 46) (some (.if_icmp .eq 18, 49, [64])) none) (cond (Nat.beq pc 49) (some (.aload_n 0, 50, [])) none))) (cond (Nat.blt pc 53) (cond (Nat.beq pc 50) (some (.getfield 19, 53, [])) none) (cond (Nat.blt pc 54) (cond (Nat.beq pc 53) (some (.iload_n 3, 54, [])) none) (cond (Nat.beq pc 54) (some (.iaload, 55, [])) none))))) (cond (Nat.blt pc 64) (cond (Nat.blt pc 59) (cond (Nat.blt pc 56) (cond (Nat.beq pc 55) (some (.aload_n 0, 56, [])) none) (cond (Nat.beq pc 56) (some (.getfield 19, 59, [])) none)) (cond (Nat.blt pc 60) (cond (Nat.beq pc 59) (some (.iload_n 2, 60, [])) none) (cond (Nat.blt pc 61) (cond (Nat.beq pc 60) (some (.iaload, 61, [])) none) (cond (Nat.beq pc 61) (some (.if_icmp .ge 5, 64, [66])) none)))) (cond (Nat.blt pc 69) (cond (Nat.blt pc 65) (cond (Nat.beq pc 64) (some (.iload_n 3, 65, [])) none) (cond (Nat.blt pc 66) (cond (Nat.beq pc 65) (some (.istore_n 2, 66, [])) none) (cond (Nat.beq pc 66) (some (.iinc 3 1, 69, [])) none))) (cond (Nat.blt pc 72) (cond (Nat.beq pc 69) (some (.goto (-65), 72, [4])) none) (cond (Nat.blt pc 73) (cond (Nat.beq pc 72) (some (.iload_n 2, 73, [])) none) (cond (Nat.beq pc 73) (some (.ireturn, 74, [])) none)))))))
set_option maxRecDepth 100000 in
theorem kX1_lowestRunFrom : okT cX1_lowestRunFrom tX1_lowestRunFrom 74 5 = true := by decide +kernel
def tX1_giveRun : Tt := tWn 30 (fun pc => cond (Nat.blt pc 16) (cond (Nat.blt pc 7) (cond (Nat.blt pc 2) (cond (Nat.blt pc 1) (cond (Nat.beq pc 0) (some (.aload_n 0, 1, [])) none) (cond (Nat.beq pc 1) (some (.iload_n 2, 2, [])) none)) (cond (Nat.blt pc 5) (cond (Nat.beq pc 2) (some (.invokevirtual 54, 5, [])) none) (cond (Nat.beq pc 5) (some (.istore 4, 7, [])) none))) (cond (Nat.blt pc 11) (cond (Nat.blt pc 9) (cond (Nat.beq pc 7) (some (.iload 4, 9, [])) none) (cond (Nat.beq pc 9) (some (.bipush (-4), 11, [])) none)) (cond (Nat.blt pc 14) (cond (Nat.beq pc 11) (some (.if_icmp .ne 5, 14, [16])) none) (cond (Nat.blt pc 15) (cond (Nat.beq pc 14) (some (.iconst 0, 15, [])) none) (cond (Nat.beq pc 15) (some (.ireturn, 16, [])) none))))) (cond (Nat.blt pc 21) (cond (Nat.blt pc 18) (cond (Nat.blt pc 17) (cond (Nat.beq pc 16) (some (.aload_n 0, 17, [])) none) (cond (Nat.beq pc 17) (some (.iload_n 1, 18, [])) none)) (cond (Nat.blt pc 20) (cond (Nat.beq pc 18) (some (.iload 4, 20, [])) none) (cond (Nat.beq pc 20) (some (.aload_n 3, 21, [])) none))) (cond (Nat.blt pc 25) (cond (Nat.blt pc 24) (cond (Nat.beq pc 21) (some (.invokevirtual 76, 24, [])) none) (cond (Nat.beq pc 24) (some (.aload_n 0, 25, [])) none)) (cond (Nat.blt pc 28) (cond (Nat.beq pc 25) (some (.invokevirtual 67, 28, [])) none) (cond (Nat.blt pc 29) (cond (Nat.beq pc 28) (some (.iconst 1, 29, [])) none) (cond (Nat.beq pc 29) (some (.ireturn, 30, [])) none))))))
set_option maxRecDepth 100000 in
theorem kX1_giveRun : okT cX1_giveRun tX1_giveRun 30 5 = true := by decide +kernel
def tX1_come : Tt := tWn 51 (fun pc => cond (Nat.blt pc 26) (cond (Nat.blt pc 15) (cond (Nat.blt pc 6) (cond (Nat.blt pc 1) (cond (Nat.beq pc 0) (some (.aload_n 2, 1, [])) none) (cond (Nat.blt pc 4) (cond (Nat.beq pc 1) (some (.getfield 51, 4, [])) none) (cond (Nat.beq pc 4) (some (.bipush 64, 6, [])) none))) (cond (Nat.blt pc 10) (cond (Nat.blt pc 9) (cond (Nat.beq pc 6) (some (.if_icmp .le 10, 9, [16])) none) (cond (Nat.beq pc 9) (some (.aload_n 0, 10, [])) none)) (cond (Nat.blt pc 13) (cond (Nat.beq pc 10) (some (.invokevirtual 67, 13, [])) none) (cond (Nat.beq pc 13) (some (.bipush (-8), 15, [])) none)))) (cond (Nat.blt pc 18) (cond (Nat.blt pc 16) (cond (Nat.beq pc 15) (some (.ireturn, 16, [])) none) (cond (Nat.blt pc 17) (cond (Nat.beq pc 16) (some (.aload_n 0, 17, [])) none) (cond (Nat.beq pc 17) (some (.iload_n 1, 18, [])) none))) (cond (Nat.blt pc 22) (cond (Nat.blt pc 19) (cond (Nat.beq pc 18) (some (.aload_n 2, 19, [])) none) (cond (Nat.beq pc 19) (some (.getfield 51, 22, [])) none)) (cond (Nat.blt pc 25) (cond (Nat.beq pc 22) (some (.invokevirtual 80, 25, [])) none) (cond (Nat.beq pc 25) (some (.istore_n 3, 26, [])) none))))) (cond (Nat.blt pc 37) (cond (Nat.blt pc 32) (cond (Nat.blt pc 27) (cond (Nat.beq pc 26) (some (.iload_n 3, 27, [])) none) (cond (Nat.blt pc 29) (cond (Nat.beq pc 27) (some (.bipush (-4), 29, [])) none) (cond (Nat.beq pc 29) (some (.if_icmp .ne 6, 32, [35])) none))) (cond (Nat.blt pc 35) (cond (Nat.blt pc 34) (cond (Nat.beq pc 32) (some (.bipush (-4), 34, [])) none) (cond (Nat.beq pc 34) (some (.ireturn, 35, [])) none)) (cond (Nat.blt pc 36) (cond (Nat.beq pc 35) (some (.aload_n 0, 36, [])) none) (cond (Nat.beq pc 36) (some (.iload_n 1, 37, [])) none)))) (cond (Nat.blt pc 43) (cond (Nat.blt pc 39) (cond (Nat.blt pc 38) (cond (Nat.beq pc 37) (some (.iload_n 3, 38, [])) none) (cond (Nat.beq pc 38) (some (.aload_n 2, 39, [])) none)) (cond (Nat.blt pc 42) (cond (Nat.beq pc 39) (some (.invokevirtual 76, 42, [])) none) (cond (Nat.beq pc 42) (some (.aload_n 0, 43, [])) none))) (cond (Nat.blt pc 47) (cond (Nat.blt pc 46) (cond (Nat.beq pc 43) (some (.invokevirtual 67, 46, [])) none) (cond (Nat.beq pc 46) (some (.aload_n 2, 47, [])) none)) (cond (Nat.blt pc 50) (cond (Nat.beq pc 47) (some (.getfield 51, 50, [])) none) (cond (Nat.beq pc 50) (some (.ireturn, 51, [])) none))))))
set_option maxRecDepth 100000 in
theorem kX1_come : okT cX1_come tX1_come 51 4 = true := by decide +kernel
def tX1_runFor : Tt := tWn 20 (fun pc => cond (Nat.blt pc 10) (cond (Nat.blt pc 5) (cond (Nat.blt pc 1) (cond (Nat.beq pc 0) (some (.iload_n 2, 1, [])) none) (cond (Nat.blt pc 2) (cond (Nat.beq pc 1) (some (.aload_n 0, 2, [])) none) (cond (Nat.beq pc 2) (some (.getfield 22, 5, [])) none))) (cond (Nat.blt pc 6) (cond (Nat.beq pc 5) (some (.iload_n 1, 6, [])) none) (cond (Nat.blt pc 7) (cond (Nat.beq pc 6) (some (.iaload, 7, [])) none) (cond (Nat.beq pc 7) (some (.if_icmp .gt 7, 10, [14])) none)))) (cond (Nat.blt pc 15) (cond (Nat.blt pc 11) (cond (Nat.beq pc 10) (some (.iload_n 1, 11, [])) none) (cond (Nat.blt pc 14) (cond (Nat.beq pc 11) (some (.goto 8, 14, [19])) none) (cond (Nat.beq pc 14) (some (.aload_n 0, 15, [])) none))) (cond (Nat.blt pc 16) (cond (Nat.beq pc 15) (some (.iload_n 2, 16, [])) none) (cond (Nat.blt pc 19) (cond (Nat.beq pc 16) (some (.invokevirtual 54, 19, [])) none) (cond (Nat.beq pc 19) (some (.ireturn, 20, [])) none)))))
set_option maxRecDepth 100000 in
theorem kX1_runFor : okT cX1_runFor tX1_runFor 20 3 = true := by decide +kernel
def tX1_settle : Tt := tWn 110 (fun pc => cond (Nat.blt pc 55) (cond (Nat.blt pc 27) (cond (Nat.blt pc 14) (cond (Nat.blt pc 6) (cond (Nat.blt pc 2) (cond (Nat.blt pc 1) (cond (Nat.beq pc 0) (some (.iload_n 2, 1, [])) none) (cond (Nat.beq pc 1) (some (.iload_n 1, 2, [])) none)) (cond (Nat.blt pc 5) (cond (Nat.beq pc 2) (some (.if_icmp .eq 34, 5, [36])) none) (cond (Nat.beq pc 5) (some (.aload_n 0, 6, [])) none))) (cond (Nat.blt pc 10) (cond (Nat.blt pc 9) (cond (Nat.beq pc 6) (some (.getfield 19, 9, [])) none) (cond (Nat.beq pc 9) (some (.iload_n 1, 10, [])) none)) (cond (Nat.blt pc 11) (cond (Nat.beq pc 10) (some (.aload_n 0, 11, [])) none) (cond (Nat.beq pc 11) (some (.getfield 19, 14, [])) none)))) (cond (Nat.blt pc 18) (cond (Nat.blt pc 16) (cond (Nat.blt pc 15) (cond (Nat.beq pc 14) (some (.iload_n 2, 15, [])) none) (cond (Nat.beq pc 15) (some (.iaload, 16, [])) none)) (cond (Nat.blt pc 17) (cond (Nat.beq pc 16) (some (.iastore, 17, [])) none) (cond (Nat.beq pc 17) (some (.aload_n 0, 18, [])) none))) (cond (Nat.blt pc 22) (cond (Nat.blt pc 21) (cond (Nat.beq pc 18) (some (.getfield 22, 21, [])) none) (cond (Nat.beq pc 21) (some (.iload_n 1, 22, [])) none)) (cond (Nat.blt pc 23) (cond (Nat.beq pc 22) (some (.aload_n 0, 23, [])) none) (cond (Nat.blt pc 26) (cond (Nat.beq pc 23) (some (.getfield 22, 26, [])) none) (cond (Nat.beq pc 26) (some (.iload_n 2, 27, [])) none)))))) (cond (Nat.blt pc 37) (cond (Nat.blt pc 33) (cond (Nat.blt pc 29) (cond (Nat.blt pc 28) (cond (Nat.beq pc 27) (some (.iaload, 28, [])) none) (cond (Nat.beq pc 28) (some (.iastore, 29, [])) none)) (cond (Nat.blt pc 30) (cond (Nat.beq pc 29) (some (.aload_n 0, 30, [])) none) (cond (Nat.beq pc 30) (some (.getfield 22, 33, [])) none))) (cond (Nat.blt pc 35) (cond (Nat.blt pc 34) (cond (Nat.beq pc 33) (some (.iload_n 2, 34, [])) none) (cond (Nat.beq pc 34) (some (.iconst 0, 35, [])) none)) (cond (Nat.blt pc 36) (cond (Nat.beq pc 35) (some (.iastore, 36, [])) none) (cond (Nat.beq pc 36) (some (.aload_n 3, 37, [])) none)))) (cond (Nat.blt pc 45) (cond (Nat.blt pc 41) (cond (Nat.blt pc 40) (cond (Nat.beq pc 37) (some (.getfield 51, 40, [])) none) (cond (Nat.beq pc 40) (some (.aload_n 0, 41, [])) none)) (cond (Nat.blt pc 44) (cond (Nat.beq pc 41) (some (.getfield 22, 44, [])) none) (cond (Nat.beq pc 44) (some (.iload_n 1, 45, [])) none))) (cond (Nat.blt pc 49) (cond (Nat.blt pc 46) (cond (Nat.beq pc 45) (some (.iaload, 46, [])) none) (cond (Nat.beq pc 46) (some (.invokestatic 83, 49, [])) none)) (cond (Nat.blt pc 51) (cond (Nat.beq pc 49) (some (.istore 4, 51, [])) none) (cond (Nat.blt pc 52) (cond (Nat.beq pc 51) (some (.aload_n 3, 52, [])) none) (cond (Nat.beq pc 52) (some (.getfield 42, 55, [])) none))))))) (cond (Nat.blt pc 84) (cond (Nat.blt pc 68) (cond (Nat.blt pc 61) (cond (Nat.blt pc 57) (cond (Nat.blt pc 56) (cond (Nat.beq pc 55) (some (.iconst 0, 56, [])) none) (cond (Nat.beq pc 56) (some (.aload_n 0, 57, [])) none)) (cond (Nat.blt pc 60) (cond (Nat.beq pc 57) (some (.getfield 15, 60, [])) none) (cond (Nat.beq pc 60) (some (.aload_n 0, 61, [])) none))) (cond (Nat.blt pc 65) (cond (Nat.blt pc 64) (cond (Nat.beq pc 61) (some (.getfield 19, 64, [])) none) (cond (Nat.beq pc 64) (some (.iload_n 1, 65, [])) none)) (cond (Nat.blt pc 66) (cond (Nat.beq pc 65) (some (.iaload, 66, [])) none) (cond (Nat.beq pc 66) (some (.iload 4, 68, [])) none)))) (cond (Nat.blt pc 76) (cond (Nat.blt pc 72) (cond (Nat.blt pc 71) (cond (Nat.beq pc 68) (some (.invokestatic 45, 71, [])) none) (cond (Nat.beq pc 71) (some (.aload_n 0, 72, [])) none)) (cond (Nat.blt pc 75) (cond (Nat.beq pc 72) (some (.getfield 15, 75, [])) none) (cond (Nat.beq pc 75) (some (.aload_n 0, 76, [])) none))) (cond (Nat.blt pc 80) (cond (Nat.blt pc 79) (cond (Nat.beq pc 76) (some (.getfield 19, 79, [])) none) (cond (Nat.beq pc 79) (some (.iload_n 1, 80, [])) none)) (cond (Nat.blt pc 81) (cond (Nat.beq pc 80) (some (.iaload, 81, [])) none) (cond (Nat.blt pc 83) (cond (Nat.beq pc 81) (some (.iload 4, 83, [])) none) (cond (Nat.beq pc 83) (some (.iadd, 84, [])) none)))))) (cond (Nat.blt pc 96) (cond (Nat.blt pc 90) (cond (Nat.blt pc 88) (cond (Nat.blt pc 85) (cond (Nat.beq pc 84) (some (.aload_n 0, 85, [])) none) (cond (Nat.beq pc 85) (some (.getfield 19, 88, [])) none)) (cond (Nat.blt pc 89) (cond (Nat.beq pc 88) (some (.iload_n 1, 89, [])) none) (cond (Nat.beq pc 89) (some (.iaload, 90, [])) none))) (cond (Nat.blt pc 94) (cond (Nat.blt pc 91) (cond (Nat.beq pc 90) (some (.aload_n 0, 91, [])) none) (cond (Nat.beq pc 91) (some (.getfield 22, 94, [])) none)) (cond (Nat.blt pc 95) (cond (Nat.beq pc 94) (some (.iload_n 1, 95, [])) none) (cond (Nat.beq pc 95) (some (.iaload, 96, [])) none)))) (cond (Nat.blt pc 102) (cond (Nat.blt pc 98) (cond (Nat.blt pc 97) (cond (Nat.beq pc 96) (some (.iadd, 97, [])) none) (cond (Nat.beq pc 97) (some (.iconst 0, 98, [])) none)) (cond (Nat.blt pc 101) (cond (Nat.beq pc 98) (some (.invokestatic 86, 101, [])) none) (cond (Nat.beq pc 101) (some (.aload_n 0, 102, [])) none))) (cond (Nat.blt pc 106) (cond (Nat.blt pc 105) (cond (Nat.beq pc 102) (some (.getfield 25, 105, [])) none) (cond (Nat.beq pc 105) (some (.iload_n 1, 106, [])) none)) (cond (Nat.blt pc 108) (cond (Nat.beq pc 106) (some (.iload 4, 108, [])) none) (cond (Nat.blt pc 109) (cond (Nat.beq pc 108) (some (.iastore, 109, [])) none) (cond (Nat.beq pc 109) (some (.return_, 110, [])) none))))))))
set_option maxRecDepth 100000 in
theorem kX1_settle : okT cX1_settle tX1_settle 110 5 = true := by decide +kernel
def tX2_init : Tt := tWn 92 (fun pc => cond (Nat.blt pc 48) (cond (Nat.blt pc 23) (cond (Nat.blt pc 9) (cond (Nat.blt pc 4) (cond (Nat.blt pc 1) (cond (Nat.beq pc 0) (some (.aload_n 0, 1, [])) none) (cond (Nat.beq pc 1) (some (.invokespecial 3, 4, [])) none)) (cond (Nat.blt pc 5) (cond (Nat.beq pc 4) (some (.aload_n 0, 5, [])) none) (cond (Nat.blt pc 8) (cond (Nat.beq pc 5) (some (.new 9, 8, [])) none) (cond (Nat.beq pc 8) (some (.dup, 9, [])) none)))) (cond (Nat.blt pc 16) (cond (Nat.blt pc 12) (cond (Nat.beq pc 9) (some (.invokespecial 11, 12, [])) none) (cond (Nat.blt pc 15) (cond (Nat.beq pc 12) (some (.putfield 12, 15, [])) none) (cond (Nat.beq pc 15) (some (.aload_n 0, 16, [])) none))) (cond (Nat.blt pc 19) (cond (Nat.beq pc 16) (some (.new 9, 19, [])) none) (cond (Nat.blt pc 20) (cond (Nat.beq pc 19) (some (.dup, 20, [])) none) (cond (Nat.beq pc 20) (some (.invokespecial 11, 23, [])) none))))) (cond (Nat.blt pc 34) (cond (Nat.blt pc 27) (cond (Nat.blt pc 26) (cond (Nat.beq pc 23) (some (.putfield 18, 26, [])) none) (cond (Nat.beq pc 26) (some (.aload_n 0, 27, [])) none)) (cond (Nat.blt pc 30) (cond (Nat.beq pc 27) (some (.new 9, 30, [])) none) (cond (Nat.blt pc 31) (cond (Nat.beq pc 30) (some (.dup, 31, [])) none) (cond (Nat.beq pc 31) (some (.invokespecial 11, 34, [])) none)))) (cond (Nat.blt pc 41) (cond (Nat.blt pc 37) (cond (Nat.beq pc 34) (some (.putfield 21, 37, [])) none) (cond (Nat.blt pc 38) (cond (Nat.beq pc 37) (some (.aload_n 0, 38, [])) none) (cond (Nat.beq pc 38) (some (.new 9, 41, [])) none))) (cond (Nat.blt pc 42) (cond (Nat.beq pc 41) (some (.dup, 42, [])) none) (cond (Nat.blt pc 45) (cond (Nat.beq pc 42) (some (.invokespecial 11, 45, [])) none) (cond (Nat.beq pc 45) (some (.putfield 24, 48, [])) none)))))) (cond (Nat.blt pc 71) (cond (Nat.blt pc 59) (cond (Nat.blt pc 52) (cond (Nat.blt pc 49) (cond (Nat.beq pc 48) (some (.aload_n 0, 49, [])) none) (cond (Nat.beq pc 49) (some (.new 9, 52, [])) none)) (cond (Nat.blt pc 53) (cond (Nat.beq pc 52) (some (.dup, 53, [])) none) (cond (Nat.blt pc 56) (cond (Nat.beq pc 53) (some (.invokespecial 11, 56, [])) none) (cond (Nat.beq pc 56) (some (.putfield 27, 59, [])) none)))) (cond (Nat.blt pc 64) (cond (Nat.blt pc 60) (cond (Nat.beq pc 59) (some (.aload_n 0, 60, [])) none) (cond (Nat.blt pc 63) (cond (Nat.beq pc 60) (some (.new 9, 63, [])) none) (cond (Nat.beq pc 63) (some (.dup, 64, [])) none))) (cond (Nat.blt pc 67) (cond (Nat.beq pc 64) (some (.invokespecial 11, 67, [])) none) (cond (Nat.blt pc 70) (cond (Nat.beq pc 67) (some (.putfield 30, 70, [])) none) (cond (Nat.beq pc 70) (some (.aload_n 0, 71, [])) none))))) (cond (Nat.blt pc 81) (cond (Nat.blt pc 77) (cond (Nat.blt pc 72) (cond (Nat.beq pc 71) (some (.iload_n 1, 72, [])) none) (cond (Nat.blt pc 74) (cond (Nat.beq pc 72) (some (.newarray .int, 74, [])) none) (cond (Nat.beq pc 74) (some (.putfield 33, 77, [])) none))) (cond (Nat.blt pc 78) (cond (Nat.beq pc 77) (some (.aload_n 0, 78, [])) none) (cond (Nat.blt pc 79) (cond (Nat.beq pc 78) (some (.iload_n 1, 79, [])) none) (cond (Nat.beq pc 79) (some (.newarray .int, 81, [])) none)))) (cond (Nat.blt pc 86) (cond (Nat.blt pc 84) (cond (Nat.beq pc 81) (some (.putfield 37, 84, [])) none) (cond (Nat.blt pc 85) (cond (Nat.beq pc 84) (some (.aload_n 0, 85, [])) none) (cond (Nat.beq pc 85) (some (.iload_n 1, 86, [])) none))) (cond (Nat.blt pc 88) (cond (Nat.beq pc 86) (some (.newarray .int, 88, [])) none) (cond (Nat.blt pc 91) (cond (Nat.beq pc 88) (some (.putfield 40, 91, [])) none) (cond (Nat.beq pc 91) (some (.return_, 92, [])) none)))))))
set_option maxRecDepth 100000 in
theorem kX2_init : okT cX2_init tX2_init 92 2 = true := by decide +kernel
def tX2_append : Tt := tWn 36 (fun pc => cond (Nat.blt pc 19) (cond (Nat.blt pc 9) (cond (Nat.blt pc 4) (cond (Nat.blt pc 1) (cond (Nat.beq pc 0) (some (.aload_n 0, 1, [])) none) (cond (Nat.beq pc 1) (some (.getfield 43, 4, [])) none)) (cond (Nat.blt pc 5) (cond (Nat.beq pc 4) (some (.aload_n 0, 5, [])) none) (cond (Nat.blt pc 8) (cond (Nat.beq pc 5) (some (.getfield 33, 8, [])) none) (cond (Nat.beq pc 8) (some (.arraylength, 9, [])) none)))) (cond (Nat.blt pc 14) (cond (Nat.blt pc 12) (cond (Nat.beq pc 9) (some (.if_icmp .lt 5, 12, [14])) none) (cond (Nat.blt pc 13) (cond (Nat.beq pc 12) (some (.iconst 0, 13, [])) none) (cond (Nat.beq pc 13) (some (.ireturn, 14, [])) none))) (cond (Nat.blt pc 15) (cond (Nat.beq pc 14) (some (.aload_n 0, 15, [])) none) (cond (Nat.blt pc 18) (cond (Nat.beq pc 15) (some (.getfield 33, 18, [])) none) (cond (Nat.beq pc 18) (some (.aload_n 0, 19, [])) none))))) (cond (Nat.blt pc 26) (cond (Nat.blt pc 23) (cond (Nat.blt pc 22) (cond (Nat.beq pc 19) (some (.getfield 43, 22, [])) none) (cond (Nat.beq pc 22) (some (.iload_n 1, 23, [])) none)) (cond (Nat.blt pc 24) (cond (Nat.beq pc 23) (some (.iastore, 24, [])) none) (cond (Nat.blt pc 25) (cond (Nat.beq pc 24) (some (.aload_n 0, 25, [])) none) (cond (Nat.beq pc 25) (some (.dup, 26, [])) none)))) (cond (Nat.blt pc 31) (cond (Nat.blt pc 29) (cond (Nat.beq pc 26) (some (.getfield 43, 29, [])) none) (cond (Nat.blt pc 30) (cond (Nat.beq pc 29) (some (.iconst 1, 30, [])) none) (cond (Nat.beq pc 30) (some (.iadd, 31, [])) none))) (cond (Nat.blt pc 34) (cond (Nat.beq pc 31) (some (.putfield 43, 34, [])) none) (cond (Nat.blt pc 35) (cond (Nat.beq pc 34) (some (.iconst 1, 35, [])) none) (cond (Nat.beq pc 35) (some (.ireturn, 36, [])) none))))))
set_option maxRecDepth 100000 in
theorem kX2_append : okT cX2_append tX2_append 36 2 = true := by decide +kernel
def tX2_wordAt : Tt := tWn 23 (fun pc => cond (Nat.blt pc 12) (cond (Nat.blt pc 5) (cond (Nat.blt pc 1) (cond (Nat.beq pc 0) (some (.iload_n 1, 1, [])) none) (cond (Nat.blt pc 4) (cond (Nat.beq pc 1) (some (.ifCond .lt 20, 4, [21])) none) (cond (Nat.beq pc 4) (some (.iload_n 1, 5, [])) none))) (cond (Nat.blt pc 6) (cond (Nat.beq pc 5) (some (.aload_n 0, 6, [])) none) (cond (Nat.blt pc 9) (cond (Nat.beq pc 6) (some (.getfield 43, 9, [])) none) (cond (Nat.beq pc 9) (some (.if_icmp .ge 12, 12, [21])) none)))) (cond (Nat.blt pc 17) (cond (Nat.blt pc 13) (cond (Nat.beq pc 12) (some (.aload_n 0, 13, [])) none) (cond (Nat.blt pc 16) (cond (Nat.beq pc 13) (some (.getfield 33, 16, [])) none) (cond (Nat.beq pc 16) (some (.iload_n 1, 17, [])) none))) (cond (Nat.blt pc 21) (cond (Nat.blt pc 18) (cond (Nat.beq pc 17) (some (.iaload, 18, [])) none) (cond (Nat.beq pc 18) (some (.goto 4, 21, [22])) none)) (cond (Nat.blt pc 22) (cond (Nat.beq pc 21) (some (.iconst (-1), 22, [])) none) (cond (Nat.beq pc 22) (some (.ireturn, 23, [])) none)))))
set_option maxRecDepth 100000 in
theorem kX2_wordAt : okT cX2_wordAt tX2_wordAt 23 2 = true := by decide +kernel
def tX2_copyWords : Tt := tWn 28 (fun pc => cond (Nat.blt pc 14) (cond (Nat.blt pc 6) (cond (Nat.blt pc 2) (cond (Nat.blt pc 1) (cond (Nat.beq pc 0) (some (.aload_n 0, 1, [])) none) (cond (Nat.beq pc 1) (some (.iload_n 2, 2, [])) none)) (cond (Nat.blt pc 3) (cond (Nat.beq pc 2) (some (.aload_n 0, 3, [])) none) (cond (Nat.beq pc 3) (some (.getfield 33, 6, [])) none))) (cond (Nat.blt pc 10) (cond (Nat.blt pc 7) (cond (Nat.beq pc 6) (some (.arraylength, 7, [])) none) (cond (Nat.beq pc 7) (some (.invokestatic 47, 10, [])) none)) (cond (Nat.blt pc 13) (cond (Nat.beq pc 10) (some (.putfield 43, 13, [])) none) (cond (Nat.beq pc 13) (some (.aload_n 1, 14, [])) none)))) (cond (Nat.blt pc 20) (cond (Nat.blt pc 16) (cond (Nat.blt pc 15) (cond (Nat.beq pc 14) (some (.iconst 0, 15, [])) none) (cond (Nat.beq pc 15) (some (.aload_n 0, 16, [])) none)) (cond (Nat.blt pc 19) (cond (Nat.beq pc 16) (some (.getfield 33, 19, [])) none) (cond (Nat.beq pc 19) (some (.iconst 0, 20, [])) none))) (cond (Nat.blt pc 24) (cond (Nat.blt pc 21) (cond (Nat.beq pc 20) (some (.aload_n 0, 21, [])) none) (cond (Nat.beq pc 21) (some (.getfield 43, 24, [])) none)) (cond (Nat.blt pc 27) (cond (Nat.beq pc 24) (some (.invokestatic 53, 27, [])) none) (cond (Nat.beq pc 27) (some (.return_, 28, [])) none)))))
set_option maxRecDepth 100000 in
theorem kX2_copyWords : okT cX2_copyWords tX2_copyWords 28 3 = true := by decide +kernel
def tX2_isOneNode : Tt := tWn 31 (fun pc => cond (Nat.blt pc 13) (cond (Nat.blt pc 6) (cond (Nat.blt pc 2) (cond (Nat.blt pc 1) (cond (Nat.beq pc 0) (some (.aload_n 0, 1, [])) none) (cond (Nat.beq pc 1) (some (.iconst 0, 2, [])) none)) (cond (Nat.blt pc 5) (cond (Nat.beq pc 2) (some (.putfield 59, 5, [])) none) (cond (Nat.beq pc 5) (some (.aload_n 0, 6, [])) none))) (cond (Nat.blt pc 8) (cond (Nat.blt pc 7) (cond (Nat.beq pc 6) (some (.iconst 0, 7, [])) none) (cond (Nat.beq pc 7) (some (.iconst 1, 8, [])) none)) (cond (Nat.blt pc 11) (cond (Nat.beq pc 8) (some (.invokevirtual 62, 11, [])) none) (cond (Nat.blt pc 12) (cond (Nat.beq pc 11) (some (.istore_n 1, 12, [])) none) (cond (Nat.beq pc 12) (some (.iload_n 1, 13, [])) none))))) (cond (Nat.blt pc 22) (cond (Nat.blt pc 17) (cond (Nat.blt pc 14) (cond (Nat.beq pc 13) (some (.iconst (-1), 14, [])) none) (cond (Nat.beq pc 14) (some (.if_icmp .eq 15, 17, [29])) none)) (cond (Nat.blt pc 18) (cond (Nat.beq pc 17) (some (.iload_n 1, 18, [])) none) (cond (Nat.blt pc 19) (cond (Nat.beq pc 18) (some (.aload_n 0, 19, [])) none) (cond (Nat.beq pc 19) (some (.getfield 43, 22, [])) none)))) (cond (Nat.blt pc 26) (cond (Nat.blt pc 25) (cond (Nat.beq pc 22) (some (.if_icmp .ne 7, 25, [29])) none) (cond (Nat.beq pc 25) (some (.iconst 1, 26, [])) none)) (cond (Nat.blt pc 29) (cond (Nat.beq pc 26) (some (.goto 4, 29, [30])) none) (cond (Nat.blt pc 30) (cond (Nat.beq pc 29) (some (.iconst 0, 30, [])) none) (cond (Nat.beq pc 30) (some (.ireturn, 31, [])) none))))))
set_option maxRecDepth 100000 in
theorem kX2_isOneNode : okT cX2_isOneNode tX2_isOneNode 31 2 = true := by decide +kernel
def tX2_endOfNode : Tt := tWn 86 (fun pc => cond (Nat.blt pc 42) (cond (Nat.blt pc 21) (cond (Nat.blt pc 9) (cond (Nat.blt pc 5) (cond (Nat.blt pc 1) (cond (Nat.beq pc 0) (some (.aload_n 0, 1, [])) none) (cond (Nat.blt pc 2) (cond (Nat.beq pc 1) (some (.iload_n 1, 2, [])) none) (cond (Nat.beq pc 2) (some (.invokevirtual 65, 5, [])) none))) (cond (Nat.blt pc 6) (cond (Nat.beq pc 5) (some (.istore_n 3, 6, [])) none) (cond (Nat.blt pc 7) (cond (Nat.beq pc 6) (some (.iload_n 2, 7, [])) none) (cond (Nat.beq pc 7) (some (.bipush 12, 9, [])) none)))) (cond (Nat.blt pc 14) (cond (Nat.blt pc 12) (cond (Nat.beq pc 9) (some (.if_icmp .gt 20, 12, [29])) none) (cond (Nat.blt pc 13) (cond (Nat.beq pc 12) (some (.iload_n 3, 13, [])) none) (cond (Nat.beq pc 13) (some (.iconst (-1), 14, [])) none))) (cond (Nat.blt pc 17) (cond (Nat.beq pc 14) (some (.if_icmp .eq 15, 17, [29])) none) (cond (Nat.blt pc 18) (cond (Nat.beq pc 17) (some (.aload_n 0, 18, [])) none) (cond (Nat.beq pc 18) (some (.getfield 59, 21, [])) none))))) (cond (Nat.blt pc 31) (cond (Nat.blt pc 26) (cond (Nat.blt pc 22) (cond (Nat.beq pc 21) (some (.aload_n 0, 22, [])) none) (cond (Nat.blt pc 25) (cond (Nat.beq pc 22) (some (.getfield 37, 25, [])) none) (cond (Nat.beq pc 25) (some (.arraylength, 26, [])) none))) (cond (Nat.blt pc 29) (cond (Nat.beq pc 26) (some (.if_icmp .lt 5, 29, [31])) none) (cond (Nat.blt pc 30) (cond (Nat.beq pc 29) (some (.iconst (-1), 30, [])) none) (cond (Nat.beq pc 30) (some (.ireturn, 31, [])) none)))) (cond (Nat.blt pc 36) (cond (Nat.blt pc 32) (cond (Nat.beq pc 31) (some (.aload_n 0, 32, [])) none) (cond (Nat.blt pc 35) (cond (Nat.beq pc 32) (some (.getfield 37, 35, [])) none) (cond (Nat.beq pc 35) (some (.aload_n 0, 36, [])) none))) (cond (Nat.blt pc 40) (cond (Nat.blt pc 39) (cond (Nat.beq pc 36) (some (.getfield 59, 39, [])) none) (cond (Nat.beq pc 39) (some (.iload_n 1, 40, [])) none)) (cond (Nat.blt pc 41) (cond (Nat.beq pc 40) (some (.iastore, 41, [])) none) (cond (Nat.beq pc 41) (some (.aload_n 0, 42, [])) none)))))) (cond (Nat.blt pc 65) (cond (Nat.blt pc 52) (cond (Nat.blt pc 47) (cond (Nat.blt pc 43) (cond (Nat.beq pc 42) (some (.dup, 43, [])) none) (cond (Nat.blt pc 46) (cond (Nat.beq pc 43) (some (.getfield 59, 46, [])) none) (cond (Nat.beq pc 46) (some (.iconst 1, 47, [])) none))) (cond (Nat.blt pc 48) (cond (Nat.beq pc 47) (some (.iadd, 48, [])) none) (cond (Nat.blt pc 51) (cond (Nat.beq pc 48) (some (.putfield 59, 51, [])) none) (cond (Nat.beq pc 51) (some (.aload_n 0, 52, [])) none)))) (cond (Nat.blt pc 57) (cond (Nat.blt pc 55) (cond (Nat.beq pc 52) (some (.getfield 40, 55, [])) none) (cond (Nat.blt pc 56) (cond (Nat.beq pc 55) (some (.iload_n 1, 56, [])) none) (cond (Nat.beq pc 56) (some (.aload_n 0, 57, [])) none))) (cond (Nat.blt pc 61) (cond (Nat.blt pc 58) (cond (Nat.beq pc 57) (some (.iload_n 1, 58, [])) none) (cond (Nat.beq pc 58) (some (.invokevirtual 69, 61, [])) none)) (cond (Nat.blt pc 64) (cond (Nat.beq pc 61) (some (.ifCond .eq 7, 64, [68])) none) (cond (Nat.beq pc 64) (some (.iload_n 3, 65, [])) none))))) (cond (Nat.blt pc 75) (cond (Nat.blt pc 70) (cond (Nat.blt pc 68) (cond (Nat.beq pc 65) (some (.goto 13, 68, [78])) none) (cond (Nat.blt pc 69) (cond (Nat.beq pc 68) (some (.aload_n 0, 69, [])) none) (cond (Nat.beq pc 69) (some (.aload_n 0, 70, [])) none))) (cond (Nat.blt pc 71) (cond (Nat.beq pc 70) (some (.iload_n 3, 71, [])) none) (cond (Nat.blt pc 74) (cond (Nat.beq pc 71) (some (.invokevirtual 65, 74, [])) none) (cond (Nat.beq pc 74) (some (.iload_n 2, 75, [])) none)))) (cond (Nat.blt pc 80) (cond (Nat.blt pc 78) (cond (Nat.beq pc 75) (some (.invokevirtual 73, 78, [])) none) (cond (Nat.blt pc 79) (cond (Nat.beq pc 78) (some (.iastore, 79, [])) none) (cond (Nat.beq pc 79) (some (.aload_n 0, 80, [])) none))) (cond (Nat.blt pc 84) (cond (Nat.blt pc 83) (cond (Nat.beq pc 80) (some (.getfield 40, 83, [])) none) (cond (Nat.beq pc 83) (some (.iload_n 1, 84, [])) none)) (cond (Nat.blt pc 85) (cond (Nat.beq pc 84) (some (.iaload, 85, [])) none) (cond (Nat.beq pc 85) (some (.ireturn, 86, [])) none)))))))
set_option maxRecDepth 100000 in
theorem kX2_endOfNode : okT cX2_endOfNode tX2_endOfNode 86 4 = true := by decide +kernel
def tX2_endOfFactors : Tt := tWn 99 (fun pc => cond (Nat.blt pc 45) (cond (Nat.blt pc 20) (cond (Nat.blt pc 8) (cond (Nat.blt pc 5) (cond (Nat.blt pc 1) (cond (Nat.beq pc 0) (some (.aload_n 0, 1, [])) none) (cond (Nat.blt pc 2) (cond (Nat.beq pc 1) (some (.iload_n 1, 2, [])) none) (cond (Nat.beq pc 2) (some (.invokevirtual 76, 5, [])) none))) (cond (Nat.blt pc 6) (cond (Nat.beq pc 5) (some (.istore_n 3, 6, [])) none) (cond (Nat.blt pc 7) (cond (Nat.beq pc 6) (some (.iload_n 3, 7, [])) none) (cond (Nat.beq pc 7) (some (.iconst 1, 8, [])) none)))) (cond (Nat.blt pc 14) (cond (Nat.blt pc 11) (cond (Nat.beq pc 8) (some (.if_icmp .lt 9, 11, [17])) none) (cond (Nat.blt pc 12) (cond (Nat.beq pc 11) (some (.iload_n 3, 12, [])) none) (cond (Nat.beq pc 12) (some (.bipush 20, 14, [])) none))) (cond (Nat.blt pc 18) (cond (Nat.blt pc 17) (cond (Nat.beq pc 14) (some (.if_icmp .le 5, 17, [19])) none) (cond (Nat.beq pc 17) (some (.iconst (-1), 18, [])) none)) (cond (Nat.blt pc 19) (cond (Nat.beq pc 18) (some (.ireturn, 19, [])) none) (cond (Nat.beq pc 19) (some (.iload_n 1, 20, [])) none))))) (cond (Nat.blt pc 30) (cond (Nat.blt pc 24) (cond (Nat.blt pc 21) (cond (Nat.beq pc 20) (some (.iconst 1, 21, [])) none) (cond (Nat.blt pc 22) (cond (Nat.beq pc 21) (some (.iadd, 22, [])) none) (cond (Nat.beq pc 22) (some (.istore 4, 24, [])) none))) (cond (Nat.blt pc 27) (cond (Nat.blt pc 25) (cond (Nat.beq pc 24) (some (.iconst 0, 25, [])) none) (cond (Nat.beq pc 25) (some (.istore 5, 27, [])) none)) (cond (Nat.blt pc 29) (cond (Nat.beq pc 27) (some (.iload 5, 29, [])) none) (cond (Nat.beq pc 29) (some (.iload_n 3, 30, [])) none)))) (cond (Nat.blt pc 36) (cond (Nat.blt pc 33) (cond (Nat.beq pc 30) (some (.if_icmp .ge 66, 33, [96])) none) (cond (Nat.blt pc 35) (cond (Nat.beq pc 33) (some (.iload 4, 35, [])) none) (cond (Nat.beq pc 35) (some (.iconst (-1), 36, [])) none))) (cond (Nat.blt pc 40) (cond (Nat.blt pc 39) (cond (Nat.beq pc 36) (some (.if_icmp .eq 60, 39, [96])) none) (cond (Nat.beq pc 39) (some (.aload_n 0, 40, [])) none)) (cond (Nat.blt pc 42) (cond (Nat.beq pc 40) (some (.iload 4, 42, [])) none) (cond (Nat.beq pc 42) (some (.invokevirtual 76, 45, [])) none)))))) (cond (Nat.blt pc 74) (cond (Nat.blt pc 61) (cond (Nat.blt pc 50) (cond (Nat.blt pc 47) (cond (Nat.beq pc 45) (some (.istore 6, 47, [])) none) (cond (Nat.blt pc 49) (cond (Nat.beq pc 47) (some (.iload 6, 49, [])) none) (cond (Nat.beq pc 49) (some (.iconst 1, 50, [])) none))) (cond (Nat.blt pc 55) (cond (Nat.blt pc 53) (cond (Nat.beq pc 50) (some (.if_icmp .lt 15, 53, [65])) none) (cond (Nat.beq pc 53) (some (.iload 6, 55, [])) none)) (cond (Nat.blt pc 58) (cond (Nat.beq pc 55) (some (.sipush 960, 58, [])) none) (cond (Nat.beq pc 58) (some (.if_icmp .gt 7, 61, [65])) none)))) (cond (Nat.blt pc 66) (cond (Nat.blt pc 62) (cond (Nat.beq pc 61) (some (.iconst 1, 62, [])) none) (cond (Nat.blt pc 65) (cond (Nat.beq pc 62) (some (.goto 4, 65, [66])) none) (cond (Nat.beq pc 65) (some (.iconst 0, 66, [])) none))) (cond (Nat.blt pc 70) (cond (Nat.blt pc 68) (cond (Nat.beq pc 66) (some (.istore 7, 68, [])) none) (cond (Nat.beq pc 68) (some (.iload 7, 70, [])) none)) (cond (Nat.blt pc 73) (cond (Nat.beq pc 70) (some (.ifCond .eq 17, 73, [87])) none) (cond (Nat.beq pc 73) (some (.aload_n 0, 74, [])) none))))) (cond (Nat.blt pc 84) (cond (Nat.blt pc 78) (cond (Nat.blt pc 76) (cond (Nat.beq pc 74) (some (.iload 4, 76, [])) none) (cond (Nat.blt pc 77) (cond (Nat.beq pc 76) (some (.iconst 1, 77, [])) none) (cond (Nat.beq pc 77) (some (.iadd, 78, [])) none))) (cond (Nat.blt pc 80) (cond (Nat.blt pc 79) (cond (Nat.beq pc 78) (some (.iload_n 2, 79, [])) none) (cond (Nat.beq pc 79) (some (.iconst 1, 80, [])) none)) (cond (Nat.blt pc 81) (cond (Nat.beq pc 80) (some (.iadd, 81, [])) none) (cond (Nat.beq pc 81) (some (.invokevirtual 62, 84, [])) none)))) (cond (Nat.blt pc 90) (cond (Nat.blt pc 87) (cond (Nat.beq pc 84) (some (.goto 4, 87, [88])) none) (cond (Nat.blt pc 88) (cond (Nat.beq pc 87) (some (.iconst (-1), 88, [])) none) (cond (Nat.beq pc 88) (some (.istore 4, 90, [])) none))) (cond (Nat.blt pc 96) (cond (Nat.blt pc 93) (cond (Nat.beq pc 90) (some (.iinc 5 1, 93, [])) none) (cond (Nat.beq pc 93) (some (.goto (-66), 96, [27])) none)) (cond (Nat.blt pc 98) (cond (Nat.beq pc 96) (some (.iload 4, 98, [])) none) (cond (Nat.beq pc 98) (some (.ireturn, 99, [])) none)))))))
set_option maxRecDepth 100000 in
theorem kX2_endOfFactors : okT cX2_endOfFactors tX2_endOfFactors 99 8 = true := by decide +kernel
def tX2_endOfNumber : Tt := tWn 35 (fun pc => cond (Nat.blt pc 19) (cond (Nat.blt pc 8) (cond (Nat.blt pc 5) (cond (Nat.blt pc 1) (cond (Nat.beq pc 0) (some (.aload_n 0, 1, [])) none) (cond (Nat.blt pc 2) (cond (Nat.beq pc 1) (some (.iload_n 1, 2, [])) none) (cond (Nat.beq pc 2) (some (.invokevirtual 76, 5, [])) none))) (cond (Nat.blt pc 6) (cond (Nat.beq pc 5) (some (.istore_n 2, 6, [])) none) (cond (Nat.blt pc 7) (cond (Nat.beq pc 6) (some (.iload_n 2, 7, [])) none) (cond (Nat.beq pc 7) (some (.iconst 1, 8, [])) none)))) (cond (Nat.blt pc 14) (cond (Nat.blt pc 11) (cond (Nat.beq pc 8) (some (.if_icmp .lt 19, 11, [27])) none) (cond (Nat.blt pc 12) (cond (Nat.beq pc 11) (some (.iload_n 2, 12, [])) none) (cond (Nat.beq pc 12) (some (.bipush 64, 14, [])) none))) (cond (Nat.blt pc 17) (cond (Nat.beq pc 14) (some (.if_icmp .gt 13, 17, [27])) none) (cond (Nat.blt pc 18) (cond (Nat.beq pc 17) (some (.aload_n 0, 18, [])) none) (cond (Nat.beq pc 18) (some (.iload_n 1, 19, [])) none))))) (cond (Nat.blt pc 29) (cond (Nat.blt pc 24) (cond (Nat.blt pc 20) (cond (Nat.beq pc 19) (some (.iload_n 2, 20, [])) none) (cond (Nat.blt pc 21) (cond (Nat.beq pc 20) (some (.iadd, 21, [])) none) (cond (Nat.beq pc 21) (some (.invokevirtual 76, 24, [])) none))) (cond (Nat.blt pc 27) (cond (Nat.beq pc 24) (some (.ifCond .gt 5, 27, [29])) none) (cond (Nat.blt pc 28) (cond (Nat.beq pc 27) (some (.iconst (-1), 28, [])) none) (cond (Nat.beq pc 28) (some (.ireturn, 29, [])) none)))) (cond (Nat.blt pc 32) (cond (Nat.blt pc 30) (cond (Nat.beq pc 29) (some (.iload_n 1, 30, [])) none) (cond (Nat.blt pc 31) (cond (Nat.beq pc 30) (some (.iload_n 2, 31, [])) none) (cond (Nat.beq pc 31) (some (.iadd, 32, [])) none))) (cond (Nat.blt pc 33) (cond (Nat.beq pc 32) (some (.iconst 1, 33, [])) none) (cond (Nat.blt pc 34) (cond (Nat.beq pc 33) (some (.iadd, 34, [])) none) (cond (Nat.beq pc 34) (some (.ireturn, 35, [])) none))))))
set_option maxRecDepth 100000 in
theorem kX2_endOfNumber : okT cX2_endOfNumber tX2_endOfNumber 35 3 = true := by decide +kernel
def tX2_isTwo : Tt := tWn 26 (fun pc => cond (Nat.blt pc 12) (cond (Nat.blt pc 6) (cond (Nat.blt pc 2) (cond (Nat.blt pc 1) (cond (Nat.beq pc 0) (some (.aload_n 0, 1, [])) none) (cond (Nat.beq pc 1) (some (.iload_n 1, 2, [])) none)) (cond (Nat.blt pc 5) (cond (Nat.beq pc 2) (some (.invokevirtual 76, 5, [])) none) (cond (Nat.beq pc 5) (some (.iconst 1, 6, [])) none))) (cond (Nat.blt pc 10) (cond (Nat.blt pc 9) (cond (Nat.beq pc 6) (some (.if_icmp .ne 18, 9, [24])) none) (cond (Nat.beq pc 9) (some (.aload_n 0, 10, [])) none)) (cond (Nat.blt pc 11) (cond (Nat.beq pc 10) (some (.iload_n 1, 11, [])) none) (cond (Nat.beq pc 11) (some (.iconst 1, 12, [])) none)))) (cond (Nat.blt pc 20) (cond (Nat.blt pc 16) (cond (Nat.blt pc 13) (cond (Nat.beq pc 12) (some (.iadd, 13, [])) none) (cond (Nat.beq pc 13) (some (.invokevirtual 76, 16, [])) none)) (cond (Nat.blt pc 17) (cond (Nat.beq pc 16) (some (.iconst 2, 17, [])) none) (cond (Nat.beq pc 17) (some (.if_icmp .ne 7, 20, [24])) none))) (cond (Nat.blt pc 24) (cond (Nat.blt pc 21) (cond (Nat.beq pc 20) (some (.iconst 1, 21, [])) none) (cond (Nat.beq pc 21) (some (.goto 4, 24, [25])) none)) (cond (Nat.blt pc 25) (cond (Nat.beq pc 24) (some (.iconst 0, 25, [])) none) (cond (Nat.beq pc 25) (some (.ireturn, 26, [])) none)))))
set_option maxRecDepth 100000 in
theorem kX2_isTwo : okT cX2_isTwo tX2_isTwo 26 2 = true := by decide +kernel
def tX2_readNumber : Tt := tWn 58 (fun pc => cond (Nat.blt pc 32) (cond (Nat.blt pc 15) (cond (Nat.blt pc 5) (cond (Nat.blt pc 2) (cond (Nat.blt pc 1) (cond (Nat.beq pc 0) (some (.aload_n 2, 1, [])) none) (cond (Nat.beq pc 1) (some (.iconst 0, 2, [])) none)) (cond (Nat.blt pc 4) (cond (Nat.beq pc 2) (some (.bipush 64, 4, [])) none) (cond (Nat.beq pc 4) (some (.aload_n 0, 5, [])) none))) (cond (Nat.blt pc 9) (cond (Nat.blt pc 6) (cond (Nat.beq pc 5) (some (.iload_n 1, 6, [])) none) (cond (Nat.beq pc 6) (some (.invokevirtual 76, 9, [])) none)) (cond (Nat.blt pc 12) (cond (Nat.beq pc 9) (some (.invokestatic 47, 12, [])) none) (cond (Nat.beq pc 12) (some (.invokestatic 79, 15, [])) none)))) (cond (Nat.blt pc 21) (cond (Nat.blt pc 19) (cond (Nat.blt pc 18) (cond (Nat.beq pc 15) (some (.putfield 82, 18, [])) none) (cond (Nat.beq pc 18) (some (.iconst 0, 19, [])) none)) (cond (Nat.blt pc 20) (cond (Nat.beq pc 19) (some (.istore_n 3, 20, [])) none) (cond (Nat.beq pc 20) (some (.iload_n 3, 21, [])) none))) (cond (Nat.blt pc 25) (cond (Nat.blt pc 22) (cond (Nat.beq pc 21) (some (.aload_n 2, 22, [])) none) (cond (Nat.beq pc 22) (some (.getfield 82, 25, [])) none)) (cond (Nat.blt pc 28) (cond (Nat.beq pc 25) (some (.if_icmp .ge 24, 28, [49])) none) (cond (Nat.blt pc 29) (cond (Nat.beq pc 28) (some (.aload_n 2, 29, [])) none) (cond (Nat.beq pc 29) (some (.getfield 85, 32, [])) none)))))) (cond (Nat.blt pc 43) (cond (Nat.blt pc 36) (cond (Nat.blt pc 34) (cond (Nat.blt pc 33) (cond (Nat.beq pc 32) (some (.iload_n 3, 33, [])) none) (cond (Nat.beq pc 33) (some (.aload_n 0, 34, [])) none)) (cond (Nat.blt pc 35) (cond (Nat.beq pc 34) (some (.iload_n 1, 35, [])) none) (cond (Nat.beq pc 35) (some (.iconst 1, 36, [])) none))) (cond (Nat.blt pc 38) (cond (Nat.blt pc 37) (cond (Nat.beq pc 36) (some (.iadd, 37, [])) none) (cond (Nat.beq pc 37) (some (.iload_n 3, 38, [])) none)) (cond (Nat.blt pc 39) (cond (Nat.beq pc 38) (some (.iadd, 39, [])) none) (cond (Nat.blt pc 42) (cond (Nat.beq pc 39) (some (.invokevirtual 76, 42, [])) none) (cond (Nat.beq pc 42) (some (.iastore, 43, [])) none))))) (cond (Nat.blt pc 51) (cond (Nat.blt pc 49) (cond (Nat.blt pc 46) (cond (Nat.beq pc 43) (some (.iinc 3 1, 46, [])) none) (cond (Nat.beq pc 46) (some (.goto (-26), 49, [20])) none)) (cond (Nat.blt pc 50) (cond (Nat.beq pc 49) (some (.iload_n 1, 50, [])) none) (cond (Nat.beq pc 50) (some (.iconst 1, 51, [])) none))) (cond (Nat.blt pc 53) (cond (Nat.blt pc 52) (cond (Nat.beq pc 51) (some (.iadd, 52, [])) none) (cond (Nat.beq pc 52) (some (.aload_n 2, 53, [])) none)) (cond (Nat.blt pc 56) (cond (Nat.beq pc 53) (some (.getfield 82, 56, [])) none) (cond (Nat.blt pc 57) (cond (Nat.beq pc 56) (some (.iadd, 57, [])) none) (cond (Nat.beq pc 57) (some (.ireturn, 58, [])) none)))))))
set_option maxRecDepth 100000 in
theorem kX2_readNumber : okT cX2_readNumber tX2_readNumber 58 4 = true := by decide +kernel
def tX2_isGoodFor : Tt := tWn 114 (fun pc => cond (Nat.blt pc 56) (cond (Nat.blt pc 26) (cond (Nat.blt pc 14) (cond (Nat.blt pc 6) (cond (Nat.blt pc 2) (cond (Nat.blt pc 1) (cond (Nat.beq pc 0) (some (.aload_n 0, 1, [])) none) (cond (Nat.beq pc 1) (some (.iconst 0, 2, [])) none)) (cond (Nat.blt pc 3) (cond (Nat.beq pc 2) (some (.aload_n 0, 3, [])) none) (cond (Nat.beq pc 3) (some (.getfield 12, 6, [])) none))) (cond (Nat.blt pc 10) (cond (Nat.blt pc 9) (cond (Nat.beq pc 6) (some (.invokevirtual 88, 9, [])) none) (cond (Nat.beq pc 9) (some (.pop, 10, [])) none)) (cond (Nat.blt pc 11) (cond (Nat.beq pc 10) (some (.aload_n 0, 11, [])) none) (cond (Nat.beq pc 11) (some (.getfield 12, 14, [])) none)))) (cond (Nat.blt pc 22) (cond (Nat.blt pc 18) (cond (Nat.blt pc 15) (cond (Nat.beq pc 14) (some (.aload_n 1, 15, [])) none) (cond (Nat.beq pc 15) (some (.invokestatic 92, 18, [])) none)) (cond (Nat.blt pc 21) (cond (Nat.beq pc 18) (some (.ifCond .eq 5, 21, [23])) none) (cond (Nat.beq pc 21) (some (.iconst 0, 22, [])) none))) (cond (Nat.blt pc 24) (cond (Nat.blt pc 23) (cond (Nat.beq pc 22) (some (.ireturn, 23, [])) none) (cond (Nat.beq pc 23) (some (.iconst 0, 24, [])) none)) (cond (Nat.blt pc 25) (cond (Nat.beq pc 24) (some (.istore_n 3, 25, [])) none) (cond (Nat.beq pc 25) (some (.iload_n 3, 26, [])) none))))) (cond (Nat.blt pc 40) (cond (Nat.blt pc 34) (cond (Nat.blt pc 30) (cond (Nat.blt pc 27) (cond (Nat.beq pc 26) (some (.aload_n 0, 27, [])) none) (cond (Nat.beq pc 27) (some (.getfield 59, 30, [])) none)) (cond (Nat.blt pc 33) (cond (Nat.beq pc 30) (some (.if_icmp .ge 37, 33, [67])) none) (cond (Nat.beq pc 33) (some (.aload_n 0, 34, [])) none))) (cond (Nat.blt pc 38) (cond (Nat.blt pc 35) (cond (Nat.beq pc 34) (some (.aload_n 0, 35, [])) none) (cond (Nat.beq pc 35) (some (.getfield 37, 38, [])) none)) (cond (Nat.blt pc 39) (cond (Nat.beq pc 38) (some (.iload_n 3, 39, [])) none) (cond (Nat.beq pc 39) (some (.iaload, 40, [])) none)))) (cond (Nat.blt pc 48) (cond (Nat.blt pc 46) (cond (Nat.blt pc 43) (cond (Nat.beq pc 40) (some (.invokevirtual 69, 43, [])) none) (cond (Nat.beq pc 43) (some (.ifCond .ne 18, 46, [61])) none)) (cond (Nat.blt pc 47) (cond (Nat.beq pc 46) (some (.aload_n 0, 47, [])) none) (cond (Nat.beq pc 47) (some (.aload_n 0, 48, [])) none))) (cond (Nat.blt pc 52) (cond (Nat.blt pc 51) (cond (Nat.beq pc 48) (some (.getfield 37, 51, [])) none) (cond (Nat.beq pc 51) (some (.iload_n 3, 52, [])) none)) (cond (Nat.blt pc 53) (cond (Nat.beq pc 52) (some (.iaload, 53, [])) none) (cond (Nat.beq pc 53) (some (.invokevirtual 98, 56, [])) none)))))) (cond (Nat.blt pc 84) (cond (Nat.blt pc 70) (cond (Nat.blt pc 64) (cond (Nat.blt pc 60) (cond (Nat.blt pc 59) (cond (Nat.beq pc 56) (some (.ifCond .ne 5, 59, [61])) none) (cond (Nat.beq pc 59) (some (.iconst 0, 60, [])) none)) (cond (Nat.blt pc 61) (cond (Nat.beq pc 60) (some (.ireturn, 61, [])) none) (cond (Nat.beq pc 61) (some (.iinc 3 1, 64, [])) none))) (cond (Nat.blt pc 68) (cond (Nat.blt pc 67) (cond (Nat.beq pc 64) (some (.goto (-39), 67, [25])) none) (cond (Nat.beq pc 67) (some (.iconst 0, 68, [])) none)) (cond (Nat.blt pc 69) (cond (Nat.beq pc 68) (some (.istore_n 3, 69, [])) none) (cond (Nat.beq pc 69) (some (.iload_n 3, 70, [])) none)))) (cond (Nat.blt pc 78) (cond (Nat.blt pc 74) (cond (Nat.blt pc 71) (cond (Nat.beq pc 70) (some (.aload_n 0, 71, [])) none) (cond (Nat.beq pc 71) (some (.getfield 59, 74, [])) none)) (cond (Nat.blt pc 77) (cond (Nat.beq pc 74) (some (.if_icmp .ge 38, 77, [112])) none) (cond (Nat.beq pc 77) (some (.aload_n 0, 78, [])) none))) (cond (Nat.blt pc 82) (cond (Nat.blt pc 79) (cond (Nat.beq pc 78) (some (.aload_n 0, 79, [])) none) (cond (Nat.beq pc 79) (some (.getfield 37, 82, [])) none)) (cond (Nat.blt pc 83) (cond (Nat.beq pc 82) (some (.iload_n 3, 83, [])) none) (cond (Nat.beq pc 83) (some (.iaload, 84, [])) none))))) (cond (Nat.blt pc 98) (cond (Nat.blt pc 92) (cond (Nat.blt pc 90) (cond (Nat.blt pc 87) (cond (Nat.beq pc 84) (some (.invokevirtual 69, 87, [])) none) (cond (Nat.beq pc 87) (some (.ifCond .ne 19, 90, [106])) none)) (cond (Nat.blt pc 91) (cond (Nat.beq pc 90) (some (.aload_n 0, 91, [])) none) (cond (Nat.beq pc 91) (some (.aload_n 0, 92, [])) none))) (cond (Nat.blt pc 96) (cond (Nat.blt pc 95) (cond (Nat.beq pc 92) (some (.getfield 37, 95, [])) none) (cond (Nat.beq pc 95) (some (.iload_n 3, 96, [])) none)) (cond (Nat.blt pc 97) (cond (Nat.beq pc 96) (some (.iaload, 97, [])) none) (cond (Nat.beq pc 97) (some (.aload_n 2, 98, [])) none)))) (cond (Nat.blt pc 106) (cond (Nat.blt pc 104) (cond (Nat.blt pc 101) (cond (Nat.beq pc 98) (some (.invokevirtual 101, 101, [])) none) (cond (Nat.beq pc 101) (some (.ifCond .ne 5, 104, [106])) none)) (cond (Nat.blt pc 105) (cond (Nat.beq pc 104) (some (.iconst 0, 105, [])) none) (cond (Nat.beq pc 105) (some (.ireturn, 106, [])) none))) (cond (Nat.blt pc 112) (cond (Nat.blt pc 109) (cond (Nat.beq pc 106) (some (.iinc 3 1, 109, [])) none) (cond (Nat.beq pc 109) (some (.goto (-40), 112, [69])) none)) (cond (Nat.blt pc 113) (cond (Nat.beq pc 112) (some (.iconst 1, 113, [])) none) (cond (Nat.beq pc 113) (some (.ireturn, 114, [])) none)))))))
set_option maxRecDepth 100000 in
theorem kX2_isGoodFor : okT cX2_isGoodFor tX2_isGoodFor 114 4 = true := by decide +kernel
def tX2_factorsFit : Tt := tWn 209 (fun pc => cond (Nat.blt pc 98) (cond (Nat.blt pc 46) (cond (Nat.blt pc 23) (cond (Nat.blt pc 10) (cond (Nat.blt pc 3) (cond (Nat.blt pc 1) (cond (Nat.beq pc 0) (some (.aload_n 0, 1, [])) none) (cond (Nat.blt pc 2) (cond (Nat.beq pc 1) (some (.aload_n 0, 2, [])) none) (cond (Nat.beq pc 2) (some (.iload_n 1, 3, [])) none))) (cond (Nat.blt pc 4) (cond (Nat.beq pc 3) (some (.aload_n 0, 4, [])) none) (cond (Nat.blt pc 7) (cond (Nat.beq pc 4) (some (.getfield 12, 7, [])) none) (cond (Nat.beq pc 7) (some (.invokevirtual 88, 10, [])) none)))) (cond (Nat.blt pc 17) (cond (Nat.blt pc 11) (cond (Nat.beq pc 10) (some (.aload_n 0, 11, [])) none) (cond (Nat.blt pc 14) (cond (Nat.beq pc 11) (some (.getfield 18, 14, [])) none) (cond (Nat.beq pc 14) (some (.invokevirtual 88, 17, [])) none))) (cond (Nat.blt pc 19) (cond (Nat.blt pc 18) (cond (Nat.beq pc 17) (some (.istore_n 2, 18, [])) none) (cond (Nat.beq pc 18) (some (.aload_n 0, 19, [])) none)) (cond (Nat.blt pc 22) (cond (Nat.beq pc 19) (some (.getfield 18, 22, [])) none) (cond (Nat.beq pc 22) (some (.aload_n 0, 23, [])) none))))) (cond (Nat.blt pc 36) (cond (Nat.blt pc 32) (cond (Nat.blt pc 26) (cond (Nat.beq pc 23) (some (.getfield 12, 26, [])) none) (cond (Nat.blt pc 29) (cond (Nat.beq pc 26) (some (.invokestatic 92, 29, [])) none) (cond (Nat.beq pc 29) (some (.ifCond .lt 5, 32, [34])) none))) (cond (Nat.blt pc 34) (cond (Nat.blt pc 33) (cond (Nat.beq pc 32) (some (.iconst 0, 33, [])) none) (cond (Nat.beq pc 33) (some (.ireturn, 34, [])) none)) (cond (Nat.blt pc 35) (cond (Nat.beq pc 34) (some (.aload_n 0, 35, [])) none) (cond (Nat.beq pc 35) (some (.iload_n 2, 36, [])) none)))) (cond (Nat.blt pc 41) (cond (Nat.blt pc 39) (cond (Nat.beq pc 36) (some (.invokevirtual 76, 39, [])) none) (cond (Nat.blt pc 40) (cond (Nat.beq pc 39) (some (.istore_n 3, 40, [])) none) (cond (Nat.beq pc 40) (some (.iload_n 2, 41, [])) none))) (cond (Nat.blt pc 43) (cond (Nat.blt pc 42) (cond (Nat.beq pc 41) (some (.iconst 1, 42, [])) none) (cond (Nat.beq pc 42) (some (.iadd, 43, [])) none)) (cond (Nat.blt pc 45) (cond (Nat.beq pc 43) (some (.istore 4, 45, [])) none) (cond (Nat.beq pc 45) (some (.aload_n 0, 46, [])) none)))))) (cond (Nat.blt pc 71) (cond (Nat.blt pc 58) (cond (Nat.blt pc 53) (cond (Nat.blt pc 49) (cond (Nat.beq pc 46) (some (.getfield 27, 49, [])) none) (cond (Nat.blt pc 50) (cond (Nat.beq pc 49) (some (.iconst 1, 50, [])) none) (cond (Nat.beq pc 50) (some (.invokevirtual 105, 53, [])) none))) (cond (Nat.blt pc 54) (cond (Nat.beq pc 53) (some (.aload_n 0, 54, [])) none) (cond (Nat.blt pc 57) (cond (Nat.beq pc 54) (some (.getfield 24, 57, [])) none) (cond (Nat.beq pc 57) (some (.iconst 0, 58, [])) none)))) (cond (Nat.blt pc 64) (cond (Nat.blt pc 61) (cond (Nat.beq pc 58) (some (.invokevirtual 109, 61, [])) none) (cond (Nat.blt pc 62) (cond (Nat.beq pc 61) (some (.iconst 0, 62, [])) none) (cond (Nat.beq pc 62) (some (.istore 5, 64, [])) none))) (cond (Nat.blt pc 67) (cond (Nat.blt pc 66) (cond (Nat.beq pc 64) (some (.iload 5, 66, [])) none) (cond (Nat.beq pc 66) (some (.iload_n 3, 67, [])) none)) (cond (Nat.blt pc 70) (cond (Nat.beq pc 67) (some (.if_icmp .ge 99, 70, [166])) none) (cond (Nat.beq pc 70) (some (.aload_n 0, 71, [])) none))))) (cond (Nat.blt pc 83) (cond (Nat.blt pc 75) (cond (Nat.blt pc 73) (cond (Nat.beq pc 71) (some (.iload 4, 73, [])) none) (cond (Nat.blt pc 74) (cond (Nat.beq pc 73) (some (.iconst 1, 74, [])) none) (cond (Nat.beq pc 74) (some (.iadd, 75, [])) none))) (cond (Nat.blt pc 79) (cond (Nat.blt pc 76) (cond (Nat.beq pc 75) (some (.aload_n 0, 76, [])) none) (cond (Nat.beq pc 76) (some (.getfield 21, 79, [])) none)) (cond (Nat.blt pc 82) (cond (Nat.beq pc 79) (some (.invokevirtual 88, 82, [])) none) (cond (Nat.beq pc 82) (some (.pop, 83, [])) none)))) (cond (Nat.blt pc 88) (cond (Nat.blt pc 84) (cond (Nat.beq pc 83) (some (.aload_n 0, 84, [])) none) (cond (Nat.blt pc 87) (cond (Nat.beq pc 84) (some (.getfield 21, 87, [])) none) (cond (Nat.beq pc 87) (some (.aload_n 0, 88, [])) none))) (cond (Nat.blt pc 94) (cond (Nat.blt pc 91) (cond (Nat.beq pc 88) (some (.getfield 24, 91, [])) none) (cond (Nat.beq pc 91) (some (.invokestatic 92, 94, [])) none)) (cond (Nat.blt pc 97) (cond (Nat.beq pc 94) (some (.ifCond .le 21, 97, [115])) none) (cond (Nat.beq pc 97) (some (.aload_n 0, 98, [])) none))))))) (cond (Nat.blt pc 155) (cond (Nat.blt pc 125) (cond (Nat.blt pc 112) (cond (Nat.blt pc 105) (cond (Nat.blt pc 101) (cond (Nat.beq pc 98) (some (.getfield 21, 101, [])) none) (cond (Nat.blt pc 102) (cond (Nat.beq pc 101) (some (.aload_n 0, 102, [])) none) (cond (Nat.beq pc 102) (some (.getfield 12, 105, [])) none))) (cond (Nat.blt pc 108) (cond (Nat.beq pc 105) (some (.invokestatic 92, 108, [])) none) (cond (Nat.blt pc 111) (cond (Nat.beq pc 108) (some (.ifCond .ge 7, 111, [115])) none) (cond (Nat.beq pc 111) (some (.iconst 1, 112, [])) none)))) (cond (Nat.blt pc 118) (cond (Nat.blt pc 115) (cond (Nat.beq pc 112) (some (.goto 4, 115, [116])) none) (cond (Nat.blt pc 116) (cond (Nat.beq pc 115) (some (.iconst 0, 116, [])) none) (cond (Nat.beq pc 116) (some (.istore 6, 118, [])) none))) (cond (Nat.blt pc 123) (cond (Nat.blt pc 120) (cond (Nat.beq pc 118) (some (.iload 6, 120, [])) none) (cond (Nat.beq pc 120) (some (.ifCond .eq 16, 123, [136])) none)) (cond (Nat.blt pc 124) (cond (Nat.beq pc 123) (some (.aload_n 0, 124, [])) none) (cond (Nat.beq pc 124) (some (.aload_n 0, 125, [])) none))))) (cond (Nat.blt pc 139) (cond (Nat.blt pc 133) (cond (Nat.blt pc 127) (cond (Nat.beq pc 125) (some (.iload 4, 127, [])) none) (cond (Nat.blt pc 130) (cond (Nat.beq pc 127) (some (.invokevirtual 76, 130, [])) none) (cond (Nat.beq pc 130) (some (.invokevirtual 112, 133, [])) none))) (cond (Nat.blt pc 137) (cond (Nat.blt pc 136) (cond (Nat.beq pc 133) (some (.ifCond .ne 5, 136, [138])) none) (cond (Nat.beq pc 136) (some (.iconst 0, 137, [])) none)) (cond (Nat.blt pc 138) (cond (Nat.beq pc 137) (some (.ireturn, 138, [])) none) (cond (Nat.beq pc 138) (some (.aload_n 0, 139, [])) none)))) (cond (Nat.blt pc 146) (cond (Nat.blt pc 142) (cond (Nat.beq pc 139) (some (.getfield 24, 142, [])) none) (cond (Nat.blt pc 143) (cond (Nat.beq pc 142) (some (.aload_n 0, 143, [])) none) (cond (Nat.beq pc 143) (some (.getfield 21, 146, [])) none))) (cond (Nat.blt pc 150) (cond (Nat.blt pc 149) (cond (Nat.beq pc 146) (some (.invokevirtual 115, 149, [])) none) (cond (Nat.beq pc 149) (some (.aload_n 0, 150, [])) none)) (cond (Nat.blt pc 153) (cond (Nat.beq pc 150) (some (.getfield 40, 153, [])) none) (cond (Nat.beq pc 153) (some (.iload 4, 155, [])) none)))))) (cond (Nat.blt pc 179) (cond (Nat.blt pc 166) (cond (Nat.blt pc 158) (cond (Nat.blt pc 156) (cond (Nat.beq pc 155) (some (.iconst 1, 156, [])) none) (cond (Nat.blt pc 157) (cond (Nat.beq pc 156) (some (.iadd, 157, [])) none) (cond (Nat.beq pc 157) (some (.iaload, 158, [])) none))) (cond (Nat.blt pc 160) (cond (Nat.beq pc 158) (some (.istore 4, 160, [])) none) (cond (Nat.blt pc 163) (cond (Nat.beq pc 160) (some (.iinc 5 1, 163, [])) none) (cond (Nat.beq pc 163) (some (.goto (-99), 166, [64])) none)))) (cond (Nat.blt pc 171) (cond (Nat.blt pc 167) (cond (Nat.beq pc 166) (some (.aload_n 0, 167, [])) none) (cond (Nat.blt pc 170) (cond (Nat.beq pc 167) (some (.getfield 30, 170, [])) none) (cond (Nat.beq pc 170) (some (.iconst 1, 171, [])) none))) (cond (Nat.blt pc 175) (cond (Nat.blt pc 174) (cond (Nat.beq pc 171) (some (.invokevirtual 105, 174, [])) none) (cond (Nat.beq pc 174) (some (.aload_n 0, 175, [])) none)) (cond (Nat.blt pc 178) (cond (Nat.beq pc 175) (some (.getfield 30, 178, [])) none) (cond (Nat.beq pc 178) (some (.aload_n 0, 179, [])) none))))) (cond (Nat.blt pc 194) (cond (Nat.blt pc 186) (cond (Nat.blt pc 182) (cond (Nat.beq pc 179) (some (.getfield 30, 182, [])) none) (cond (Nat.blt pc 183) (cond (Nat.beq pc 182) (some (.aload_n 0, 183, [])) none) (cond (Nat.beq pc 183) (some (.getfield 27, 186, [])) none))) (cond (Nat.blt pc 190) (cond (Nat.blt pc 189) (cond (Nat.beq pc 186) (some (.invokestatic 119, 189, [])) none) (cond (Nat.beq pc 189) (some (.aload_n 0, 190, [])) none)) (cond (Nat.blt pc 193) (cond (Nat.beq pc 190) (some (.getfield 30, 193, [])) none) (cond (Nat.beq pc 193) (some (.aload_n 0, 194, [])) none)))) (cond (Nat.blt pc 203) (cond (Nat.blt pc 197) (cond (Nat.beq pc 194) (some (.getfield 12, 197, [])) none) (cond (Nat.blt pc 200) (cond (Nat.beq pc 197) (some (.invokestatic 92, 200, [])) none) (cond (Nat.beq pc 200) (some (.ifCond .ne 7, 203, [207])) none))) (cond (Nat.blt pc 207) (cond (Nat.blt pc 204) (cond (Nat.beq pc 203) (some (.iconst 1, 204, [])) none) (cond (Nat.beq pc 204) (some (.goto 4, 207, [208])) none)) (cond (Nat.blt pc 208) (cond (Nat.beq pc 207) (some (.iconst 0, 208, [])) none) (cond (Nat.beq pc 208) (some (.ireturn, 209, [])) none))))))))
set_option maxRecDepth 100000 in
theorem kX2_factorsFit : okT cX2_factorsFit tX2_factorsFit 209 7 = true := by decide +kernel
def tX2_multiplyTotal : Tt := tWn 60 (fun pc => cond (Nat.blt pc 27) (cond (Nat.blt pc 11) (cond (Nat.blt pc 3) (cond (Nat.blt pc 1) (cond (Nat.beq pc 0) (some (.iconst 0, 1, [])) none) (cond (Nat.blt pc 2) (cond (Nat.beq pc 1) (some (.istore_n 2, 2, [])) none) (cond (Nat.beq pc 2) (some (.iload_n 2, 3, [])) none))) (cond (Nat.blt pc 7) (cond (Nat.blt pc 4) (cond (Nat.beq pc 3) (some (.iload_n 1, 4, [])) none) (cond (Nat.beq pc 4) (some (.if_icmp .ge 54, 7, [58])) none)) (cond (Nat.blt pc 8) (cond (Nat.beq pc 7) (some (.aload_n 0, 8, [])) none) (cond (Nat.beq pc 8) (some (.getfield 30, 11, [])) none)))) (cond (Nat.blt pc 19) (cond (Nat.blt pc 15) (cond (Nat.blt pc 12) (cond (Nat.beq pc 11) (some (.aload_n 0, 12, [])) none) (cond (Nat.beq pc 12) (some (.getfield 27, 15, [])) none)) (cond (Nat.blt pc 16) (cond (Nat.beq pc 15) (some (.aload_n 0, 16, [])) none) (cond (Nat.beq pc 16) (some (.getfield 21, 19, [])) none))) (cond (Nat.blt pc 23) (cond (Nat.blt pc 22) (cond (Nat.beq pc 19) (some (.invokestatic 123, 22, [])) none) (cond (Nat.beq pc 22) (some (.aload_n 0, 23, [])) none)) (cond (Nat.blt pc 26) (cond (Nat.beq pc 23) (some (.getfield 27, 26, [])) none) (cond (Nat.beq pc 26) (some (.aload_n 0, 27, [])) none))))) (cond (Nat.blt pc 44) (cond (Nat.blt pc 34) (cond (Nat.blt pc 30) (cond (Nat.beq pc 27) (some (.getfield 30, 30, [])) none) (cond (Nat.blt pc 33) (cond (Nat.beq pc 30) (some (.invokevirtual 115, 33, [])) none) (cond (Nat.beq pc 33) (some (.aload_n 0, 34, [])) none))) (cond (Nat.blt pc 40) (cond (Nat.blt pc 37) (cond (Nat.beq pc 34) (some (.getfield 27, 37, [])) none) (cond (Nat.beq pc 37) (some (.getfield 82, 40, [])) none)) (cond (Nat.blt pc 41) (cond (Nat.beq pc 40) (some (.aload_n 0, 41, [])) none) (cond (Nat.beq pc 41) (some (.getfield 12, 44, [])) none)))) (cond (Nat.blt pc 52) (cond (Nat.blt pc 50) (cond (Nat.blt pc 47) (cond (Nat.beq pc 44) (some (.getfield 82, 47, [])) none) (cond (Nat.beq pc 47) (some (.if_icmp .le 5, 50, [52])) none)) (cond (Nat.blt pc 51) (cond (Nat.beq pc 50) (some (.iconst 0, 51, [])) none) (cond (Nat.beq pc 51) (some (.ireturn, 52, [])) none))) (cond (Nat.blt pc 58) (cond (Nat.blt pc 55) (cond (Nat.beq pc 52) (some (.iinc 2 1, 55, [])) none) (cond (Nat.beq pc 55) (some (.goto (-53), 58, [2])) none)) (cond (Nat.blt pc 59) (cond (Nat.beq pc 58) (some (.iconst 1, 59, [])) none) (cond (Nat.beq pc 59) (some (.ireturn, 60, [])) none))))))
set_option maxRecDepth 100000 in
theorem kX2_multiplyTotal : okT cX2_multiplyTotal tX2_multiplyTotal 60 3 = true := by decide +kernel
def tX2_witnessHolds : Tt := tWn 174 (fun pc => cond (Nat.blt pc 86) (cond (Nat.blt pc 43) (cond (Nat.blt pc 19) (cond (Nat.blt pc 7) (cond (Nat.blt pc 2) (cond (Nat.blt pc 1) (cond (Nat.beq pc 0) (some (.aload_n 0, 1, [])) none) (cond (Nat.beq pc 1) (some (.aload_n 0, 2, [])) none)) (cond (Nat.blt pc 3) (cond (Nat.beq pc 2) (some (.iload_n 1, 3, [])) none) (cond (Nat.blt pc 4) (cond (Nat.beq pc 3) (some (.aload_n 0, 4, [])) none) (cond (Nat.beq pc 4) (some (.getfield 12, 7, [])) none)))) (cond (Nat.blt pc 14) (cond (Nat.blt pc 10) (cond (Nat.beq pc 7) (some (.invokevirtual 88, 10, [])) none) (cond (Nat.blt pc 11) (cond (Nat.beq pc 10) (some (.aload_n 0, 11, [])) none) (cond (Nat.beq pc 11) (some (.getfield 18, 14, [])) none))) (cond (Nat.blt pc 17) (cond (Nat.beq pc 14) (some (.invokevirtual 88, 17, [])) none) (cond (Nat.blt pc 18) (cond (Nat.beq pc 17) (some (.istore_n 3, 18, [])) none) (cond (Nat.beq pc 18) (some (.aload_n 0, 19, [])) none))))) (cond (Nat.blt pc 31) (cond (Nat.blt pc 26) (cond (Nat.blt pc 22) (cond (Nat.beq pc 19) (some (.getfield 30, 22, [])) none) (cond (Nat.blt pc 23) (cond (Nat.beq pc 22) (some (.iconst 1, 23, [])) none) (cond (Nat.beq pc 23) (some (.invokevirtual 105, 26, [])) none))) (cond (Nat.blt pc 27) (cond (Nat.beq pc 26) (some (.aload_n 0, 27, [])) none) (cond (Nat.blt pc 30) (cond (Nat.beq pc 27) (some (.getfield 27, 30, [])) none) (cond (Nat.beq pc 30) (some (.aload_n 0, 31, [])) none)))) (cond (Nat.blt pc 38) (cond (Nat.blt pc 34) (cond (Nat.beq pc 31) (some (.getfield 12, 34, [])) none) (cond (Nat.blt pc 35) (cond (Nat.beq pc 34) (some (.aload_n 0, 35, [])) none) (cond (Nat.beq pc 35) (some (.getfield 30, 38, [])) none))) (cond (Nat.blt pc 41) (cond (Nat.beq pc 38) (some (.invokestatic 126, 41, [])) none) (cond (Nat.blt pc 42) (cond (Nat.beq pc 41) (some (.aload_n 2, 42, [])) none) (cond (Nat.beq pc 42) (some (.aload_n 0, 43, [])) none)))))) (cond (Nat.blt pc 68) (cond (Nat.blt pc 54) (cond (Nat.blt pc 47) (cond (Nat.blt pc 46) (cond (Nat.beq pc 43) (some (.getfield 18, 46, [])) none) (cond (Nat.beq pc 46) (some (.aload_n 0, 47, [])) none)) (cond (Nat.blt pc 50) (cond (Nat.beq pc 47) (some (.getfield 27, 50, [])) none) (cond (Nat.blt pc 51) (cond (Nat.beq pc 50) (some (.aload_n 0, 51, [])) none) (cond (Nat.beq pc 51) (some (.getfield 12, 54, [])) none)))) (cond (Nat.blt pc 61) (cond (Nat.blt pc 57) (cond (Nat.beq pc 54) (some (.invokevirtual 129, 57, [])) none) (cond (Nat.blt pc 58) (cond (Nat.beq pc 57) (some (.aload_n 2, 58, [])) none) (cond (Nat.beq pc 58) (some (.getfield 132, 61, [])) none))) (cond (Nat.blt pc 64) (cond (Nat.beq pc 61) (some (.invokevirtual 135, 64, [])) none) (cond (Nat.blt pc 67) (cond (Nat.beq pc 64) (some (.ifCond .ne 5, 67, [69])) none) (cond (Nat.beq pc 67) (some (.iconst 0, 68, [])) none))))) (cond (Nat.blt pc 77) (cond (Nat.blt pc 71) (cond (Nat.blt pc 69) (cond (Nat.beq pc 68) (some (.ireturn, 69, [])) none) (cond (Nat.blt pc 70) (cond (Nat.beq pc 69) (some (.aload_n 0, 70, [])) none) (cond (Nat.beq pc 70) (some (.iload_n 3, 71, [])) none))) (cond (Nat.blt pc 74) (cond (Nat.beq pc 71) (some (.invokevirtual 76, 74, [])) none) (cond (Nat.blt pc 76) (cond (Nat.beq pc 74) (some (.istore 4, 76, [])) none) (cond (Nat.beq pc 76) (some (.iload_n 3, 77, [])) none)))) (cond (Nat.blt pc 81) (cond (Nat.blt pc 78) (cond (Nat.beq pc 77) (some (.iconst 1, 78, [])) none) (cond (Nat.blt pc 79) (cond (Nat.beq pc 78) (some (.iadd, 79, [])) none) (cond (Nat.beq pc 79) (some (.istore 5, 81, [])) none))) (cond (Nat.blt pc 82) (cond (Nat.beq pc 81) (some (.iconst 0, 82, [])) none) (cond (Nat.blt pc 84) (cond (Nat.beq pc 82) (some (.istore 6, 84, [])) none) (cond (Nat.beq pc 84) (some (.iload 6, 86, [])) none))))))) (cond (Nat.blt pc 129) (cond (Nat.blt pc 105) (cond (Nat.blt pc 95) (cond (Nat.blt pc 91) (cond (Nat.blt pc 88) (cond (Nat.beq pc 86) (some (.iload 4, 88, [])) none) (cond (Nat.beq pc 88) (some (.if_icmp .ge 84, 91, [172])) none)) (cond (Nat.blt pc 92) (cond (Nat.beq pc 91) (some (.aload_n 0, 92, [])) none) (cond (Nat.blt pc 94) (cond (Nat.beq pc 92) (some (.iload 5, 94, [])) none) (cond (Nat.beq pc 94) (some (.iconst 1, 95, [])) none)))) (cond (Nat.blt pc 100) (cond (Nat.blt pc 96) (cond (Nat.beq pc 95) (some (.iadd, 96, [])) none) (cond (Nat.blt pc 97) (cond (Nat.beq pc 96) (some (.aload_n 0, 97, [])) none) (cond (Nat.beq pc 97) (some (.getfield 21, 100, [])) none))) (cond (Nat.blt pc 103) (cond (Nat.beq pc 100) (some (.invokevirtual 88, 103, [])) none) (cond (Nat.blt pc 104) (cond (Nat.beq pc 103) (some (.pop, 104, [])) none) (cond (Nat.beq pc 104) (some (.aload_n 2, 105, [])) none))))) (cond (Nat.blt pc 117) (cond (Nat.blt pc 110) (cond (Nat.blt pc 106) (cond (Nat.beq pc 105) (some (.aload_n 0, 106, [])) none) (cond (Nat.blt pc 109) (cond (Nat.beq pc 106) (some (.getfield 27, 109, [])) none) (cond (Nat.beq pc 109) (some (.aload_n 0, 110, [])) none))) (cond (Nat.blt pc 113) (cond (Nat.beq pc 110) (some (.getfield 21, 113, [])) none) (cond (Nat.blt pc 116) (cond (Nat.beq pc 113) (some (.invokevirtual 139, 116, [])) none) (cond (Nat.beq pc 116) (some (.aload_n 0, 117, [])) none)))) (cond (Nat.blt pc 124) (cond (Nat.blt pc 120) (cond (Nat.beq pc 117) (some (.getfield 30, 120, [])) none) (cond (Nat.blt pc 121) (cond (Nat.beq pc 120) (some (.aload_n 2, 121, [])) none) (cond (Nat.beq pc 121) (some (.getfield 143, 124, [])) none))) (cond (Nat.blt pc 127) (cond (Nat.beq pc 124) (some (.invokevirtual 115, 127, [])) none) (cond (Nat.blt pc 128) (cond (Nat.beq pc 127) (some (.aload_n 2, 128, [])) none) (cond (Nat.beq pc 128) (some (.aload_n 0, 129, [])) none)))))) (cond (Nat.blt pc 154) (cond (Nat.blt pc 140) (cond (Nat.blt pc 133) (cond (Nat.blt pc 132) (cond (Nat.beq pc 129) (some (.getfield 18, 132, [])) none) (cond (Nat.beq pc 132) (some (.aload_n 0, 133, [])) none)) (cond (Nat.blt pc 136) (cond (Nat.beq pc 133) (some (.getfield 30, 136, [])) none) (cond (Nat.blt pc 137) (cond (Nat.beq pc 136) (some (.aload_n 0, 137, [])) none) (cond (Nat.beq pc 137) (some (.getfield 12, 140, [])) none)))) (cond (Nat.blt pc 147) (cond (Nat.blt pc 143) (cond (Nat.beq pc 140) (some (.invokevirtual 129, 143, [])) none) (cond (Nat.blt pc 144) (cond (Nat.beq pc 143) (some (.aload_n 2, 144, [])) none) (cond (Nat.beq pc 144) (some (.getfield 132, 147, [])) none))) (cond (Nat.blt pc 150) (cond (Nat.beq pc 147) (some (.invokevirtual 135, 150, [])) none) (cond (Nat.blt pc 153) (cond (Nat.beq pc 150) (some (.ifCond .eq 5, 153, [155])) none) (cond (Nat.beq pc 153) (some (.iconst 0, 154, [])) none))))) (cond (Nat.blt pc 163) (cond (Nat.blt pc 159) (cond (Nat.blt pc 155) (cond (Nat.beq pc 154) (some (.ireturn, 155, [])) none) (cond (Nat.blt pc 156) (cond (Nat.beq pc 155) (some (.aload_n 0, 156, [])) none) (cond (Nat.beq pc 156) (some (.getfield 40, 159, [])) none))) (cond (Nat.blt pc 161) (cond (Nat.beq pc 159) (some (.iload 5, 161, [])) none) (cond (Nat.blt pc 162) (cond (Nat.beq pc 161) (some (.iconst 1, 162, [])) none) (cond (Nat.beq pc 162) (some (.iadd, 163, [])) none)))) (cond (Nat.blt pc 169) (cond (Nat.blt pc 164) (cond (Nat.beq pc 163) (some (.iaload, 164, [])) none) (cond (Nat.blt pc 166) (cond (Nat.beq pc 164) (some (.istore 5, 166, [])) none) (cond (Nat.beq pc 166) (some (.iinc 6 1, 169, [])) none))) (cond (Nat.blt pc 172) (cond (Nat.beq pc 169) (some (.goto (-85), 172, [84])) none) (cond (Nat.blt pc 173) (cond (Nat.beq pc 172) (some (.iconst 1, 173, [])) none) (cond (Nat.beq pc 173) (some (.ireturn, 174, [])) none))))))))
set_option maxRecDepth 100000 in
theorem kX2_witnessHolds : okT cX2_witnessHolds tX2_witnessHolds 174 7 = true := by decide +kernel
def tX3_init : Tt := tWn 14 (fun pc => cond (Nat.blt pc 5) (cond (Nat.blt pc 1) (cond (Nat.beq pc 0) (some (.aload_n 0, 1, [])) none) (cond (Nat.blt pc 4) (cond (Nat.beq pc 1) (some (.invokespecial 3, 4, [])) none) (cond (Nat.beq pc 4) (some (.aload_n 0, 5, [])) none))) (cond (Nat.blt pc 10) (cond (Nat.blt pc 8) (cond (Nat.beq pc 5) (some (.sipush 960, 8, [])) none) (cond (Nat.beq pc 8) (some (.newarray .int, 10, [])) none)) (cond (Nat.blt pc 13) (cond (Nat.beq pc 10) (some (.putfield 9, 13, [])) none) (cond (Nat.beq pc 13) (some (.return_, 14, [])) none))))
set_option maxRecDepth 100000 in
theorem kX3_init : okT cX3_init tX3_init 14 1 = true := by decide +kernel
def tX3_write : Tt := tWn 52 (fun pc => cond (Nat.blt pc 24) (cond (Nat.blt pc 13) (cond (Nat.blt pc 5) (cond (Nat.blt pc 1) (cond (Nat.beq pc 0) (some (.aload_n 0, 1, [])) none) (cond (Nat.blt pc 2) (cond (Nat.beq pc 1) (some (.iconst 0, 2, [])) none) (cond (Nat.beq pc 2) (some (.putfield 15, 5, [])) none))) (cond (Nat.blt pc 9) (cond (Nat.blt pc 6) (cond (Nat.beq pc 5) (some (.aload_n 0, 6, [])) none) (cond (Nat.beq pc 6) (some (.getfield 9, 9, [])) none)) (cond (Nat.blt pc 10) (cond (Nat.beq pc 9) (some (.aload_n 0, 10, [])) none) (cond (Nat.beq pc 10) (some (.getfield 15, 13, [])) none)))) (cond (Nat.blt pc 18) (cond (Nat.blt pc 14) (cond (Nat.beq pc 13) (some (.aload_n 1, 14, [])) none) (cond (Nat.blt pc 15) (cond (Nat.beq pc 14) (some (.iload_n 2, 15, [])) none) (cond (Nat.beq pc 15) (some (.invokevirtual 19, 18, [])) none))) (cond (Nat.blt pc 22) (cond (Nat.blt pc 21) (cond (Nat.beq pc 18) (some (.invokestatic 25, 21, [])) none) (cond (Nat.beq pc 21) (some (.iastore, 22, [])) none)) (cond (Nat.blt pc 23) (cond (Nat.beq pc 22) (some (.aload_n 0, 23, [])) none) (cond (Nat.beq pc 23) (some (.dup, 24, [])) none))))) (cond (Nat.blt pc 39) (cond (Nat.blt pc 29) (cond (Nat.blt pc 27) (cond (Nat.beq pc 24) (some (.getfield 15, 27, [])) none) (cond (Nat.blt pc 28) (cond (Nat.beq pc 27) (some (.iconst 1, 28, [])) none) (cond (Nat.beq pc 28) (some (.iadd, 29, [])) none))) (cond (Nat.blt pc 33) (cond (Nat.blt pc 32) (cond (Nat.beq pc 29) (some (.putfield 15, 32, [])) none) (cond (Nat.beq pc 32) (some (.aload_n 1, 33, [])) none)) (cond (Nat.blt pc 36) (cond (Nat.beq pc 33) (some (.getfield 28, 36, [])) none) (cond (Nat.beq pc 36) (some (.ifCond .le 15, 39, [51])) none)))) (cond (Nat.blt pc 44) (cond (Nat.blt pc 40) (cond (Nat.beq pc 39) (some (.aload_n 0, 40, [])) none) (cond (Nat.blt pc 43) (cond (Nat.beq pc 40) (some (.getfield 15, 43, [])) none) (cond (Nat.beq pc 43) (some (.aload_n 0, 44, [])) none))) (cond (Nat.blt pc 48) (cond (Nat.blt pc 47) (cond (Nat.beq pc 44) (some (.getfield 9, 47, [])) none) (cond (Nat.beq pc 47) (some (.arraylength, 48, [])) none)) (cond (Nat.blt pc 51) (cond (Nat.beq pc 48) (some (.if_icmp .lt (-43), 51, [5])) none) (cond (Nat.beq pc 51) (some (.return_, 52, [])) none))))))
set_option maxRecDepth 100000 in
theorem kX3_write : okT cX3_write tX3_write 52 3 = true := by decide +kernel
def tX3_byteAt : Tt := tWn 30 (fun pc => cond (Nat.blt pc 17) (cond (Nat.blt pc 6) (cond (Nat.blt pc 4) (cond (Nat.blt pc 1) (cond (Nat.beq pc 0) (some (.iload_n 1, 1, [])) none) (cond (Nat.beq pc 1) (some (.ifCond .lt 27, 4, [28])) none)) (cond (Nat.blt pc 5) (cond (Nat.beq pc 4) (some (.iload_n 1, 5, [])) none) (cond (Nat.beq pc 5) (some (.aload_n 0, 6, [])) none))) (cond (Nat.blt pc 12) (cond (Nat.blt pc 9) (cond (Nat.beq pc 6) (some (.getfield 15, 9, [])) none) (cond (Nat.beq pc 9) (some (.if_icmp .ge 19, 12, [28])) none)) (cond (Nat.blt pc 13) (cond (Nat.beq pc 12) (some (.aload_n 0, 13, [])) none) (cond (Nat.blt pc 16) (cond (Nat.beq pc 13) (some (.getfield 9, 16, [])) none) (cond (Nat.beq pc 16) (some (.aload_n 0, 17, [])) none))))) (cond (Nat.blt pc 23) (cond (Nat.blt pc 21) (cond (Nat.blt pc 20) (cond (Nat.beq pc 17) (some (.getfield 15, 20, [])) none) (cond (Nat.beq pc 20) (some (.iconst 1, 21, [])) none)) (cond (Nat.blt pc 22) (cond (Nat.beq pc 21) (some (.isub, 22, [])) none) (cond (Nat.beq pc 22) (some (.iload_n 1, 23, [])) none))) (cond (Nat.blt pc 25) (cond (Nat.blt pc 24) (cond (Nat.beq pc 23) (some (.isub, 24, [])) none) (cond (Nat.beq pc 24) (some (.iaload, 25, [])) none)) (cond (Nat.blt pc 28) (cond (Nat.beq pc 25) (some (.goto 4, 28, [29])) none) (cond (Nat.blt pc 29) (cond (Nat.beq pc 28) (some (.iconst (-1), 29, [])) none) (cond (Nat.beq pc 29) (some (.ireturn, 30, [])) none))))))
set_option maxRecDepth 100000 in
theorem kX3_byteAt : okT cX3_byteAt tX3_byteAt 30 2 = true := by decide +kernel
def tX3_characterOf : Tt := tWn 21 (fun pc => cond (Nat.blt pc 10) (cond (Nat.blt pc 6) (cond (Nat.blt pc 1) (cond (Nat.beq pc 0) (some (.iload_n 0, 1, [])) none) (cond (Nat.blt pc 3) (cond (Nat.beq pc 1) (some (.bipush 10, 3, [])) none) (cond (Nat.beq pc 3) (some (.if_icmp .ge 10, 6, [13])) none))) (cond (Nat.blt pc 8) (cond (Nat.beq pc 6) (some (.bipush 48, 8, [])) none) (cond (Nat.blt pc 9) (cond (Nat.beq pc 8) (some (.iload_n 0, 9, [])) none) (cond (Nat.beq pc 9) (some (.iadd, 10, [])) none)))) (cond (Nat.blt pc 16) (cond (Nat.blt pc 13) (cond (Nat.beq pc 10) (some (.goto 10, 13, [20])) none) (cond (Nat.blt pc 15) (cond (Nat.beq pc 13) (some (.bipush 97, 15, [])) none) (cond (Nat.beq pc 15) (some (.iload_n 0, 16, [])) none))) (cond (Nat.blt pc 19) (cond (Nat.blt pc 17) (cond (Nat.beq pc 16) (some (.iadd, 17, [])) none) (cond (Nat.beq pc 17) (some (.bipush 10, 19, [])) none)) (cond (Nat.blt pc 20) (cond (Nat.beq pc 19) (some (.isub, 20, [])) none) (cond (Nat.beq pc 20) (some (.ireturn, 21, [])) none)))))
set_option maxRecDepth 100000 in
theorem kX3_characterOf : okT cX3_characterOf tX3_characterOf 21 1 = true := by decide +kernel
def tX4_init : Tt := tWn 20 (fun pc => cond (Nat.blt pc 9) (cond (Nat.blt pc 4) (cond (Nat.blt pc 1) (cond (Nat.beq pc 0) (some (.aload_n 0, 1, [])) none) (cond (Nat.beq pc 1) (some (.invokespecial 3, 4, [])) none)) (cond (Nat.blt pc 5) (cond (Nat.beq pc 4) (some (.aload_n 0, 5, [])) none) (cond (Nat.blt pc 7) (cond (Nat.beq pc 5) (some (.bipush 108, 7, [])) none) (cond (Nat.beq pc 7) (some (.newarray .int, 9, [])) none)))) (cond (Nat.blt pc 14) (cond (Nat.blt pc 12) (cond (Nat.beq pc 9) (some (.putfield 11, 12, [])) none) (cond (Nat.blt pc 13) (cond (Nat.beq pc 12) (some (.aload_n 0, 13, [])) none) (cond (Nat.beq pc 13) (some (.iload_n 1, 14, [])) none))) (cond (Nat.blt pc 16) (cond (Nat.beq pc 14) (some (.newarray .int, 16, [])) none) (cond (Nat.blt pc 19) (cond (Nat.beq pc 16) (some (.putfield 15, 19, [])) none) (cond (Nat.beq pc 19) (some (.return_, 20, [])) none)))))
set_option maxRecDepth 100000 in
theorem kX4_init : okT cX4_init tX4_init 20 2 = true := by decide +kernel
def tX4_isPrime : Tt := tWn 20 (fun pc => cond (Nat.blt pc 10) (cond (Nat.blt pc 5) (cond (Nat.blt pc 1) (cond (Nat.beq pc 0) (some (.iload_n 0, 1, [])) none) (cond (Nat.blt pc 2) (cond (Nat.beq pc 1) (some (.iconst 2, 2, [])) none) (cond (Nat.beq pc 2) (some (.if_icmp .lt 16, 5, [18])) none))) (cond (Nat.blt pc 6) (cond (Nat.beq pc 5) (some (.iload_n 0, 6, [])) none) (cond (Nat.blt pc 7) (cond (Nat.beq pc 6) (some (.iconst 2, 7, [])) none) (cond (Nat.beq pc 7) (some (.invokestatic 18, 10, [])) none)))) (cond (Nat.blt pc 15) (cond (Nat.blt pc 11) (cond (Nat.beq pc 10) (some (.iload_n 0, 11, [])) none) (cond (Nat.blt pc 14) (cond (Nat.beq pc 11) (some (.if_icmp .ne 7, 14, [18])) none) (cond (Nat.beq pc 14) (some (.iconst 1, 15, [])) none))) (cond (Nat.blt pc 18) (cond (Nat.beq pc 15) (some (.goto 4, 18, [19])) none) (cond (Nat.blt pc 19) (cond (Nat.beq pc 18) (some (.iconst 0, 19, [])) none) (cond (Nat.beq pc 19) (some (.ireturn, 20, [])) none)))))
set_option maxRecDepth 100000 in
theorem kX4_isPrime : okT cX4_isPrime tX4_isPrime 20 1 = true := by decide +kernel
def tX4_leastFactor : Tt := tWn 46 (fun pc => cond (Nat.blt pc 23) (cond (Nat.blt pc 13) (cond (Nat.blt pc 5) (cond (Nat.blt pc 1) (cond (Nat.beq pc 0) (some (.iconst 2, 1, [])) none) (cond (Nat.blt pc 2) (cond (Nat.beq pc 1) (some (.iload_n 1, 2, [])) none) (cond (Nat.beq pc 2) (some (.invokestatic 22, 5, [])) none))) (cond (Nat.blt pc 7) (cond (Nat.blt pc 6) (cond (Nat.beq pc 5) (some (.istore_n 2, 6, [])) none) (cond (Nat.beq pc 6) (some (.iload_n 2, 7, [])) none)) (cond (Nat.blt pc 10) (cond (Nat.beq pc 7) (some (.sipush 32767, 10, [])) none) (cond (Nat.beq pc 10) (some (.if_icmp .gt 34, 13, [44])) none)))) (cond (Nat.blt pc 17) (cond (Nat.blt pc 15) (cond (Nat.blt pc 14) (cond (Nat.beq pc 13) (some (.iload_n 2, 14, [])) none) (cond (Nat.beq pc 14) (some (.iload_n 2, 15, [])) none)) (cond (Nat.blt pc 16) (cond (Nat.beq pc 15) (some (.imul, 16, [])) none) (cond (Nat.beq pc 16) (some (.iload_n 0, 17, [])) none))) (cond (Nat.blt pc 21) (cond (Nat.blt pc 20) (cond (Nat.beq pc 17) (some (.if_icmp .gt 27, 20, [44])) none) (cond (Nat.beq pc 20) (some (.iload_n 0, 21, [])) none)) (cond (Nat.blt pc 22) (cond (Nat.beq pc 21) (some (.iload_n 2, 22, [])) none) (cond (Nat.beq pc 22) (some (.irem, 23, [])) none))))) (cond (Nat.blt pc 34) (cond (Nat.blt pc 28) (cond (Nat.blt pc 26) (cond (Nat.beq pc 23) (some (.ifCond .ne 5, 26, [28])) none) (cond (Nat.blt pc 27) (cond (Nat.beq pc 26) (some (.iload_n 2, 27, [])) none) (cond (Nat.beq pc 27) (some (.ireturn, 28, [])) none))) (cond (Nat.blt pc 30) (cond (Nat.blt pc 29) (cond (Nat.beq pc 28) (some (.iload_n 2, 29, [])) none) (cond (Nat.beq pc 29) (some (.iload_n 2, 30, [])) none)) (cond (Nat.blt pc 31) (cond (Nat.beq pc 30) (some (.iconst 2, 31, [])) none) (cond (Nat.beq pc 31) (some (.if_icmp .ne 7, 34, [38])) none)))) (cond (Nat.blt pc 40) (cond (Nat.blt pc 38) (cond (Nat.blt pc 35) (cond (Nat.beq pc 34) (some (.iconst 1, 35, [])) none) (cond (Nat.beq pc 35) (some (.goto 4, 38, [39])) none)) (cond (Nat.blt pc 39) (cond (Nat.beq pc 38) (some (.iconst 2, 39, [])) none) (cond (Nat.beq pc 39) (some (.iadd, 40, [])) none))) (cond (Nat.blt pc 44) (cond (Nat.blt pc 41) (cond (Nat.beq pc 40) (some (.istore_n 2, 41, [])) none) (cond (Nat.beq pc 41) (some (.goto (-35), 44, [6])) none)) (cond (Nat.blt pc 45) (cond (Nat.beq pc 44) (some (.iload_n 0, 45, [])) none) (cond (Nat.beq pc 45) (some (.ireturn, 46, [])) none))))))
set_option maxRecDepth 100000 in
theorem kX4_leastFactor : okT cX4_leastFactor tX4_leastFactor 46 3 = true := by decide +kernel
def tX4_exponentOf : Tt := tWn 33 (fun pc => cond (Nat.blt pc 16) (cond (Nat.blt pc 5) (cond (Nat.blt pc 2) (cond (Nat.blt pc 1) (cond (Nat.beq pc 0) (some (.iload_n 1, 1, [])) none) (cond (Nat.beq pc 1) (some (.istore_n 2, 2, [])) none)) (cond (Nat.blt pc 3) (cond (Nat.beq pc 2) (some (.iconst 0, 3, [])) none) (cond (Nat.blt pc 4) (cond (Nat.beq pc 3) (some (.istore_n 3, 4, [])) none) (cond (Nat.beq pc 4) (some (.iload_n 3, 5, [])) none)))) (cond (Nat.blt pc 11) (cond (Nat.blt pc 7) (cond (Nat.beq pc 5) (some (.bipush 30, 7, [])) none) (cond (Nat.blt pc 10) (cond (Nat.beq pc 7) (some (.if_icmp .ge 24, 10, [31])) none) (cond (Nat.beq pc 10) (some (.iload_n 0, 11, [])) none))) (cond (Nat.blt pc 12) (cond (Nat.beq pc 11) (some (.iconst 2, 12, [])) none) (cond (Nat.blt pc 15) (cond (Nat.beq pc 12) (some (.if_icmp .lt 19, 15, [31])) none) (cond (Nat.beq pc 15) (some (.iload_n 2, 16, [])) none))))) (cond (Nat.blt pc 23) (cond (Nat.blt pc 18) (cond (Nat.blt pc 17) (cond (Nat.beq pc 16) (some (.iload_n 0, 17, [])) none) (cond (Nat.beq pc 17) (some (.irem, 18, [])) none)) (cond (Nat.blt pc 21) (cond (Nat.beq pc 18) (some (.ifCond .ne 13, 21, [31])) none) (cond (Nat.blt pc 22) (cond (Nat.beq pc 21) (some (.iload_n 2, 22, [])) none) (cond (Nat.beq pc 22) (some (.iload_n 0, 23, [])) none)))) (cond (Nat.blt pc 28) (cond (Nat.blt pc 24) (cond (Nat.beq pc 23) (some (.idiv, 24, [])) none) (cond (Nat.blt pc 25) (cond (Nat.beq pc 24) (some (.istore_n 2, 25, [])) none) (cond (Nat.beq pc 25) (some (.iinc 3 1, 28, [])) none))) (cond (Nat.blt pc 31) (cond (Nat.beq pc 28) (some (.goto (-24), 31, [4])) none) (cond (Nat.blt pc 32) (cond (Nat.beq pc 31) (some (.iload_n 3, 32, [])) none) (cond (Nat.beq pc 32) (some (.ireturn, 33, [])) none))))))
set_option maxRecDepth 100000 in
theorem kX4_exponentOf : okT cX4_exponentOf tX4_exponentOf 33 4 = true := by decide +kernel
def tX4_write : Tt := tWn 12 (fun pc => cond (Nat.blt pc 6) (cond (Nat.blt pc 2) (cond (Nat.blt pc 1) (cond (Nat.beq pc 0) (some (.aload_n 0, 1, [])) none) (cond (Nat.beq pc 1) (some (.iconst 0, 2, [])) none)) (cond (Nat.blt pc 5) (cond (Nat.beq pc 2) (some (.putfield 27, 5, [])) none) (cond (Nat.beq pc 5) (some (.aload_n 0, 6, [])) none))) (cond (Nat.blt pc 8) (cond (Nat.blt pc 7) (cond (Nat.beq pc 6) (some (.iload_n 1, 7, [])) none) (cond (Nat.beq pc 7) (some (.iconst 1, 8, [])) none)) (cond (Nat.blt pc 11) (cond (Nat.beq pc 8) (some (.invokevirtual 31, 11, [])) none) (cond (Nat.beq pc 11) (some (.ireturn, 12, [])) none))))
set_option maxRecDepth 100000 in
theorem kX4_write : okT cX4_write tX4_write 12 2 = true := by decide +kernel
def tX4_writeNode : Tt := tWn 36 (fun pc => cond (Nat.blt pc 17) (cond (Nat.blt pc 8) (cond (Nat.blt pc 3) (cond (Nat.blt pc 1) (cond (Nat.beq pc 0) (some (.iload_n 2, 1, [])) none) (cond (Nat.beq pc 1) (some (.bipush 12, 3, [])) none)) (cond (Nat.blt pc 6) (cond (Nat.beq pc 3) (some (.if_icmp .gt 11, 6, [14])) none) (cond (Nat.blt pc 7) (cond (Nat.beq pc 6) (some (.aload_n 0, 7, [])) none) (cond (Nat.beq pc 7) (some (.iload_n 1, 8, [])) none)))) (cond (Nat.blt pc 14) (cond (Nat.blt pc 11) (cond (Nat.beq pc 8) (some (.invokevirtual 35, 11, [])) none) (cond (Nat.beq pc 11) (some (.ifCond .ne 5, 14, [16])) none)) (cond (Nat.blt pc 15) (cond (Nat.beq pc 14) (some (.iconst 0, 15, [])) none) (cond (Nat.blt pc 16) (cond (Nat.beq pc 15) (some (.ireturn, 16, [])) none) (cond (Nat.beq pc 16) (some (.iload_n 1, 17, [])) none))))) (cond (Nat.blt pc 24) (cond (Nat.blt pc 21) (cond (Nat.blt pc 18) (cond (Nat.beq pc 17) (some (.iconst 2, 18, [])) none) (cond (Nat.beq pc 18) (some (.if_icmp .eq 12, 21, [30])) none)) (cond (Nat.blt pc 22) (cond (Nat.beq pc 21) (some (.aload_n 0, 22, [])) none) (cond (Nat.blt pc 23) (cond (Nat.beq pc 22) (some (.iload_n 1, 23, [])) none) (cond (Nat.beq pc 23) (some (.iload_n 2, 24, [])) none)))) (cond (Nat.blt pc 31) (cond (Nat.blt pc 27) (cond (Nat.beq pc 24) (some (.invokevirtual 39, 27, [])) none) (cond (Nat.blt pc 30) (cond (Nat.beq pc 27) (some (.ifCond .eq 7, 30, [34])) none) (cond (Nat.beq pc 30) (some (.iconst 1, 31, [])) none))) (cond (Nat.blt pc 34) (cond (Nat.beq pc 31) (some (.goto 4, 34, [35])) none) (cond (Nat.blt pc 35) (cond (Nat.beq pc 34) (some (.iconst 0, 35, [])) none) (cond (Nat.beq pc 35) (some (.ireturn, 36, [])) none))))))
set_option maxRecDepth 100000 in
theorem kX4_writeNode : okT cX4_writeNode tX4_writeNode 36 3 = true := by decide +kernel
def tX4_writeFactors : Tt := tWn 102 (fun pc => cond (Nat.blt pc 46) (cond (Nat.blt pc 19) (cond (Nat.blt pc 8) (cond (Nat.blt pc 4) (cond (Nat.blt pc 2) (cond (Nat.beq pc 0) (some (.bipush 9, 2, [])) none) (cond (Nat.blt pc 3) (cond (Nat.beq pc 2) (some (.iload_n 2, 3, [])) none) (cond (Nat.beq pc 3) (some (.iconst 1, 4, [])) none))) (cond (Nat.blt pc 6) (cond (Nat.blt pc 5) (cond (Nat.beq pc 4) (some (.isub, 5, [])) none) (cond (Nat.beq pc 5) (some (.imul, 6, [])) none)) (cond (Nat.blt pc 7) (cond (Nat.beq pc 6) (some (.istore_n 3, 7, [])) none) (cond (Nat.beq pc 7) (some (.aload_n 0, 8, [])) none)))) (cond (Nat.blt pc 12) (cond (Nat.blt pc 10) (cond (Nat.blt pc 9) (cond (Nat.beq pc 8) (some (.iload_n 1, 9, [])) none) (cond (Nat.beq pc 9) (some (.iconst 1, 10, [])) none)) (cond (Nat.blt pc 11) (cond (Nat.beq pc 10) (some (.isub, 11, [])) none) (cond (Nat.beq pc 11) (some (.iload_n 3, 12, [])) none))) (cond (Nat.blt pc 17) (cond (Nat.blt pc 15) (cond (Nat.beq pc 12) (some (.invokevirtual 42, 15, [])) none) (cond (Nat.beq pc 15) (some (.istore 4, 17, [])) none)) (cond (Nat.blt pc 18) (cond (Nat.beq pc 17) (some (.aload_n 0, 18, [])) none) (cond (Nat.beq pc 18) (some (.aload_n 0, 19, [])) none))))) (cond (Nat.blt pc 33) (cond (Nat.blt pc 23) (cond (Nat.blt pc 20) (cond (Nat.beq pc 19) (some (.iload_n 1, 20, [])) none) (cond (Nat.blt pc 21) (cond (Nat.beq pc 20) (some (.iload_n 3, 21, [])) none) (cond (Nat.beq pc 21) (some (.iload 4, 23, [])) none))) (cond (Nat.blt pc 29) (cond (Nat.blt pc 26) (cond (Nat.beq pc 23) (some (.invokevirtual 45, 26, [])) none) (cond (Nat.beq pc 26) (some (.invokevirtual 35, 29, [])) none)) (cond (Nat.blt pc 32) (cond (Nat.beq pc 29) (some (.ifCond .eq 14, 32, [43])) none) (cond (Nat.beq pc 32) (some (.aload_n 0, 33, [])) none)))) (cond (Nat.blt pc 40) (cond (Nat.blt pc 36) (cond (Nat.blt pc 35) (cond (Nat.beq pc 33) (some (.iload 4, 35, [])) none) (cond (Nat.beq pc 35) (some (.iload_n 3, 36, [])) none)) (cond (Nat.blt pc 37) (cond (Nat.beq pc 36) (some (.isub, 37, [])) none) (cond (Nat.beq pc 37) (some (.invokevirtual 49, 40, [])) none))) (cond (Nat.blt pc 44) (cond (Nat.blt pc 43) (cond (Nat.beq pc 40) (some (.ifCond .ne 5, 43, [45])) none) (cond (Nat.beq pc 43) (some (.iconst 0, 44, [])) none)) (cond (Nat.blt pc 45) (cond (Nat.beq pc 44) (some (.ireturn, 45, [])) none) (cond (Nat.beq pc 45) (some (.iload_n 3, 46, [])) none)))))) (cond (Nat.blt pc 75) (cond (Nat.blt pc 60) (cond (Nat.blt pc 52) (cond (Nat.blt pc 48) (cond (Nat.beq pc 46) (some (.istore 5, 48, [])) none) (cond (Nat.blt pc 50) (cond (Nat.beq pc 48) (some (.iload 5, 50, [])) none) (cond (Nat.beq pc 50) (some (.iload 4, 52, [])) none))) (cond (Nat.blt pc 56) (cond (Nat.blt pc 55) (cond (Nat.beq pc 52) (some (.if_icmp .ge 48, 55, [100])) none) (cond (Nat.beq pc 55) (some (.aload_n 0, 56, [])) none)) (cond (Nat.blt pc 57) (cond (Nat.beq pc 56) (some (.aload_n 0, 57, [])) none) (cond (Nat.beq pc 57) (some (.getfield 11, 60, [])) none)))) (cond (Nat.blt pc 65) (cond (Nat.blt pc 63) (cond (Nat.blt pc 62) (cond (Nat.beq pc 60) (some (.iload 5, 62, [])) none) (cond (Nat.beq pc 62) (some (.iaload, 63, [])) none)) (cond (Nat.blt pc 64) (cond (Nat.beq pc 63) (some (.iload_n 1, 64, [])) none) (cond (Nat.beq pc 64) (some (.iconst 1, 65, [])) none))) (cond (Nat.blt pc 69) (cond (Nat.blt pc 66) (cond (Nat.beq pc 65) (some (.isub, 66, [])) none) (cond (Nat.beq pc 66) (some (.invokestatic 52, 69, [])) none)) (cond (Nat.blt pc 72) (cond (Nat.beq pc 69) (some (.invokevirtual 49, 72, [])) none) (cond (Nat.beq pc 72) (some (.ifCond .eq 20, 75, [92])) none))))) (cond (Nat.blt pc 86) (cond (Nat.blt pc 82) (cond (Nat.blt pc 77) (cond (Nat.blt pc 76) (cond (Nat.beq pc 75) (some (.aload_n 0, 76, [])) none) (cond (Nat.beq pc 76) (some (.aload_n 0, 77, [])) none)) (cond (Nat.blt pc 80) (cond (Nat.beq pc 77) (some (.getfield 11, 80, [])) none) (cond (Nat.beq pc 80) (some (.iload 5, 82, [])) none))) (cond (Nat.blt pc 84) (cond (Nat.blt pc 83) (cond (Nat.beq pc 82) (some (.iaload, 83, [])) none) (cond (Nat.beq pc 83) (some (.iload_n 2, 84, [])) none)) (cond (Nat.blt pc 85) (cond (Nat.beq pc 84) (some (.iconst 1, 85, [])) none) (cond (Nat.beq pc 85) (some (.iadd, 86, [])) none)))) (cond (Nat.blt pc 94) (cond (Nat.blt pc 92) (cond (Nat.blt pc 89) (cond (Nat.beq pc 86) (some (.invokevirtual 31, 89, [])) none) (cond (Nat.beq pc 89) (some (.ifCond .ne 5, 92, [94])) none)) (cond (Nat.blt pc 93) (cond (Nat.beq pc 92) (some (.iconst 0, 93, [])) none) (cond (Nat.beq pc 93) (some (.ireturn, 94, [])) none))) (cond (Nat.blt pc 100) (cond (Nat.blt pc 97) (cond (Nat.beq pc 94) (some (.iinc 5 1, 97, [])) none) (cond (Nat.beq pc 97) (some (.goto (-49), 100, [48])) none)) (cond (Nat.blt pc 101) (cond (Nat.beq pc 100) (some (.iconst 1, 101, [])) none) (cond (Nat.beq pc 101) (some (.ireturn, 102, [])) none)))))))
set_option maxRecDepth 100000 in
theorem kX4_writeFactors : okT cX4_writeFactors tX4_writeFactors 102 6 = true := by decide +kernel
def tX4_findFactors : Tt := tWn 88 (fun pc => cond (Nat.blt pc 40) (cond (Nat.blt pc 16) (cond (Nat.blt pc 6) (cond (Nat.blt pc 2) (cond (Nat.blt pc 1) (cond (Nat.beq pc 0) (some (.iload_n 1, 1, [])) none) (cond (Nat.beq pc 1) (some (.istore_n 3, 2, [])) none)) (cond (Nat.blt pc 3) (cond (Nat.beq pc 2) (some (.iconst 2, 3, [])) none) (cond (Nat.blt pc 5) (cond (Nat.beq pc 3) (some (.istore 4, 5, [])) none) (cond (Nat.beq pc 5) (some (.iload_n 2, 6, [])) none)))) (cond (Nat.blt pc 10) (cond (Nat.blt pc 8) (cond (Nat.beq pc 6) (some (.istore 5, 8, [])) none) (cond (Nat.blt pc 9) (cond (Nat.beq pc 8) (some (.iload_n 3, 9, [])) none) (cond (Nat.beq pc 9) (some (.iconst 1, 10, [])) none))) (cond (Nat.blt pc 13) (cond (Nat.beq pc 10) (some (.if_icmp .le 75, 13, [85])) none) (cond (Nat.blt pc 15) (cond (Nat.beq pc 13) (some (.iload 5, 15, [])) none) (cond (Nat.beq pc 15) (some (.iload_n 2, 16, [])) none))))) (cond (Nat.blt pc 28) (cond (Nat.blt pc 22) (cond (Nat.blt pc 18) (cond (Nat.beq pc 16) (some (.bipush 9, 18, [])) none) (cond (Nat.blt pc 19) (cond (Nat.beq pc 18) (some (.iadd, 19, [])) none) (cond (Nat.beq pc 19) (some (.if_icmp .ge 66, 22, [85])) none))) (cond (Nat.blt pc 24) (cond (Nat.beq pc 22) (some (.iload 5, 24, [])) none) (cond (Nat.blt pc 25) (cond (Nat.beq pc 24) (some (.aload_n 0, 25, [])) none) (cond (Nat.beq pc 25) (some (.getfield 11, 28, [])) none)))) (cond (Nat.blt pc 33) (cond (Nat.blt pc 29) (cond (Nat.beq pc 28) (some (.arraylength, 29, [])) none) (cond (Nat.blt pc 32) (cond (Nat.beq pc 29) (some (.if_icmp .ge 56, 32, [85])) none) (cond (Nat.beq pc 32) (some (.iload_n 3, 33, [])) none))) (cond (Nat.blt pc 35) (cond (Nat.beq pc 33) (some (.iload 4, 35, [])) none) (cond (Nat.blt pc 38) (cond (Nat.beq pc 35) (some (.invokestatic 18, 38, [])) none) (cond (Nat.beq pc 38) (some (.istore 4, 40, [])) none)))))) (cond (Nat.blt pc 63) (cond (Nat.blt pc 53) (cond (Nat.blt pc 46) (cond (Nat.blt pc 42) (cond (Nat.beq pc 40) (some (.iload 4, 42, [])) none) (cond (Nat.blt pc 43) (cond (Nat.beq pc 42) (some (.iload_n 3, 43, [])) none) (cond (Nat.beq pc 43) (some (.invokestatic 52, 46, [])) none))) (cond (Nat.blt pc 48) (cond (Nat.beq pc 46) (some (.istore 6, 48, [])) none) (cond (Nat.blt pc 50) (cond (Nat.beq pc 48) (some (.iload 6, 50, [])) none) (cond (Nat.beq pc 50) (some (.ifCond .le 20, 53, [70])) none)))) (cond (Nat.blt pc 59) (cond (Nat.blt pc 55) (cond (Nat.beq pc 53) (some (.iload 4, 55, [])) none) (cond (Nat.blt pc 56) (cond (Nat.beq pc 55) (some (.iconst 2, 56, [])) none) (cond (Nat.beq pc 56) (some (.if_icmp .lt 14, 59, [70])) none))) (cond (Nat.blt pc 60) (cond (Nat.beq pc 59) (some (.iload_n 3, 60, [])) none) (cond (Nat.blt pc 62) (cond (Nat.beq pc 60) (some (.iload 4, 62, [])) none) (cond (Nat.beq pc 62) (some (.idiv, 63, [])) none))))) (cond (Nat.blt pc 76) (cond (Nat.blt pc 70) (cond (Nat.blt pc 64) (cond (Nat.beq pc 63) (some (.istore_n 3, 64, [])) none) (cond (Nat.blt pc 67) (cond (Nat.beq pc 64) (some (.iinc 6 (-1), 67, [])) none) (cond (Nat.beq pc 67) (some (.goto (-19), 70, [48])) none))) (cond (Nat.blt pc 71) (cond (Nat.beq pc 70) (some (.aload_n 0, 71, [])) none) (cond (Nat.blt pc 74) (cond (Nat.beq pc 71) (some (.getfield 11, 74, [])) none) (cond (Nat.beq pc 74) (some (.iload 5, 76, [])) none)))) (cond (Nat.blt pc 82) (cond (Nat.blt pc 78) (cond (Nat.beq pc 76) (some (.iload 4, 78, [])) none) (cond (Nat.blt pc 79) (cond (Nat.beq pc 78) (some (.iastore, 79, [])) none) (cond (Nat.beq pc 79) (some (.iinc 5 1, 82, [])) none))) (cond (Nat.blt pc 85) (cond (Nat.beq pc 82) (some (.goto (-74), 85, [8])) none) (cond (Nat.blt pc 87) (cond (Nat.beq pc 85) (some (.iload 5, 87, [])) none) (cond (Nat.beq pc 87) (some (.ireturn, 88, [])) none)))))))
set_option maxRecDepth 100000 in
theorem kX4_findFactors : okT cX4_findFactors tX4_findFactors 88 7 = true := by decide +kernel
def tX4_leastWitness : Tt := tWn 32 (fun pc => cond (Nat.blt pc 14) (cond (Nat.blt pc 6) (cond (Nat.blt pc 3) (cond (Nat.blt pc 1) (cond (Nat.beq pc 0) (some (.iconst 1, 1, [])) none) (cond (Nat.beq pc 1) (some (.istore 4, 3, [])) none)) (cond (Nat.blt pc 5) (cond (Nat.beq pc 3) (some (.iload 4, 5, [])) none) (cond (Nat.beq pc 5) (some (.iload_n 1, 6, [])) none))) (cond (Nat.blt pc 10) (cond (Nat.blt pc 9) (cond (Nat.beq pc 6) (some (.if_icmp .ge 24, 9, [30])) none) (cond (Nat.beq pc 9) (some (.aload_n 0, 10, [])) none)) (cond (Nat.blt pc 12) (cond (Nat.beq pc 10) (some (.iload 4, 12, [])) none) (cond (Nat.blt pc 13) (cond (Nat.beq pc 12) (some (.iload_n 1, 13, [])) none) (cond (Nat.beq pc 13) (some (.iload_n 2, 14, [])) none))))) (cond (Nat.blt pc 23) (cond (Nat.blt pc 18) (cond (Nat.blt pc 15) (cond (Nat.beq pc 14) (some (.iload_n 3, 15, [])) none) (cond (Nat.beq pc 15) (some (.invokevirtual 55, 18, [])) none)) (cond (Nat.blt pc 21) (cond (Nat.beq pc 18) (some (.ifCond .eq 6, 21, [24])) none) (cond (Nat.beq pc 21) (some (.iload 4, 23, [])) none))) (cond (Nat.blt pc 27) (cond (Nat.blt pc 24) (cond (Nat.beq pc 23) (some (.ireturn, 24, [])) none) (cond (Nat.beq pc 24) (some (.iinc 4 1, 27, [])) none)) (cond (Nat.blt pc 30) (cond (Nat.beq pc 27) (some (.goto (-24), 30, [3])) none) (cond (Nat.blt pc 31) (cond (Nat.beq pc 30) (some (.iconst (-1), 31, [])) none) (cond (Nat.beq pc 31) (some (.ireturn, 32, [])) none))))))
set_option maxRecDepth 100000 in
theorem kX4_leastWitness : okT cX4_leastWitness tX4_leastWitness 32 5 = true := by decide +kernel
def tX4_isWitness : Tt := tWn 51 (fun pc => cond (Nat.blt pc 25) (cond (Nat.blt pc 14) (cond (Nat.blt pc 5) (cond (Nat.blt pc 1) (cond (Nat.beq pc 0) (some (.iload_n 3, 1, [])) none) (cond (Nat.blt pc 3) (cond (Nat.beq pc 1) (some (.istore 5, 3, [])) none) (cond (Nat.beq pc 3) (some (.iload 5, 5, [])) none))) (cond (Nat.blt pc 10) (cond (Nat.blt pc 7) (cond (Nat.beq pc 5) (some (.iload 4, 7, [])) none) (cond (Nat.beq pc 7) (some (.if_icmp .ge 42, 10, [49])) none)) (cond (Nat.blt pc 11) (cond (Nat.beq pc 10) (some (.aload_n 0, 11, [])) none) (cond (Nat.beq pc 11) (some (.getfield 11, 14, [])) none)))) (cond (Nat.blt pc 21) (cond (Nat.blt pc 17) (cond (Nat.blt pc 16) (cond (Nat.beq pc 14) (some (.iload 5, 16, [])) none) (cond (Nat.beq pc 16) (some (.iaload, 17, [])) none)) (cond (Nat.blt pc 18) (cond (Nat.beq pc 17) (some (.iconst 2, 18, [])) none) (cond (Nat.beq pc 18) (some (.if_icmp .lt 23, 21, [41])) none))) (cond (Nat.blt pc 23) (cond (Nat.blt pc 22) (cond (Nat.beq pc 21) (some (.iload_n 1, 22, [])) none) (cond (Nat.beq pc 22) (some (.iload_n 2, 23, [])) none)) (cond (Nat.blt pc 24) (cond (Nat.beq pc 23) (some (.iconst 1, 24, [])) none) (cond (Nat.beq pc 24) (some (.isub, 25, [])) none))))) (cond (Nat.blt pc 37) (cond (Nat.blt pc 31) (cond (Nat.blt pc 26) (cond (Nat.beq pc 25) (some (.aload_n 0, 26, [])) none) (cond (Nat.blt pc 29) (cond (Nat.beq pc 26) (some (.getfield 11, 29, [])) none) (cond (Nat.beq pc 29) (some (.iload 5, 31, [])) none))) (cond (Nat.blt pc 33) (cond (Nat.blt pc 32) (cond (Nat.beq pc 31) (some (.iaload, 32, [])) none) (cond (Nat.beq pc 32) (some (.idiv, 33, [])) none)) (cond (Nat.blt pc 34) (cond (Nat.beq pc 33) (some (.iload_n 2, 34, [])) none) (cond (Nat.beq pc 34) (some (.invokestatic 59, 37, [])) none)))) (cond (Nat.blt pc 43) (cond (Nat.blt pc 41) (cond (Nat.blt pc 38) (cond (Nat.beq pc 37) (some (.iconst 1, 38, [])) none) (cond (Nat.beq pc 38) (some (.if_icmp .ne 5, 41, [43])) none)) (cond (Nat.blt pc 42) (cond (Nat.beq pc 41) (some (.iconst 0, 42, [])) none) (cond (Nat.beq pc 42) (some (.ireturn, 43, [])) none))) (cond (Nat.blt pc 49) (cond (Nat.blt pc 46) (cond (Nat.beq pc 43) (some (.iinc 5 1, 46, [])) none) (cond (Nat.beq pc 46) (some (.goto (-43), 49, [3])) none)) (cond (Nat.blt pc 50) (cond (Nat.beq pc 49) (some (.iconst 1, 50, [])) none) (cond (Nat.beq pc 50) (some (.ireturn, 51, [])) none))))))
set_option maxRecDepth 100000 in
theorem kX4_isWitness : okT cX4_isWitness tX4_isWitness 51 6 = true := by decide +kernel
def tX4_powerModulo : Tt := tWn 63 (fun pc => cond (Nat.blt pc 31) (cond (Nat.blt pc 13) (cond (Nat.blt pc 7) (cond (Nat.blt pc 2) (cond (Nat.blt pc 1) (cond (Nat.beq pc 0) (some (.iload_n 2, 1, [])) none) (cond (Nat.beq pc 1) (some (.iconst 1, 2, [])) none)) (cond (Nat.blt pc 5) (cond (Nat.beq pc 2) (some (.if_icmp .ge 5, 5, [7])) none) (cond (Nat.blt pc 6) (cond (Nat.beq pc 5) (some (.iconst 0, 6, [])) none) (cond (Nat.beq pc 6) (some (.ireturn, 7, [])) none)))) (cond (Nat.blt pc 10) (cond (Nat.blt pc 8) (cond (Nat.beq pc 7) (some (.iload_n 0, 8, [])) none) (cond (Nat.blt pc 9) (cond (Nat.beq pc 8) (some (.iload_n 2, 9, [])) none) (cond (Nat.beq pc 9) (some (.irem, 10, [])) none))) (cond (Nat.blt pc 11) (cond (Nat.beq pc 10) (some (.i2l, 11, [])) none) (cond (Nat.blt pc 12) (cond (Nat.beq pc 11) (some (.lstore_n 3, 12, [])) none) (cond (Nat.beq pc 12) (some (.iconst 1, 13, [])) none))))) (cond (Nat.blt pc 21) (cond (Nat.blt pc 16) (cond (Nat.blt pc 14) (cond (Nat.beq pc 13) (some (.iload_n 2, 14, [])) none) (cond (Nat.blt pc 15) (cond (Nat.beq pc 14) (some (.irem, 15, [])) none) (cond (Nat.beq pc 15) (some (.i2l, 16, [])) none))) (cond (Nat.blt pc 18) (cond (Nat.beq pc 16) (some (.lstore 5, 18, [])) none) (cond (Nat.blt pc 19) (cond (Nat.beq pc 18) (some (.iload_n 1, 19, [])) none) (cond (Nat.beq pc 19) (some (.istore 7, 21, [])) none)))) (cond (Nat.blt pc 28) (cond (Nat.blt pc 23) (cond (Nat.beq pc 21) (some (.iload 7, 23, [])) none) (cond (Nat.blt pc 26) (cond (Nat.beq pc 23) (some (.ifCond .le 36, 26, [59])) none) (cond (Nat.beq pc 26) (some (.iload 7, 28, [])) none))) (cond (Nat.blt pc 29) (cond (Nat.beq pc 28) (some (.iconst 2, 29, [])) none) (cond (Nat.blt pc 30) (cond (Nat.beq pc 29) (some (.irem, 30, [])) none) (cond (Nat.beq pc 30) (some (.iconst 1, 31, [])) none)))))) (cond (Nat.blt pc 46) (cond (Nat.blt pc 39) (cond (Nat.blt pc 36) (cond (Nat.blt pc 34) (cond (Nat.beq pc 31) (some (.if_icmp .ne 12, 34, [43])) none) (cond (Nat.beq pc 34) (some (.lload 5, 36, [])) none)) (cond (Nat.blt pc 37) (cond (Nat.beq pc 36) (some (.lload_n 3, 37, [])) none) (cond (Nat.blt pc 38) (cond (Nat.beq pc 37) (some (.lmul, 38, [])) none) (cond (Nat.beq pc 38) (some (.iload_n 2, 39, [])) none)))) (cond (Nat.blt pc 43) (cond (Nat.blt pc 40) (cond (Nat.beq pc 39) (some (.i2l, 40, [])) none) (cond (Nat.blt pc 41) (cond (Nat.beq pc 40) (some (.lrem, 41, [])) none) (cond (Nat.beq pc 41) (some (.lstore 5, 43, [])) none))) (cond (Nat.blt pc 44) (cond (Nat.beq pc 43) (some (.lload_n 3, 44, [])) none) (cond (Nat.blt pc 45) (cond (Nat.beq pc 44) (some (.lload_n 3, 45, [])) none) (cond (Nat.beq pc 45) (some (.lmul, 46, [])) none))))) (cond (Nat.blt pc 53) (cond (Nat.blt pc 49) (cond (Nat.blt pc 47) (cond (Nat.beq pc 46) (some (.iload_n 2, 47, [])) none) (cond (Nat.blt pc 48) (cond (Nat.beq pc 47) (some (.i2l, 48, [])) none) (cond (Nat.beq pc 48) (some (.lrem, 49, [])) none))) (cond (Nat.blt pc 50) (cond (Nat.beq pc 49) (some (.lstore_n 3, 50, [])) none) (cond (Nat.blt pc 52) (cond (Nat.beq pc 50) (some (.iload 7, 52, [])) none) (cond (Nat.beq pc 52) (some (.iconst 2, 53, [])) none)))) (cond (Nat.blt pc 59) (cond (Nat.blt pc 54) (cond (Nat.beq pc 53) (some (.idiv, 54, [])) none) (cond (Nat.blt pc 56) (cond (Nat.beq pc 54) (some (.istore 7, 56, [])) none) (cond (Nat.beq pc 56) (some (.goto (-35), 59, [21])) none))) (cond (Nat.blt pc 61) (cond (Nat.beq pc 59) (some (.lload 5, 61, [])) none) (cond (Nat.blt pc 62) (cond (Nat.beq pc 61) (some (.l2i, 62, [])) none) (cond (Nat.beq pc 62) (some (.ireturn, 63, [])) none)))))))
set_option maxRecDepth 100000 in
theorem kX4_powerModulo : okT cX4_powerModulo tX4_powerModulo 63 8 = true := by decide +kernel
def tX4_putNumber : Tt := tWn 61 (fun pc => cond (Nat.blt pc 30) (cond (Nat.blt pc 11) (cond (Nat.blt pc 5) (cond (Nat.blt pc 3) (cond (Nat.blt pc 1) (cond (Nat.beq pc 0) (some (.iload_n 1, 1, [])) none) (cond (Nat.beq pc 1) (some (.bipush 15, 3, [])) none)) (cond (Nat.blt pc 4) (cond (Nat.beq pc 3) (some (.ishr, 4, [])) none) (cond (Nat.beq pc 4) (some (.istore_n 2, 5, [])) none))) (cond (Nat.blt pc 7) (cond (Nat.blt pc 6) (cond (Nat.beq pc 5) (some (.aload_n 0, 6, [])) none) (cond (Nat.beq pc 6) (some (.iload_n 2, 7, [])) none)) (cond (Nat.blt pc 10) (cond (Nat.beq pc 7) (some (.ifCond .le 7, 10, [14])) none) (cond (Nat.beq pc 10) (some (.iconst 2, 11, [])) none)))) (cond (Nat.blt pc 21) (cond (Nat.blt pc 15) (cond (Nat.blt pc 14) (cond (Nat.beq pc 11) (some (.goto 4, 14, [15])) none) (cond (Nat.beq pc 14) (some (.iconst 1, 15, [])) none)) (cond (Nat.blt pc 18) (cond (Nat.beq pc 15) (some (.invokevirtual 49, 18, [])) none) (cond (Nat.beq pc 18) (some (.ifCond .eq 19, 21, [37])) none))) (cond (Nat.blt pc 23) (cond (Nat.blt pc 22) (cond (Nat.beq pc 21) (some (.aload_n 0, 22, [])) none) (cond (Nat.beq pc 22) (some (.iload_n 1, 23, [])) none)) (cond (Nat.blt pc 26) (cond (Nat.beq pc 23) (some (.sipush 32767, 26, [])) none) (cond (Nat.blt pc 27) (cond (Nat.beq pc 26) (some (.iand, 27, [])) none) (cond (Nat.beq pc 27) (some (.invokevirtual 49, 30, [])) none)))))) (cond (Nat.blt pc 44) (cond (Nat.blt pc 38) (cond (Nat.blt pc 34) (cond (Nat.blt pc 33) (cond (Nat.beq pc 30) (some (.ifCond .eq 7, 33, [37])) none) (cond (Nat.beq pc 33) (some (.iconst 1, 34, [])) none)) (cond (Nat.blt pc 37) (cond (Nat.beq pc 34) (some (.goto 4, 37, [38])) none) (cond (Nat.beq pc 37) (some (.iconst 0, 38, [])) none))) (cond (Nat.blt pc 40) (cond (Nat.blt pc 39) (cond (Nat.beq pc 38) (some (.istore_n 3, 39, [])) none) (cond (Nat.beq pc 39) (some (.iload_n 3, 40, [])) none)) (cond (Nat.blt pc 43) (cond (Nat.beq pc 40) (some (.ifCond .eq 19, 43, [59])) none) (cond (Nat.beq pc 43) (some (.iload_n 2, 44, [])) none)))) (cond (Nat.blt pc 52) (cond (Nat.blt pc 48) (cond (Nat.blt pc 47) (cond (Nat.beq pc 44) (some (.ifCond .eq 11, 47, [55])) none) (cond (Nat.beq pc 47) (some (.aload_n 0, 48, [])) none)) (cond (Nat.blt pc 49) (cond (Nat.beq pc 48) (some (.iload_n 2, 49, [])) none) (cond (Nat.beq pc 49) (some (.invokevirtual 49, 52, [])) none))) (cond (Nat.blt pc 56) (cond (Nat.blt pc 55) (cond (Nat.beq pc 52) (some (.ifCond .eq 7, 55, [59])) none) (cond (Nat.beq pc 55) (some (.iconst 1, 56, [])) none)) (cond (Nat.blt pc 59) (cond (Nat.beq pc 56) (some (.goto 4, 59, [60])) none) (cond (Nat.blt pc 60) (cond (Nat.beq pc 59) (some (.iconst 0, 60, [])) none) (cond (Nat.beq pc 60) (some (.ireturn, 61, [])) none)))))))
set_option maxRecDepth 100000 in
theorem kX4_putNumber : okT cX4_putNumber tX4_putNumber 61 4 = true := by decide +kernel
def tX4_put : Tt := tWn 36 (fun pc => cond (Nat.blt pc 19) (cond (Nat.blt pc 9) (cond (Nat.blt pc 4) (cond (Nat.blt pc 1) (cond (Nat.beq pc 0) (some (.aload_n 0, 1, [])) none) (cond (Nat.beq pc 1) (some (.getfield 27, 4, [])) none)) (cond (Nat.blt pc 5) (cond (Nat.beq pc 4) (some (.aload_n 0, 5, [])) none) (cond (Nat.blt pc 8) (cond (Nat.beq pc 5) (some (.getfield 15, 8, [])) none) (cond (Nat.beq pc 8) (some (.arraylength, 9, [])) none)))) (cond (Nat.blt pc 14) (cond (Nat.blt pc 12) (cond (Nat.beq pc 9) (some (.if_icmp .lt 5, 12, [14])) none) (cond (Nat.blt pc 13) (cond (Nat.beq pc 12) (some (.iconst 0, 13, [])) none) (cond (Nat.beq pc 13) (some (.ireturn, 14, [])) none))) (cond (Nat.blt pc 15) (cond (Nat.beq pc 14) (some (.aload_n 0, 15, [])) none) (cond (Nat.blt pc 18) (cond (Nat.beq pc 15) (some (.getfield 15, 18, [])) none) (cond (Nat.beq pc 18) (some (.aload_n 0, 19, [])) none))))) (cond (Nat.blt pc 26) (cond (Nat.blt pc 23) (cond (Nat.blt pc 22) (cond (Nat.beq pc 19) (some (.getfield 27, 22, [])) none) (cond (Nat.beq pc 22) (some (.iload_n 1, 23, [])) none)) (cond (Nat.blt pc 24) (cond (Nat.beq pc 23) (some (.iastore, 24, [])) none) (cond (Nat.blt pc 25) (cond (Nat.beq pc 24) (some (.aload_n 0, 25, [])) none) (cond (Nat.beq pc 25) (some (.dup, 26, [])) none)))) (cond (Nat.blt pc 31) (cond (Nat.blt pc 29) (cond (Nat.beq pc 26) (some (.getfield 27, 29, [])) none) (cond (Nat.blt pc 30) (cond (Nat.beq pc 29) (some (.iconst 1, 30, [])) none) (cond (Nat.beq pc 30) (some (.iadd, 31, [])) none))) (cond (Nat.blt pc 34) (cond (Nat.beq pc 31) (some (.putfield 27, 34, [])) none) (cond (Nat.blt pc 35) (cond (Nat.beq pc 34) (some (.iconst 1, 35, [])) none) (cond (Nat.beq pc 35) (some (.ireturn, 36, [])) none))))))
set_option maxRecDepth 100000 in
theorem kX4_put : okT cX4_put tX4_put 36 2 = true := by decide +kernel
def tX5_init : Tt := tWn 14 (fun pc => cond (Nat.blt pc 5) (cond (Nat.blt pc 1) (cond (Nat.beq pc 0) (some (.aload_n 0, 1, [])) none) (cond (Nat.blt pc 4) (cond (Nat.beq pc 1) (some (.invokespecial 3, 4, [])) none) (cond (Nat.beq pc 4) (some (.aload_n 0, 5, [])) none))) (cond (Nat.blt pc 10) (cond (Nat.blt pc 8) (cond (Nat.beq pc 5) (some (.sipush 130, 8, [])) none) (cond (Nat.beq pc 8) (some (.newarray .int, 10, [])) none)) (cond (Nat.blt pc 13) (cond (Nat.beq pc 10) (some (.putfield 9, 13, [])) none) (cond (Nat.beq pc 13) (some (.return_, 14, [])) none))))
set_option maxRecDepth 100000 in
theorem kX5_init : okT cX5_init tX5_init 14 1 = true := by decide +kernel
def tX5_limbAt : Tt := tWn 23 (fun pc => cond (Nat.blt pc 12) (cond (Nat.blt pc 5) (cond (Nat.blt pc 1) (cond (Nat.beq pc 0) (some (.iload_n 1, 1, [])) none) (cond (Nat.blt pc 4) (cond (Nat.beq pc 1) (some (.ifCond .lt 20, 4, [21])) none) (cond (Nat.beq pc 4) (some (.iload_n 1, 5, [])) none))) (cond (Nat.blt pc 6) (cond (Nat.beq pc 5) (some (.aload_n 0, 6, [])) none) (cond (Nat.blt pc 9) (cond (Nat.beq pc 6) (some (.getfield 15, 9, [])) none) (cond (Nat.beq pc 9) (some (.if_icmp .ge 12, 12, [21])) none)))) (cond (Nat.blt pc 17) (cond (Nat.blt pc 13) (cond (Nat.beq pc 12) (some (.aload_n 0, 13, [])) none) (cond (Nat.blt pc 16) (cond (Nat.beq pc 13) (some (.getfield 9, 16, [])) none) (cond (Nat.beq pc 16) (some (.iload_n 1, 17, [])) none))) (cond (Nat.blt pc 21) (cond (Nat.blt pc 18) (cond (Nat.beq pc 17) (some (.iaload, 18, [])) none) (cond (Nat.beq pc 18) (some (.goto 4, 21, [22])) none)) (cond (Nat.blt pc 22) (cond (Nat.beq pc 21) (some (.iconst 0, 22, [])) none) (cond (Nat.beq pc 22) (some (.ireturn, 23, [])) none)))))
set_option maxRecDepth 100000 in
theorem kX5_limbAt : okT cX5_limbAt tX5_limbAt 23 2 = true := by decide +kernel
def tX5_trim : Tt := tWn 40 (fun pc => cond (Nat.blt pc 21) (cond (Nat.blt pc 9) (cond (Nat.blt pc 2) (cond (Nat.blt pc 1) (cond (Nat.beq pc 0) (some (.aload_n 0, 1, [])) none) (cond (Nat.beq pc 1) (some (.iload_n 1, 2, [])) none)) (cond (Nat.blt pc 5) (cond (Nat.beq pc 2) (some (.putfield 15, 5, [])) none) (cond (Nat.blt pc 6) (cond (Nat.beq pc 5) (some (.aload_n 0, 6, [])) none) (cond (Nat.beq pc 6) (some (.getfield 15, 9, [])) none)))) (cond (Nat.blt pc 16) (cond (Nat.blt pc 12) (cond (Nat.beq pc 9) (some (.ifCond .le 30, 12, [39])) none) (cond (Nat.blt pc 13) (cond (Nat.beq pc 12) (some (.aload_n 0, 13, [])) none) (cond (Nat.beq pc 13) (some (.getfield 9, 16, [])) none))) (cond (Nat.blt pc 17) (cond (Nat.beq pc 16) (some (.aload_n 0, 17, [])) none) (cond (Nat.blt pc 20) (cond (Nat.beq pc 17) (some (.getfield 15, 20, [])) none) (cond (Nat.beq pc 20) (some (.iconst 1, 21, [])) none))))) (cond (Nat.blt pc 28) (cond (Nat.blt pc 23) (cond (Nat.blt pc 22) (cond (Nat.beq pc 21) (some (.isub, 22, [])) none) (cond (Nat.beq pc 22) (some (.iaload, 23, [])) none)) (cond (Nat.blt pc 26) (cond (Nat.beq pc 23) (some (.ifCond .ne 16, 26, [39])) none) (cond (Nat.blt pc 27) (cond (Nat.beq pc 26) (some (.aload_n 0, 27, [])) none) (cond (Nat.beq pc 27) (some (.dup, 28, [])) none)))) (cond (Nat.blt pc 33) (cond (Nat.blt pc 31) (cond (Nat.beq pc 28) (some (.getfield 15, 31, [])) none) (cond (Nat.blt pc 32) (cond (Nat.beq pc 31) (some (.iconst 1, 32, [])) none) (cond (Nat.beq pc 32) (some (.isub, 33, [])) none))) (cond (Nat.blt pc 36) (cond (Nat.beq pc 33) (some (.putfield 15, 36, [])) none) (cond (Nat.blt pc 39) (cond (Nat.beq pc 36) (some (.goto (-31), 39, [5])) none) (cond (Nat.beq pc 39) (some (.return_, 40, [])) none))))))
set_option maxRecDepth 100000 in
theorem kX5_trim : okT cX5_trim tX5_trim 40 2 = true := by decide +kernel
def tX5_copy : Tt := tWn 26 (fun pc => cond (Nat.blt pc 11) (cond (Nat.blt pc 5) (cond (Nat.blt pc 1) (cond (Nat.beq pc 0) (some (.aload_n 1, 1, [])) none) (cond (Nat.blt pc 4) (cond (Nat.beq pc 1) (some (.getfield 9, 4, [])) none) (cond (Nat.beq pc 4) (some (.iconst 0, 5, [])) none))) (cond (Nat.blt pc 9) (cond (Nat.blt pc 6) (cond (Nat.beq pc 5) (some (.aload_n 0, 6, [])) none) (cond (Nat.beq pc 6) (some (.getfield 9, 9, [])) none)) (cond (Nat.blt pc 10) (cond (Nat.beq pc 9) (some (.iconst 0, 10, [])) none) (cond (Nat.beq pc 10) (some (.aload_n 1, 11, [])) none)))) (cond (Nat.blt pc 18) (cond (Nat.blt pc 14) (cond (Nat.beq pc 11) (some (.getfield 15, 14, [])) none) (cond (Nat.blt pc 17) (cond (Nat.beq pc 14) (some (.invokestatic 19, 17, [])) none) (cond (Nat.beq pc 17) (some (.aload_n 0, 18, [])) none))) (cond (Nat.blt pc 22) (cond (Nat.blt pc 19) (cond (Nat.beq pc 18) (some (.aload_n 1, 19, [])) none) (cond (Nat.beq pc 19) (some (.getfield 15, 22, [])) none)) (cond (Nat.blt pc 25) (cond (Nat.beq pc 22) (some (.putfield 15, 25, [])) none) (cond (Nat.beq pc 25) (some (.return_, 26, [])) none)))))
set_option maxRecDepth 100000 in
theorem kX5_copy : okT cX5_copy tX5_copy 26 2 = true := by decide +kernel
def tX5_become : Tt := tWn 13 (fun pc => cond (Nat.blt pc 6) (cond (Nat.blt pc 4) (cond (Nat.blt pc 1) (cond (Nat.beq pc 0) (some (.aload_n 0, 1, [])) none) (cond (Nat.beq pc 1) (some (.getfield 9, 4, [])) none)) (cond (Nat.blt pc 5) (cond (Nat.beq pc 4) (some (.iconst 0, 5, [])) none) (cond (Nat.beq pc 5) (some (.iload_n 1, 6, [])) none))) (cond (Nat.blt pc 8) (cond (Nat.blt pc 7) (cond (Nat.beq pc 6) (some (.iastore, 7, [])) none) (cond (Nat.beq pc 7) (some (.aload_n 0, 8, [])) none)) (cond (Nat.blt pc 9) (cond (Nat.beq pc 8) (some (.iconst 1, 9, [])) none) (cond (Nat.blt pc 12) (cond (Nat.beq pc 9) (some (.invokevirtual 25, 12, [])) none) (cond (Nat.beq pc 12) (some (.return_, 13, [])) none)))))
set_option maxRecDepth 100000 in
theorem kX5_become : okT cX5_become tX5_become 13 2 = true := by decide +kernel
def tX5_isOne : Tt := tWn 24 (fun pc => cond (Nat.blt pc 13) (cond (Nat.blt pc 5) (cond (Nat.blt pc 1) (cond (Nat.beq pc 0) (some (.aload_n 0, 1, [])) none) (cond (Nat.blt pc 4) (cond (Nat.beq pc 1) (some (.getfield 15, 4, [])) none) (cond (Nat.beq pc 4) (some (.iconst 1, 5, [])) none))) (cond (Nat.blt pc 9) (cond (Nat.blt pc 8) (cond (Nat.beq pc 5) (some (.if_icmp .ne 17, 8, [22])) none) (cond (Nat.beq pc 8) (some (.aload_n 0, 9, [])) none)) (cond (Nat.blt pc 12) (cond (Nat.beq pc 9) (some (.getfield 9, 12, [])) none) (cond (Nat.beq pc 12) (some (.iconst 0, 13, [])) none)))) (cond (Nat.blt pc 18) (cond (Nat.blt pc 14) (cond (Nat.beq pc 13) (some (.iaload, 14, [])) none) (cond (Nat.blt pc 15) (cond (Nat.beq pc 14) (some (.iconst 1, 15, [])) none) (cond (Nat.beq pc 15) (some (.if_icmp .ne 7, 18, [22])) none))) (cond (Nat.blt pc 22) (cond (Nat.blt pc 19) (cond (Nat.beq pc 18) (some (.iconst 1, 19, [])) none) (cond (Nat.beq pc 19) (some (.goto 4, 22, [23])) none)) (cond (Nat.blt pc 23) (cond (Nat.beq pc 22) (some (.iconst 0, 23, [])) none) (cond (Nat.beq pc 23) (some (.ireturn, 24, [])) none)))))
set_option maxRecDepth 100000 in
theorem kX5_isOne : okT cX5_isOne tX5_isOne 24 1 = true := by decide +kernel
def tX5_bits : Tt := tWn 36 (fun pc => cond (Nat.blt pc 19) (cond (Nat.blt pc 11) (cond (Nat.blt pc 4) (cond (Nat.blt pc 1) (cond (Nat.beq pc 0) (some (.aload_n 0, 1, [])) none) (cond (Nat.beq pc 1) (some (.getfield 15, 4, [])) none)) (cond (Nat.blt pc 7) (cond (Nat.beq pc 4) (some (.ifCond .ne 7, 7, [11])) none) (cond (Nat.blt pc 8) (cond (Nat.beq pc 7) (some (.iconst 0, 8, [])) none) (cond (Nat.beq pc 8) (some (.goto 27, 11, [35])) none)))) (cond (Nat.blt pc 14) (cond (Nat.blt pc 13) (cond (Nat.beq pc 11) (some (.bipush 15, 13, [])) none) (cond (Nat.beq pc 13) (some (.aload_n 0, 14, [])) none)) (cond (Nat.blt pc 17) (cond (Nat.beq pc 14) (some (.getfield 15, 17, [])) none) (cond (Nat.blt pc 18) (cond (Nat.beq pc 17) (some (.iconst 1, 18, [])) none) (cond (Nat.beq pc 18) (some (.isub, 19, [])) none))))) (cond (Nat.blt pc 28) (cond (Nat.blt pc 21) (cond (Nat.blt pc 20) (cond (Nat.beq pc 19) (some (.imul, 20, [])) none) (cond (Nat.beq pc 20) (some (.aload_n 0, 21, [])) none)) (cond (Nat.blt pc 24) (cond (Nat.beq pc 21) (some (.getfield 9, 24, [])) none) (cond (Nat.blt pc 25) (cond (Nat.beq pc 24) (some (.aload_n 0, 25, [])) none) (cond (Nat.beq pc 25) (some (.getfield 15, 28, [])) none)))) (cond (Nat.blt pc 31) (cond (Nat.blt pc 29) (cond (Nat.beq pc 28) (some (.iconst 1, 29, [])) none) (cond (Nat.blt pc 30) (cond (Nat.beq pc 29) (some (.isub, 30, [])) none) (cond (Nat.beq pc 30) (some (.iaload, 31, [])) none))) (cond (Nat.blt pc 34) (cond (Nat.beq pc 31) (some (.invokestatic 29, 34, [])) none) (cond (Nat.blt pc 35) (cond (Nat.beq pc 34) (some (.iadd, 35, [])) none) (cond (Nat.beq pc 35) (some (.ireturn, 36, [])) none))))))
set_option maxRecDepth 100000 in
theorem kX5_bits : okT cX5_bits tX5_bits 36 1 = true := by decide +kernel
def tX5_hasBit : Tt := tWn 25 (fun pc => cond (Nat.blt pc 12) (cond (Nat.blt pc 5) (cond (Nat.blt pc 2) (cond (Nat.blt pc 1) (cond (Nat.beq pc 0) (some (.aload_n 0, 1, [])) none) (cond (Nat.beq pc 1) (some (.iload_n 1, 2, [])) none)) (cond (Nat.blt pc 4) (cond (Nat.beq pc 2) (some (.bipush 15, 4, [])) none) (cond (Nat.beq pc 4) (some (.idiv, 5, [])) none))) (cond (Nat.blt pc 9) (cond (Nat.blt pc 8) (cond (Nat.beq pc 5) (some (.invokevirtual 33, 8, [])) none) (cond (Nat.beq pc 8) (some (.iload_n 1, 9, [])) none)) (cond (Nat.blt pc 11) (cond (Nat.beq pc 9) (some (.bipush 15, 11, [])) none) (cond (Nat.beq pc 11) (some (.irem, 12, [])) none)))) (cond (Nat.blt pc 16) (cond (Nat.blt pc 14) (cond (Nat.blt pc 13) (cond (Nat.beq pc 12) (some (.ishr, 13, [])) none) (cond (Nat.beq pc 13) (some (.iconst 2, 14, [])) none)) (cond (Nat.blt pc 15) (cond (Nat.beq pc 14) (some (.irem, 15, [])) none) (cond (Nat.beq pc 15) (some (.iconst 1, 16, [])) none))) (cond (Nat.blt pc 20) (cond (Nat.blt pc 19) (cond (Nat.beq pc 16) (some (.if_icmp .ne 7, 19, [23])) none) (cond (Nat.beq pc 19) (some (.iconst 1, 20, [])) none)) (cond (Nat.blt pc 23) (cond (Nat.beq pc 20) (some (.goto 4, 23, [24])) none) (cond (Nat.blt pc 24) (cond (Nat.beq pc 23) (some (.iconst 0, 24, [])) none) (cond (Nat.beq pc 24) (some (.ireturn, 25, [])) none))))))
set_option maxRecDepth 100000 in
theorem kX5_hasBit : okT cX5_hasBit tX5_hasBit 25 2 = true := by decide +kernel
def tX5_trailingZeros : Tt := tWn 42 (fun pc => cond (Nat.blt pc 21) (cond (Nat.blt pc 10) (cond (Nat.blt pc 3) (cond (Nat.blt pc 1) (cond (Nat.beq pc 0) (some (.iconst 0, 1, [])) none) (cond (Nat.blt pc 2) (cond (Nat.beq pc 1) (some (.istore_n 1, 2, [])) none) (cond (Nat.beq pc 2) (some (.iload_n 1, 3, [])) none))) (cond (Nat.blt pc 4) (cond (Nat.beq pc 3) (some (.aload_n 0, 4, [])) none) (cond (Nat.blt pc 7) (cond (Nat.beq pc 4) (some (.getfield 15, 7, [])) none) (cond (Nat.beq pc 7) (some (.if_icmp .ge 33, 10, [40])) none)))) (cond (Nat.blt pc 15) (cond (Nat.blt pc 11) (cond (Nat.beq pc 10) (some (.aload_n 0, 11, [])) none) (cond (Nat.blt pc 14) (cond (Nat.beq pc 11) (some (.getfield 9, 14, [])) none) (cond (Nat.beq pc 14) (some (.iload_n 1, 15, [])) none))) (cond (Nat.blt pc 16) (cond (Nat.beq pc 15) (some (.iaload, 16, [])) none) (cond (Nat.blt pc 19) (cond (Nat.beq pc 16) (some (.ifCond .eq 18, 19, [34])) none) (cond (Nat.beq pc 19) (some (.bipush 15, 21, [])) none))))) (cond (Nat.blt pc 29) (cond (Nat.blt pc 24) (cond (Nat.blt pc 22) (cond (Nat.beq pc 21) (some (.iload_n 1, 22, [])) none) (cond (Nat.blt pc 23) (cond (Nat.beq pc 22) (some (.imul, 23, [])) none) (cond (Nat.beq pc 23) (some (.aload_n 0, 24, [])) none))) (cond (Nat.blt pc 27) (cond (Nat.beq pc 24) (some (.getfield 9, 27, [])) none) (cond (Nat.blt pc 28) (cond (Nat.beq pc 27) (some (.iload_n 1, 28, [])) none) (cond (Nat.beq pc 28) (some (.iaload, 29, [])) none)))) (cond (Nat.blt pc 34) (cond (Nat.blt pc 32) (cond (Nat.beq pc 29) (some (.invokestatic 36, 32, [])) none) (cond (Nat.blt pc 33) (cond (Nat.beq pc 32) (some (.iadd, 33, [])) none) (cond (Nat.beq pc 33) (some (.ireturn, 34, [])) none))) (cond (Nat.blt pc 40) (cond (Nat.blt pc 37) (cond (Nat.beq pc 34) (some (.iinc 1 1, 37, [])) none) (cond (Nat.beq pc 37) (some (.goto (-35), 40, [2])) none)) (cond (Nat.blt pc 41) (cond (Nat.beq pc 40) (some (.iconst 0, 41, [])) none) (cond (Nat.beq pc 41) (some (.ireturn, 42, [])) none))))))
set_option maxRecDepth 100000 in
theorem kX5_trailingZeros : okT cX5_trailingZeros tX5_trailingZeros 42 2 = true := by decide +kernel
def tX5_bitsOf : Tt := tWn 8 (fun pc => cond (Nat.blt pc 3) (cond (Nat.blt pc 2) (cond (Nat.beq pc 0) (some (.bipush 32, 2, [])) none) (cond (Nat.beq pc 2) (some (.iload_n 0, 3, [])) none)) (cond (Nat.blt pc 6) (cond (Nat.beq pc 3) (some (.invokestatic 41, 6, [])) none) (cond (Nat.blt pc 7) (cond (Nat.beq pc 6) (some (.isub, 7, [])) none) (cond (Nat.beq pc 7) (some (.ireturn, 8, [])) none))))
set_option maxRecDepth 100000 in
theorem kX5_bitsOf : okT cX5_bitsOf tX5_bitsOf 8 1 = true := by decide +kernel
def tX5_timesPlus : Tt := tWn 89 (fun pc => cond (Nat.blt pc 42) (cond (Nat.blt pc 21) (cond (Nat.blt pc 8) (cond (Nat.blt pc 3) (cond (Nat.blt pc 1) (cond (Nat.beq pc 0) (some (.iload_n 2, 1, [])) none) (cond (Nat.blt pc 2) (cond (Nat.beq pc 1) (some (.istore_n 3, 2, [])) none) (cond (Nat.beq pc 2) (some (.iconst 0, 3, [])) none))) (cond (Nat.blt pc 5) (cond (Nat.beq pc 3) (some (.istore 4, 5, [])) none) (cond (Nat.blt pc 7) (cond (Nat.beq pc 5) (some (.iload 4, 7, [])) none) (cond (Nat.beq pc 7) (some (.aload_n 0, 8, [])) none)))) (cond (Nat.blt pc 15) (cond (Nat.blt pc 11) (cond (Nat.beq pc 8) (some (.getfield 15, 11, [])) none) (cond (Nat.blt pc 14) (cond (Nat.beq pc 11) (some (.if_icmp .ge 41, 14, [52])) none) (cond (Nat.beq pc 14) (some (.aload_n 0, 15, [])) none))) (cond (Nat.blt pc 18) (cond (Nat.beq pc 15) (some (.getfield 9, 18, [])) none) (cond (Nat.blt pc 20) (cond (Nat.beq pc 18) (some (.iload 4, 20, [])) none) (cond (Nat.beq pc 20) (some (.iaload, 21, [])) none))))) (cond (Nat.blt pc 28) (cond (Nat.blt pc 24) (cond (Nat.blt pc 22) (cond (Nat.beq pc 21) (some (.iload_n 1, 22, [])) none) (cond (Nat.blt pc 23) (cond (Nat.beq pc 22) (some (.imul, 23, [])) none) (cond (Nat.beq pc 23) (some (.iload_n 3, 24, [])) none))) (cond (Nat.blt pc 25) (cond (Nat.beq pc 24) (some (.iadd, 25, [])) none) (cond (Nat.blt pc 27) (cond (Nat.beq pc 25) (some (.istore 5, 27, [])) none) (cond (Nat.beq pc 27) (some (.aload_n 0, 28, [])) none)))) (cond (Nat.blt pc 35) (cond (Nat.blt pc 31) (cond (Nat.beq pc 28) (some (.getfield 9, 31, [])) none) (cond (Nat.blt pc 33) (cond (Nat.beq pc 31) (some (.iload 4, 33, [])) none) (cond (Nat.beq pc 33) (some (.iload 5, 35, [])) none))) (cond (Nat.blt pc 39) (cond (Nat.blt pc 38) (cond (Nat.beq pc 35) (some (.sipush 32767, 38, [])) none) (cond (Nat.beq pc 38) (some (.iand, 39, [])) none)) (cond (Nat.blt pc 40) (cond (Nat.beq pc 39) (some (.iastore, 40, [])) none) (cond (Nat.beq pc 40) (some (.iload 5, 42, [])) none)))))) (cond (Nat.blt pc 68) (cond (Nat.blt pc 53) (cond (Nat.blt pc 46) (cond (Nat.blt pc 44) (cond (Nat.beq pc 42) (some (.bipush 15, 44, [])) none) (cond (Nat.blt pc 45) (cond (Nat.beq pc 44) (some (.ishr, 45, [])) none) (cond (Nat.beq pc 45) (some (.istore_n 3, 46, [])) none))) (cond (Nat.blt pc 49) (cond (Nat.beq pc 46) (some (.iinc 4 1, 49, [])) none) (cond (Nat.blt pc 52) (cond (Nat.beq pc 49) (some (.goto (-44), 52, [5])) none) (cond (Nat.beq pc 52) (some (.iload_n 3, 53, [])) none)))) (cond (Nat.blt pc 60) (cond (Nat.blt pc 56) (cond (Nat.beq pc 53) (some (.ifCond .le 35, 56, [88])) none) (cond (Nat.blt pc 57) (cond (Nat.beq pc 56) (some (.aload_n 0, 57, [])) none) (cond (Nat.beq pc 57) (some (.getfield 15, 60, [])) none))) (cond (Nat.blt pc 64) (cond (Nat.blt pc 61) (cond (Nat.beq pc 60) (some (.aload_n 0, 61, [])) none) (cond (Nat.beq pc 61) (some (.getfield 9, 64, [])) none)) (cond (Nat.blt pc 65) (cond (Nat.beq pc 64) (some (.arraylength, 65, [])) none) (cond (Nat.beq pc 65) (some (.if_icmp .ge 23, 68, [88])) none))))) (cond (Nat.blt pc 78) (cond (Nat.blt pc 73) (cond (Nat.blt pc 69) (cond (Nat.beq pc 68) (some (.aload_n 0, 69, [])) none) (cond (Nat.blt pc 72) (cond (Nat.beq pc 69) (some (.getfield 9, 72, [])) none) (cond (Nat.beq pc 72) (some (.aload_n 0, 73, [])) none))) (cond (Nat.blt pc 76) (cond (Nat.beq pc 73) (some (.getfield 15, 76, [])) none) (cond (Nat.blt pc 77) (cond (Nat.beq pc 76) (some (.iload_n 3, 77, [])) none) (cond (Nat.beq pc 77) (some (.iastore, 78, [])) none)))) (cond (Nat.blt pc 83) (cond (Nat.blt pc 79) (cond (Nat.beq pc 78) (some (.aload_n 0, 79, [])) none) (cond (Nat.blt pc 80) (cond (Nat.beq pc 79) (some (.dup, 80, [])) none) (cond (Nat.beq pc 80) (some (.getfield 15, 83, [])) none))) (cond (Nat.blt pc 85) (cond (Nat.blt pc 84) (cond (Nat.beq pc 83) (some (.iconst 1, 84, [])) none) (cond (Nat.beq pc 84) (some (.iadd, 85, [])) none)) (cond (Nat.blt pc 88) (cond (Nat.beq pc 85) (some (.putfield 15, 88, [])) none) (cond (Nat.beq pc 88) (some (.return_, 89, [])) none)))))))
set_option maxRecDepth 100000 in
theorem kX5_timesPlus : okT cX5_timesPlus tX5_timesPlus 89 6 = true := by decide +kernel
def tX5_divideBy : Tt := tWn 63 (fun pc => cond (Nat.blt pc 29) (cond (Nat.blt pc 14) (cond (Nat.blt pc 7) (cond (Nat.blt pc 4) (cond (Nat.blt pc 1) (cond (Nat.beq pc 0) (some (.iload_n 1, 1, [])) none) (cond (Nat.beq pc 1) (some (.ifCond .gt 5, 4, [6])) none)) (cond (Nat.blt pc 5) (cond (Nat.beq pc 4) (some (.iconst 0, 5, [])) none) (cond (Nat.blt pc 6) (cond (Nat.beq pc 5) (some (.ireturn, 6, [])) none) (cond (Nat.beq pc 6) (some (.iconst 0, 7, [])) none)))) (cond (Nat.blt pc 9) (cond (Nat.blt pc 8) (cond (Nat.beq pc 7) (some (.istore_n 2, 8, [])) none) (cond (Nat.beq pc 8) (some (.aload_n 0, 9, [])) none)) (cond (Nat.blt pc 12) (cond (Nat.beq pc 9) (some (.getfield 15, 12, [])) none) (cond (Nat.blt pc 13) (cond (Nat.beq pc 12) (some (.iconst 1, 13, [])) none) (cond (Nat.beq pc 13) (some (.isub, 14, [])) none))))) (cond (Nat.blt pc 22) (cond (Nat.blt pc 16) (cond (Nat.blt pc 15) (cond (Nat.beq pc 14) (some (.istore_n 3, 15, [])) none) (cond (Nat.beq pc 15) (some (.iload_n 3, 16, [])) none)) (cond (Nat.blt pc 19) (cond (Nat.beq pc 16) (some (.ifCond .lt 37, 19, [53])) none) (cond (Nat.blt pc 20) (cond (Nat.beq pc 19) (some (.iload_n 2, 20, [])) none) (cond (Nat.beq pc 20) (some (.bipush 15, 22, [])) none)))) (cond (Nat.blt pc 24) (cond (Nat.blt pc 23) (cond (Nat.beq pc 22) (some (.ishl, 23, [])) none) (cond (Nat.beq pc 23) (some (.aload_n 0, 24, [])) none)) (cond (Nat.blt pc 27) (cond (Nat.beq pc 24) (some (.getfield 9, 27, [])) none) (cond (Nat.blt pc 28) (cond (Nat.beq pc 27) (some (.iload_n 3, 28, [])) none) (cond (Nat.beq pc 28) (some (.iaload, 29, [])) none)))))) (cond (Nat.blt pc 44) (cond (Nat.blt pc 37) (cond (Nat.blt pc 32) (cond (Nat.blt pc 30) (cond (Nat.beq pc 29) (some (.iadd, 30, [])) none) (cond (Nat.beq pc 30) (some (.istore 4, 32, [])) none)) (cond (Nat.blt pc 33) (cond (Nat.beq pc 32) (some (.aload_n 0, 33, [])) none) (cond (Nat.blt pc 36) (cond (Nat.beq pc 33) (some (.getfield 9, 36, [])) none) (cond (Nat.beq pc 36) (some (.iload_n 3, 37, [])) none)))) (cond (Nat.blt pc 40) (cond (Nat.blt pc 39) (cond (Nat.beq pc 37) (some (.iload 4, 39, [])) none) (cond (Nat.beq pc 39) (some (.iload_n 1, 40, [])) none)) (cond (Nat.blt pc 41) (cond (Nat.beq pc 40) (some (.idiv, 41, [])) none) (cond (Nat.blt pc 42) (cond (Nat.beq pc 41) (some (.iastore, 42, [])) none) (cond (Nat.beq pc 42) (some (.iload 4, 44, [])) none))))) (cond (Nat.blt pc 53) (cond (Nat.blt pc 46) (cond (Nat.blt pc 45) (cond (Nat.beq pc 44) (some (.iload_n 1, 45, [])) none) (cond (Nat.beq pc 45) (some (.irem, 46, [])) none)) (cond (Nat.blt pc 47) (cond (Nat.beq pc 46) (some (.istore_n 2, 47, [])) none) (cond (Nat.blt pc 50) (cond (Nat.beq pc 47) (some (.iinc 3 (-1), 50, [])) none) (cond (Nat.beq pc 50) (some (.goto (-35), 53, [15])) none)))) (cond (Nat.blt pc 58) (cond (Nat.blt pc 54) (cond (Nat.beq pc 53) (some (.aload_n 0, 54, [])) none) (cond (Nat.blt pc 55) (cond (Nat.beq pc 54) (some (.aload_n 0, 55, [])) none) (cond (Nat.beq pc 55) (some (.getfield 15, 58, [])) none))) (cond (Nat.blt pc 61) (cond (Nat.beq pc 58) (some (.invokevirtual 25, 61, [])) none) (cond (Nat.blt pc 62) (cond (Nat.beq pc 61) (some (.iload_n 2, 62, [])) none) (cond (Nat.beq pc 62) (some (.ireturn, 63, [])) none)))))))
set_option maxRecDepth 100000 in
theorem kX5_divideBy : okT cX5_divideBy tX5_divideBy 63 5 = true := by decide +kernel
def tX6_init : Tt := tWn 14 (fun pc => cond (Nat.blt pc 5) (cond (Nat.blt pc 1) (cond (Nat.beq pc 0) (some (.aload_n 0, 1, [])) none) (cond (Nat.blt pc 4) (cond (Nat.beq pc 1) (some (.invokespecial 3, 4, [])) none) (cond (Nat.beq pc 4) (some (.aload_n 0, 5, [])) none))) (cond (Nat.blt pc 10) (cond (Nat.blt pc 8) (cond (Nat.beq pc 5) (some (.sipush 1000, 8, [])) none) (cond (Nat.beq pc 8) (some (.newarray .int, 10, [])) none)) (cond (Nat.blt pc 13) (cond (Nat.beq pc 10) (some (.putfield 9, 13, [])) none) (cond (Nat.beq pc 13) (some (.return_, 14, [])) none))))
set_option maxRecDepth 100000 in
theorem kX6_init : okT cX6_init tX6_init 14 1 = true := by decide +kernel
def tX6_hasSpace : Tt := tWn 20 (fun pc => cond (Nat.blt pc 10) (cond (Nat.blt pc 5) (cond (Nat.blt pc 1) (cond (Nat.beq pc 0) (some (.aload_n 0, 1, [])) none) (cond (Nat.blt pc 4) (cond (Nat.beq pc 1) (some (.getfield 15, 4, [])) none) (cond (Nat.beq pc 4) (some (.iload_n 1, 5, [])) none))) (cond (Nat.blt pc 6) (cond (Nat.beq pc 5) (some (.iadd, 6, [])) none) (cond (Nat.blt pc 7) (cond (Nat.beq pc 6) (some (.aload_n 0, 7, [])) none) (cond (Nat.beq pc 7) (some (.getfield 9, 10, [])) none)))) (cond (Nat.blt pc 15) (cond (Nat.blt pc 11) (cond (Nat.beq pc 10) (some (.arraylength, 11, [])) none) (cond (Nat.blt pc 14) (cond (Nat.beq pc 11) (some (.if_icmp .gt 7, 14, [18])) none) (cond (Nat.beq pc 14) (some (.iconst 1, 15, [])) none))) (cond (Nat.blt pc 18) (cond (Nat.beq pc 15) (some (.goto 4, 18, [19])) none) (cond (Nat.blt pc 19) (cond (Nat.beq pc 18) (some (.iconst 0, 19, [])) none) (cond (Nat.beq pc 19) (some (.ireturn, 20, [])) none)))))
set_option maxRecDepth 100000 in
theorem kX6_hasSpace : okT cX6_hasSpace tX6_hasSpace 20 2 = true := by decide +kernel
def tX6_putBytesOf : Tt := tWn 52 (fun pc => cond (Nat.blt pc 27) (cond (Nat.blt pc 12) (cond (Nat.blt pc 4) (cond (Nat.blt pc 2) (cond (Nat.beq pc 0) (some (.bipush 24, 2, [])) none) (cond (Nat.blt pc 3) (cond (Nat.beq pc 2) (some (.istore_n 2, 3, [])) none) (cond (Nat.beq pc 3) (some (.iload_n 2, 4, [])) none))) (cond (Nat.blt pc 8) (cond (Nat.blt pc 7) (cond (Nat.beq pc 4) (some (.ifCond .lt 47, 7, [51])) none) (cond (Nat.beq pc 7) (some (.aload_n 0, 8, [])) none)) (cond (Nat.blt pc 11) (cond (Nat.beq pc 8) (some (.getfield 15, 11, [])) none) (cond (Nat.beq pc 11) (some (.aload_n 0, 12, [])) none)))) (cond (Nat.blt pc 19) (cond (Nat.blt pc 15) (cond (Nat.beq pc 12) (some (.getfield 9, 15, [])) none) (cond (Nat.blt pc 16) (cond (Nat.beq pc 15) (some (.arraylength, 16, [])) none) (cond (Nat.beq pc 16) (some (.if_icmp .ge 35, 19, [51])) none))) (cond (Nat.blt pc 23) (cond (Nat.blt pc 20) (cond (Nat.beq pc 19) (some (.aload_n 0, 20, [])) none) (cond (Nat.beq pc 20) (some (.getfield 9, 23, [])) none)) (cond (Nat.blt pc 24) (cond (Nat.beq pc 23) (some (.aload_n 0, 24, [])) none) (cond (Nat.beq pc 24) (some (.getfield 15, 27, [])) none))))) (cond (Nat.blt pc 36) (cond (Nat.blt pc 30) (cond (Nat.blt pc 28) (cond (Nat.beq pc 27) (some (.iload_n 1, 28, [])) none) (cond (Nat.blt pc 29) (cond (Nat.beq pc 28) (some (.iload_n 2, 29, [])) none) (cond (Nat.beq pc 29) (some (.ishr, 30, [])) none))) (cond (Nat.blt pc 34) (cond (Nat.blt pc 33) (cond (Nat.beq pc 30) (some (.sipush 255, 33, [])) none) (cond (Nat.beq pc 33) (some (.iand, 34, [])) none)) (cond (Nat.blt pc 35) (cond (Nat.beq pc 34) (some (.iastore, 35, [])) none) (cond (Nat.beq pc 35) (some (.aload_n 0, 36, [])) none)))) (cond (Nat.blt pc 42) (cond (Nat.blt pc 40) (cond (Nat.blt pc 37) (cond (Nat.beq pc 36) (some (.dup, 37, [])) none) (cond (Nat.beq pc 37) (some (.getfield 15, 40, [])) none)) (cond (Nat.blt pc 41) (cond (Nat.beq pc 40) (some (.iconst 1, 41, [])) none) (cond (Nat.beq pc 41) (some (.iadd, 42, [])) none))) (cond (Nat.blt pc 48) (cond (Nat.blt pc 45) (cond (Nat.beq pc 42) (some (.putfield 15, 45, [])) none) (cond (Nat.beq pc 45) (some (.iinc 2 (-8), 48, [])) none)) (cond (Nat.blt pc 51) (cond (Nat.beq pc 48) (some (.goto (-45), 51, [3])) none) (cond (Nat.beq pc 51) (some (.return_, 52, [])) none))))))
set_option maxRecDepth 100000 in
theorem kX6_putBytesOf : okT cX6_putBytesOf tX6_putBytesOf 52 3 = true := by decide +kernel
def tX6_digitsAhead : Tt := tWn 31 (fun pc => cond (Nat.blt pc 14) (cond (Nat.blt pc 4) (cond (Nat.blt pc 2) (cond (Nat.blt pc 1) (cond (Nat.beq pc 0) (some (.iconst 0, 1, [])) none) (cond (Nat.beq pc 1) (some (.istore_n 2, 2, [])) none)) (cond (Nat.blt pc 3) (cond (Nat.beq pc 2) (some (.iload_n 2, 3, [])) none) (cond (Nat.beq pc 3) (some (.aload_n 0, 4, [])) none))) (cond (Nat.blt pc 10) (cond (Nat.blt pc 7) (cond (Nat.beq pc 4) (some (.getfield 15, 7, [])) none) (cond (Nat.beq pc 7) (some (.if_icmp .ge 22, 10, [29])) none)) (cond (Nat.blt pc 11) (cond (Nat.beq pc 10) (some (.aload_n 0, 11, [])) none) (cond (Nat.beq pc 11) (some (.getfield 9, 14, [])) none)))) (cond (Nat.blt pc 20) (cond (Nat.blt pc 16) (cond (Nat.blt pc 15) (cond (Nat.beq pc 14) (some (.iload_n 2, 15, [])) none) (cond (Nat.beq pc 15) (some (.iaload, 16, [])) none)) (cond (Nat.blt pc 19) (cond (Nat.beq pc 16) (some (.invokestatic 19, 19, [])) none) (cond (Nat.beq pc 19) (some (.iload_n 1, 20, [])) none))) (cond (Nat.blt pc 26) (cond (Nat.blt pc 23) (cond (Nat.beq pc 20) (some (.if_icmp .ge 9, 23, [29])) none) (cond (Nat.beq pc 23) (some (.iinc 2 1, 26, [])) none)) (cond (Nat.blt pc 29) (cond (Nat.beq pc 26) (some (.goto (-24), 29, [2])) none) (cond (Nat.blt pc 30) (cond (Nat.beq pc 29) (some (.iload_n 2, 30, [])) none) (cond (Nat.beq pc 30) (some (.ireturn, 31, [])) none))))))
set_option maxRecDepth 100000 in
theorem kX6_digitsAhead : okT cX6_digitsAhead tX6_digitsAhead 31 3 = true := by decide +kernel
def tX6_readNumber : Tt := tWn 45 (fun pc => cond (Nat.blt pc 21) (cond (Nat.blt pc 8) (cond (Nat.blt pc 5) (cond (Nat.blt pc 1) (cond (Nat.beq pc 0) (some (.aload_n 1, 1, [])) none) (cond (Nat.blt pc 2) (cond (Nat.beq pc 1) (some (.iconst 0, 2, [])) none) (cond (Nat.beq pc 2) (some (.invokevirtual 23, 5, [])) none))) (cond (Nat.blt pc 6) (cond (Nat.beq pc 5) (some (.iconst 0, 6, [])) none) (cond (Nat.blt pc 7) (cond (Nat.beq pc 6) (some (.istore_n 3, 7, [])) none) (cond (Nat.beq pc 7) (some (.iload_n 3, 8, [])) none)))) (cond (Nat.blt pc 15) (cond (Nat.blt pc 9) (cond (Nat.beq pc 8) (some (.aload_n 0, 9, [])) none) (cond (Nat.blt pc 12) (cond (Nat.beq pc 9) (some (.getfield 15, 12, [])) none) (cond (Nat.beq pc 12) (some (.if_icmp .ge 32, 15, [44])) none))) (cond (Nat.blt pc 16) (cond (Nat.beq pc 15) (some (.aload_n 1, 16, [])) none) (cond (Nat.blt pc 19) (cond (Nat.beq pc 16) (some (.getfield 29, 19, [])) none) (cond (Nat.beq pc 19) (some (.bipush 64, 21, [])) none))))) (cond (Nat.blt pc 31) (cond (Nat.blt pc 26) (cond (Nat.blt pc 24) (cond (Nat.beq pc 21) (some (.if_icmp .gt 23, 24, [44])) none) (cond (Nat.blt pc 25) (cond (Nat.beq pc 24) (some (.aload_n 1, 25, [])) none) (cond (Nat.beq pc 25) (some (.iload_n 2, 26, [])) none))) (cond (Nat.blt pc 27) (cond (Nat.beq pc 26) (some (.aload_n 0, 27, [])) none) (cond (Nat.blt pc 30) (cond (Nat.beq pc 27) (some (.getfield 9, 30, [])) none) (cond (Nat.beq pc 30) (some (.iload_n 3, 31, [])) none)))) (cond (Nat.blt pc 38) (cond (Nat.blt pc 32) (cond (Nat.beq pc 31) (some (.iaload, 32, [])) none) (cond (Nat.blt pc 35) (cond (Nat.beq pc 32) (some (.invokestatic 19, 35, [])) none) (cond (Nat.beq pc 35) (some (.invokevirtual 32, 38, [])) none))) (cond (Nat.blt pc 41) (cond (Nat.beq pc 38) (some (.iinc 3 1, 41, [])) none) (cond (Nat.blt pc 44) (cond (Nat.beq pc 41) (some (.goto (-34), 44, [7])) none) (cond (Nat.beq pc 44) (some (.return_, 45, [])) none))))))
set_option maxRecDepth 100000 in
theorem kX6_readNumber : okT cX6_readNumber tX6_readNumber 45 4 = true := by decide +kernel
def tX6_digitOf : Tt := tWn 40 (fun pc => cond (Nat.blt pc 20) (cond (Nat.blt pc 12) (cond (Nat.blt pc 6) (cond (Nat.blt pc 1) (cond (Nat.beq pc 0) (some (.iload_n 0, 1, [])) none) (cond (Nat.blt pc 3) (cond (Nat.beq pc 1) (some (.bipush 48, 3, [])) none) (cond (Nat.beq pc 3) (some (.if_icmp .lt 14, 6, [17])) none))) (cond (Nat.blt pc 7) (cond (Nat.beq pc 6) (some (.iload_n 0, 7, [])) none) (cond (Nat.blt pc 9) (cond (Nat.beq pc 7) (some (.bipush 57, 9, [])) none) (cond (Nat.beq pc 9) (some (.if_icmp .gt 8, 12, [17])) none)))) (cond (Nat.blt pc 16) (cond (Nat.blt pc 13) (cond (Nat.beq pc 12) (some (.iload_n 0, 13, [])) none) (cond (Nat.blt pc 15) (cond (Nat.beq pc 13) (some (.bipush 48, 15, [])) none) (cond (Nat.beq pc 15) (some (.isub, 16, [])) none))) (cond (Nat.blt pc 17) (cond (Nat.beq pc 16) (some (.ireturn, 17, [])) none) (cond (Nat.blt pc 18) (cond (Nat.beq pc 17) (some (.iload_n 0, 18, [])) none) (cond (Nat.beq pc 18) (some (.bipush 97, 20, [])) none))))) (cond (Nat.blt pc 32) (cond (Nat.blt pc 26) (cond (Nat.blt pc 23) (cond (Nat.beq pc 20) (some (.if_icmp .lt 17, 23, [37])) none) (cond (Nat.blt pc 24) (cond (Nat.beq pc 23) (some (.iload_n 0, 24, [])) none) (cond (Nat.beq pc 24) (some (.bipush 122, 26, [])) none))) (cond (Nat.blt pc 29) (cond (Nat.beq pc 26) (some (.if_icmp .gt 11, 29, [37])) none) (cond (Nat.blt pc 30) (cond (Nat.beq pc 29) (some (.iload_n 0, 30, [])) none) (cond (Nat.beq pc 30) (some (.bipush 97, 32, [])) none)))) (cond (Nat.blt pc 36) (cond (Nat.blt pc 33) (cond (Nat.beq pc 32) (some (.isub, 33, [])) none) (cond (Nat.blt pc 35) (cond (Nat.beq pc 33) (some (.bipush 10, 35, [])) none) (cond (Nat.beq pc 35) (some (.iadd, 36, [])) none))) (cond (Nat.blt pc 37) (cond (Nat.beq pc 36) (some (.ireturn, 37, [])) none) (cond (Nat.blt pc 39) (cond (Nat.beq pc 37) (some (.bipush 36, 39, [])) none) (cond (Nat.beq pc 39) (some (.ireturn, 40, [])) none))))))
set_option maxRecDepth 100000 in
theorem kX6_digitOf : okT cX6_digitOf tX6_digitOf 40 1 = true := by decide +kernel
def tX7_init : Tt := tWn 140 (fun pc => cond (Nat.blt pc 69) (cond (Nat.blt pc 30) (cond (Nat.blt pc 16) (cond (Nat.blt pc 7) (cond (Nat.blt pc 4) (cond (Nat.blt pc 1) (cond (Nat.beq pc 0) (some (.aload_n 0, 1, [])) none) (cond (Nat.beq pc 1) (some (.invokespecial 1, 4, [])) none)) (cond (Nat.blt pc 5) (cond (Nat.beq pc 4) (some (.iload_n 3, 5, [])) none) (cond (Nat.beq pc 5) (some (.bipush 8, 7, [])) none))) (cond (Nat.blt pc 13) (cond (Nat.blt pc 10) (cond (Nat.beq pc 7) (some (.sipush 400, 10, [])) none) (cond (Nat.beq pc 10) (some (.invokestatic 7, 13, [])) none)) (cond (Nat.blt pc 15) (cond (Nat.beq pc 13) (some (.istore 4, 15, [])) none) (cond (Nat.beq pc 15) (some (.aload_n 0, 16, [])) none)))) (cond (Nat.blt pc 22) (cond (Nat.blt pc 20) (cond (Nat.blt pc 19) (cond (Nat.beq pc 16) (some (.new 13, 19, [])) none) (cond (Nat.beq pc 19) (some (.dup, 20, [])) none)) (cond (Nat.blt pc 21) (cond (Nat.beq pc 20) (some (.iload_n 1, 21, [])) none) (cond (Nat.beq pc 21) (some (.iconst 1, 22, [])) none))) (cond (Nat.blt pc 27) (cond (Nat.blt pc 24) (cond (Nat.beq pc 22) (some (.bipush 24, 24, [])) none) (cond (Nat.beq pc 24) (some (.invokestatic 7, 27, [])) none)) (cond (Nat.blt pc 28) (cond (Nat.beq pc 27) (some (.iload_n 2, 28, [])) none) (cond (Nat.beq pc 28) (some (.bipush 16, 30, [])) none))))) (cond (Nat.blt pc 50) (cond (Nat.blt pc 42) (cond (Nat.blt pc 36) (cond (Nat.blt pc 33) (cond (Nat.beq pc 30) (some (.sipush 800, 33, [])) none) (cond (Nat.beq pc 33) (some (.invokestatic 7, 36, [])) none)) (cond (Nat.blt pc 39) (cond (Nat.beq pc 36) (some (.invokespecial 15, 39, [])) none) (cond (Nat.beq pc 39) (some (.putfield 18, 42, [])) none))) (cond (Nat.blt pc 46) (cond (Nat.blt pc 43) (cond (Nat.beq pc 42) (some (.aload_n 0, 43, [])) none) (cond (Nat.beq pc 43) (some (.new 22, 46, [])) none)) (cond (Nat.blt pc 47) (cond (Nat.beq pc 46) (some (.dup, 47, [])) none) (cond (Nat.beq pc 47) (some (.invokespecial 24, 50, [])) none)))) (cond (Nat.blt pc 58) (cond (Nat.blt pc 54) (cond (Nat.blt pc 53) (cond (Nat.beq pc 50) (some (.putfield 25, 53, [])) none) (cond (Nat.beq pc 53) (some (.aload_n 0, 54, [])) none)) (cond (Nat.blt pc 57) (cond (Nat.beq pc 54) (some (.new 29, 57, [])) none) (cond (Nat.beq pc 57) (some (.dup, 58, [])) none))) (cond (Nat.blt pc 64) (cond (Nat.blt pc 61) (cond (Nat.beq pc 58) (some (.invokespecial 31, 61, [])) none) (cond (Nat.beq pc 61) (some (.putfield 32, 64, [])) none)) (cond (Nat.blt pc 65) (cond (Nat.beq pc 64) (some (.aload_n 0, 65, [])) none) (cond (Nat.blt pc 68) (cond (Nat.beq pc 65) (some (.new 36, 68, [])) none) (cond (Nat.beq pc 68) (some (.dup, 69, [])) none))))))) (cond (Nat.blt pc 105) (cond (Nat.blt pc 88) (cond (Nat.blt pc 79) (cond (Nat.blt pc 75) (cond (Nat.blt pc 72) (cond (Nat.beq pc 69) (some (.invokespecial 38, 72, [])) none) (cond (Nat.beq pc 72) (some (.putfield 39, 75, [])) none)) (cond (Nat.blt pc 76) (cond (Nat.beq pc 75) (some (.aload_n 0, 76, [])) none) (cond (Nat.beq pc 76) (some (.new 43, 79, [])) none))) (cond (Nat.blt pc 82) (cond (Nat.blt pc 80) (cond (Nat.beq pc 79) (some (.dup, 80, [])) none) (cond (Nat.beq pc 80) (some (.iload 4, 82, [])) none)) (cond (Nat.blt pc 85) (cond (Nat.beq pc 82) (some (.invokespecial 45, 85, [])) none) (cond (Nat.beq pc 85) (some (.putfield 48, 88, [])) none)))) (cond (Nat.blt pc 95) (cond (Nat.blt pc 92) (cond (Nat.blt pc 89) (cond (Nat.beq pc 88) (some (.aload_n 0, 89, [])) none) (cond (Nat.beq pc 89) (some (.new 52, 92, [])) none)) (cond (Nat.blt pc 93) (cond (Nat.beq pc 92) (some (.dup, 93, [])) none) (cond (Nat.beq pc 93) (some (.iload 4, 95, [])) none))) (cond (Nat.blt pc 101) (cond (Nat.blt pc 98) (cond (Nat.beq pc 95) (some (.invokespecial 54, 98, [])) none) (cond (Nat.beq pc 98) (some (.putfield 55, 101, [])) none)) (cond (Nat.blt pc 102) (cond (Nat.beq pc 101) (some (.aload_n 0, 102, [])) none) (cond (Nat.beq pc 102) (some (.new 59, 105, [])) none))))) (cond (Nat.blt pc 123) (cond (Nat.blt pc 113) (cond (Nat.blt pc 109) (cond (Nat.blt pc 106) (cond (Nat.beq pc 105) (some (.dup, 106, [])) none) (cond (Nat.beq pc 106) (some (.invokespecial 61, 109, [])) none)) (cond (Nat.blt pc 112) (cond (Nat.beq pc 109) (some (.putfield 62, 112, [])) none) (cond (Nat.beq pc 112) (some (.aload_n 0, 113, [])) none))) (cond (Nat.blt pc 117) (cond (Nat.blt pc 116) (cond (Nat.beq pc 113) (some (.new 59, 116, [])) none) (cond (Nat.beq pc 116) (some (.dup, 117, [])) none)) (cond (Nat.blt pc 120) (cond (Nat.beq pc 117) (some (.invokespecial 61, 120, [])) none) (cond (Nat.beq pc 120) (some (.putfield 66, 123, [])) none)))) (cond (Nat.blt pc 131) (cond (Nat.blt pc 127) (cond (Nat.blt pc 124) (cond (Nat.beq pc 123) (some (.aload_n 0, 124, [])) none) (cond (Nat.beq pc 124) (some (.new 59, 127, [])) none)) (cond (Nat.blt pc 128) (cond (Nat.beq pc 127) (some (.dup, 128, [])) none) (cond (Nat.beq pc 128) (some (.invokespecial 61, 131, [])) none))) (cond (Nat.blt pc 135) (cond (Nat.blt pc 134) (cond (Nat.beq pc 131) (some (.putfield 69, 134, [])) none) (cond (Nat.beq pc 134) (some (.aload_n 0, 135, [])) none)) (cond (Nat.blt pc 136) (cond (Nat.beq pc 135) (some (.iconst (-1), 136, [])) none) (cond (Nat.blt pc 139) (cond (Nat.beq pc 136) (some (.putfield 72, 139, [])) none) (cond (Nat.beq pc 139) (some (.return_, 140, [])) none))))))))
set_option maxRecDepth 100000 in
theorem kX7_init : okT cX7_init tX7_init 140 5 = true := by decide +kernel
def tX7_nearest : Tt := tWn 10 (fun pc => cond (Nat.blt pc 3) (cond (Nat.blt pc 1) (cond (Nat.beq pc 0) (some (.iload_n 1, 1, [])) none) (cond (Nat.blt pc 2) (cond (Nat.beq pc 1) (some (.iload_n 2, 2, [])) none) (cond (Nat.beq pc 2) (some (.iload_n 0, 3, [])) none))) (cond (Nat.blt pc 6) (cond (Nat.beq pc 3) (some (.invokestatic 76, 6, [])) none) (cond (Nat.blt pc 9) (cond (Nat.beq pc 6) (some (.invokestatic 82, 9, [])) none) (cond (Nat.beq pc 9) (some (.ireturn, 10, [])) none))))
set_option maxRecDepth 100000 in
theorem kX7_nearest : okT cX7_nearest tX7_nearest 10 3 = true := by decide +kernel
def tX7_isRoom : Tt := tWn 17 (fun pc => cond (Nat.blt pc 8) (cond (Nat.blt pc 2) (cond (Nat.blt pc 1) (cond (Nat.beq pc 0) (some (.iload_n 0, 1, [])) none) (cond (Nat.beq pc 1) (some (.iconst 1, 2, [])) none)) (cond (Nat.blt pc 5) (cond (Nat.beq pc 2) (some (.if_icmp .lt 13, 5, [15])) none) (cond (Nat.blt pc 6) (cond (Nat.beq pc 5) (some (.iload_n 0, 6, [])) none) (cond (Nat.beq pc 6) (some (.bipush 64, 8, [])) none)))) (cond (Nat.blt pc 12) (cond (Nat.blt pc 11) (cond (Nat.beq pc 8) (some (.if_icmp .gt 7, 11, [15])) none) (cond (Nat.beq pc 11) (some (.iconst 1, 12, [])) none)) (cond (Nat.blt pc 15) (cond (Nat.beq pc 12) (some (.goto 4, 15, [16])) none) (cond (Nat.blt pc 16) (cond (Nat.beq pc 15) (some (.iconst 0, 16, [])) none) (cond (Nat.beq pc 16) (some (.ireturn, 17, [])) none)))))
set_option maxRecDepth 100000 in
theorem kX7_isRoom : okT cX7_isRoom tX7_isRoom 17 1 = true := by decide +kernel
def tX7_isLimb : Tt := tWn 17 (fun pc => cond (Nat.blt pc 8) (cond (Nat.blt pc 4) (cond (Nat.blt pc 1) (cond (Nat.beq pc 0) (some (.iload_n 0, 1, [])) none) (cond (Nat.beq pc 1) (some (.ifCond .lt 14, 4, [15])) none)) (cond (Nat.blt pc 5) (cond (Nat.beq pc 4) (some (.iload_n 0, 5, [])) none) (cond (Nat.beq pc 5) (some (.sipush 32767, 8, [])) none))) (cond (Nat.blt pc 12) (cond (Nat.blt pc 11) (cond (Nat.beq pc 8) (some (.if_icmp .gt 7, 11, [15])) none) (cond (Nat.beq pc 11) (some (.iconst 1, 12, [])) none)) (cond (Nat.blt pc 15) (cond (Nat.beq pc 12) (some (.goto 4, 15, [16])) none) (cond (Nat.blt pc 16) (cond (Nat.beq pc 15) (some (.iconst 0, 16, [])) none) (cond (Nat.beq pc 16) (some (.ireturn, 17, [])) none)))))
set_option maxRecDepth 100000 in
theorem kX7_isLimb : okT cX7_isLimb tX7_isLimb 17 1 = true := by decide +kernel
def tX7_isBase : Tt := tWn 17 (fun pc => cond (Nat.blt pc 8) (cond (Nat.blt pc 2) (cond (Nat.blt pc 1) (cond (Nat.beq pc 0) (some (.iload_n 0, 1, [])) none) (cond (Nat.beq pc 1) (some (.iconst 2, 2, [])) none)) (cond (Nat.blt pc 5) (cond (Nat.beq pc 2) (some (.if_icmp .lt 13, 5, [15])) none) (cond (Nat.blt pc 6) (cond (Nat.beq pc 5) (some (.iload_n 0, 6, [])) none) (cond (Nat.beq pc 6) (some (.bipush 36, 8, [])) none)))) (cond (Nat.blt pc 12) (cond (Nat.blt pc 11) (cond (Nat.beq pc 8) (some (.if_icmp .gt 7, 11, [15])) none) (cond (Nat.beq pc 11) (some (.iconst 1, 12, [])) none)) (cond (Nat.blt pc 15) (cond (Nat.beq pc 12) (some (.goto 4, 15, [16])) none) (cond (Nat.blt pc 16) (cond (Nat.beq pc 15) (some (.iconst 0, 16, [])) none) (cond (Nat.beq pc 16) (some (.ireturn, 17, [])) none)))))
set_option maxRecDepth 100000 in
theorem kX7_isBase : okT cX7_isBase tX7_isBase 17 1 = true := by decide +kernel
def tX7_alloc : Tt := tWn 57 (fun pc => cond (Nat.blt pc 27) (cond (Nat.blt pc 14) (cond (Nat.blt pc 7) (cond (Nat.blt pc 1) (cond (Nat.beq pc 0) (some (.iload_n 1, 1, [])) none) (cond (Nat.blt pc 4) (cond (Nat.beq pc 1) (some (.invokestatic 85, 4, [])) none) (cond (Nat.beq pc 4) (some (.ifCond .ne 6, 7, [10])) none))) (cond (Nat.blt pc 10) (cond (Nat.blt pc 9) (cond (Nat.beq pc 7) (some (.bipush (-3), 9, [])) none) (cond (Nat.beq pc 9) (some (.ireturn, 10, [])) none)) (cond (Nat.blt pc 11) (cond (Nat.beq pc 10) (some (.aload_n 0, 11, [])) none) (cond (Nat.beq pc 11) (some (.getfield 18, 14, [])) none)))) (cond (Nat.blt pc 20) (cond (Nat.blt pc 18) (cond (Nat.blt pc 17) (cond (Nat.beq pc 14) (some (.invokevirtual 89, 17, [])) none) (cond (Nat.beq pc 17) (some (.istore_n 2, 18, [])) none)) (cond (Nat.blt pc 19) (cond (Nat.beq pc 18) (some (.iload_n 2, 19, [])) none) (cond (Nat.beq pc 19) (some (.iconst (-1), 20, [])) none))) (cond (Nat.blt pc 25) (cond (Nat.blt pc 23) (cond (Nat.beq pc 20) (some (.if_icmp .ne 6, 23, [26])) none) (cond (Nat.beq pc 23) (some (.bipush (-9), 25, [])) none)) (cond (Nat.blt pc 26) (cond (Nat.beq pc 25) (some (.ireturn, 26, [])) none) (cond (Nat.beq pc 26) (some (.aload_n 0, 27, [])) none))))) (cond (Nat.blt pc 40) (cond (Nat.blt pc 34) (cond (Nat.blt pc 30) (cond (Nat.beq pc 27) (some (.getfield 62, 30, [])) none) (cond (Nat.blt pc 31) (cond (Nat.beq pc 30) (some (.iconst 0, 31, [])) none) (cond (Nat.beq pc 31) (some (.invokevirtual 93, 34, [])) none))) (cond (Nat.blt pc 38) (cond (Nat.blt pc 35) (cond (Nat.beq pc 34) (some (.aload_n 0, 35, [])) none) (cond (Nat.beq pc 35) (some (.getfield 18, 38, [])) none)) (cond (Nat.blt pc 39) (cond (Nat.beq pc 38) (some (.iload_n 2, 39, [])) none) (cond (Nat.beq pc 39) (some (.iload_n 1, 40, [])) none)))) (cond (Nat.blt pc 50) (cond (Nat.blt pc 44) (cond (Nat.blt pc 41) (cond (Nat.beq pc 40) (some (.aload_n 0, 41, [])) none) (cond (Nat.beq pc 41) (some (.getfield 62, 44, [])) none)) (cond (Nat.blt pc 47) (cond (Nat.beq pc 44) (some (.invokevirtual 96, 47, [])) none) (cond (Nat.beq pc 47) (some (.ifCond .eq 7, 50, [54])) none))) (cond (Nat.blt pc 54) (cond (Nat.blt pc 51) (cond (Nat.beq pc 50) (some (.iload_n 2, 51, [])) none) (cond (Nat.beq pc 51) (some (.goto 5, 54, [56])) none)) (cond (Nat.blt pc 56) (cond (Nat.beq pc 54) (some (.bipush (-4), 56, [])) none) (cond (Nat.beq pc 56) (some (.ireturn, 57, [])) none))))))
set_option maxRecDepth 100000 in
theorem kX7_alloc : okT cX7_alloc tX7_alloc 57 3 = true := by decide +kernel
def tX7_release : Tt := tWn 24 (fun pc => cond (Nat.blt pc 13) (cond (Nat.blt pc 5) (cond (Nat.blt pc 1) (cond (Nat.beq pc 0) (some (.aload_n 0, 1, [])) none) (cond (Nat.blt pc 4) (cond (Nat.beq pc 1) (some (.getfield 18, 4, [])) none) (cond (Nat.beq pc 4) (some (.iload_n 1, 5, [])) none))) (cond (Nat.blt pc 8) (cond (Nat.beq pc 5) (some (.invokevirtual 100, 8, [])) none) (cond (Nat.blt pc 11) (cond (Nat.beq pc 8) (some (.ifCond .ne 6, 11, [14])) none) (cond (Nat.beq pc 11) (some (.bipush (-2), 13, [])) none)))) (cond (Nat.blt pc 18) (cond (Nat.blt pc 14) (cond (Nat.beq pc 13) (some (.ireturn, 14, [])) none) (cond (Nat.blt pc 15) (cond (Nat.beq pc 14) (some (.aload_n 0, 15, [])) none) (cond (Nat.beq pc 15) (some (.getfield 18, 18, [])) none))) (cond (Nat.blt pc 22) (cond (Nat.blt pc 19) (cond (Nat.beq pc 18) (some (.iload_n 1, 19, [])) none) (cond (Nat.beq pc 19) (some (.invokevirtual 103, 22, [])) none)) (cond (Nat.blt pc 23) (cond (Nat.beq pc 22) (some (.iconst 0, 23, [])) none) (cond (Nat.beq pc 23) (some (.ireturn, 24, [])) none)))))
set_option maxRecDepth 100000 in
theorem kX7_release : okT cX7_release tX7_release 24 2 = true := by decide +kernel
def tX7_resize : Tt := tWn 87 (fun pc => cond (Nat.blt pc 45) (cond (Nat.blt pc 22) (cond (Nat.blt pc 11) (cond (Nat.blt pc 4) (cond (Nat.blt pc 1) (cond (Nat.beq pc 0) (some (.aload_n 0, 1, [])) none) (cond (Nat.beq pc 1) (some (.getfield 18, 4, [])) none)) (cond (Nat.blt pc 5) (cond (Nat.beq pc 4) (some (.iload_n 1, 5, [])) none) (cond (Nat.blt pc 8) (cond (Nat.beq pc 5) (some (.invokevirtual 100, 8, [])) none) (cond (Nat.beq pc 8) (some (.ifCond .ne 6, 11, [14])) none)))) (cond (Nat.blt pc 15) (cond (Nat.blt pc 13) (cond (Nat.beq pc 11) (some (.bipush (-2), 13, [])) none) (cond (Nat.blt pc 14) (cond (Nat.beq pc 13) (some (.ireturn, 14, [])) none) (cond (Nat.beq pc 14) (some (.iload_n 2, 15, [])) none))) (cond (Nat.blt pc 18) (cond (Nat.beq pc 15) (some (.invokestatic 85, 18, [])) none) (cond (Nat.blt pc 21) (cond (Nat.beq pc 18) (some (.ifCond .eq 16, 21, [34])) none) (cond (Nat.beq pc 21) (some (.iload_n 2, 22, [])) none))))) (cond (Nat.blt pc 34) (cond (Nat.blt pc 29) (cond (Nat.blt pc 23) (cond (Nat.beq pc 22) (some (.aload_n 0, 23, [])) none) (cond (Nat.blt pc 26) (cond (Nat.beq pc 23) (some (.getfield 18, 26, [])) none) (cond (Nat.beq pc 26) (some (.getfield 106, 29, [])) none))) (cond (Nat.blt pc 30) (cond (Nat.beq pc 29) (some (.iload_n 1, 30, [])) none) (cond (Nat.blt pc 31) (cond (Nat.beq pc 30) (some (.iaload, 31, [])) none) (cond (Nat.beq pc 31) (some (.if_icmp .ge 6, 34, [37])) none)))) (cond (Nat.blt pc 38) (cond (Nat.blt pc 36) (cond (Nat.beq pc 34) (some (.bipush (-3), 36, [])) none) (cond (Nat.blt pc 37) (cond (Nat.beq pc 36) (some (.ireturn, 37, [])) none) (cond (Nat.beq pc 37) (some (.iload_n 2, 38, [])) none))) (cond (Nat.blt pc 39) (cond (Nat.beq pc 38) (some (.aload_n 0, 39, [])) none) (cond (Nat.blt pc 42) (cond (Nat.beq pc 39) (some (.getfield 18, 42, [])) none) (cond (Nat.beq pc 42) (some (.getfield 110, 45, [])) none)))))) (cond (Nat.blt pc 64) (cond (Nat.blt pc 52) (cond (Nat.blt pc 47) (cond (Nat.blt pc 46) (cond (Nat.beq pc 45) (some (.iload_n 1, 46, [])) none) (cond (Nat.beq pc 46) (some (.iaload, 47, [])) none)) (cond (Nat.blt pc 50) (cond (Nat.beq pc 47) (some (.if_icmp .ne 5, 50, [52])) none) (cond (Nat.blt pc 51) (cond (Nat.beq pc 50) (some (.iconst 0, 51, [])) none) (cond (Nat.beq pc 51) (some (.ireturn, 52, [])) none)))) (cond (Nat.blt pc 57) (cond (Nat.blt pc 53) (cond (Nat.beq pc 52) (some (.aload_n 0, 53, [])) none) (cond (Nat.blt pc 56) (cond (Nat.beq pc 53) (some (.getfield 18, 56, [])) none) (cond (Nat.beq pc 56) (some (.iload_n 1, 57, [])) none))) (cond (Nat.blt pc 58) (cond (Nat.beq pc 57) (some (.aload_n 0, 58, [])) none) (cond (Nat.blt pc 61) (cond (Nat.beq pc 58) (some (.getfield 62, 61, [])) none) (cond (Nat.beq pc 61) (some (.invokevirtual 113, 64, [])) none))))) (cond (Nat.blt pc 74) (cond (Nat.blt pc 69) (cond (Nat.blt pc 65) (cond (Nat.beq pc 64) (some (.aload_n 0, 65, [])) none) (cond (Nat.blt pc 68) (cond (Nat.beq pc 65) (some (.getfield 18, 68, [])) none) (cond (Nat.beq pc 68) (some (.iload_n 1, 69, [])) none))) (cond (Nat.blt pc 70) (cond (Nat.beq pc 69) (some (.iload_n 2, 70, [])) none) (cond (Nat.blt pc 71) (cond (Nat.beq pc 70) (some (.aload_n 0, 71, [])) none) (cond (Nat.beq pc 71) (some (.getfield 62, 74, [])) none)))) (cond (Nat.blt pc 81) (cond (Nat.blt pc 77) (cond (Nat.beq pc 74) (some (.invokevirtual 96, 77, [])) none) (cond (Nat.blt pc 80) (cond (Nat.beq pc 77) (some (.ifCond .eq 7, 80, [84])) none) (cond (Nat.beq pc 80) (some (.iconst 0, 81, [])) none))) (cond (Nat.blt pc 84) (cond (Nat.beq pc 81) (some (.goto 5, 84, [86])) none) (cond (Nat.blt pc 86) (cond (Nat.beq pc 84) (some (.bipush (-4), 86, [])) none) (cond (Nat.beq pc 86) (some (.ireturn, 87, [])) none)))))))
set_option maxRecDepth 100000 in
theorem kX7_resize : okT cX7_resize tX7_resize 87 3 = true := by decide +kernel
def tX7_setLimb : Tt := tWn 52 (fun pc => cond (Nat.blt pc 27) (cond (Nat.blt pc 14) (cond (Nat.blt pc 5) (cond (Nat.blt pc 1) (cond (Nat.beq pc 0) (some (.aload_n 0, 1, [])) none) (cond (Nat.blt pc 4) (cond (Nat.beq pc 1) (some (.getfield 18, 4, [])) none) (cond (Nat.beq pc 4) (some (.iload_n 1, 5, [])) none))) (cond (Nat.blt pc 11) (cond (Nat.blt pc 8) (cond (Nat.beq pc 5) (some (.invokevirtual 100, 8, [])) none) (cond (Nat.beq pc 8) (some (.ifCond .ne 6, 11, [14])) none)) (cond (Nat.blt pc 13) (cond (Nat.beq pc 11) (some (.bipush (-2), 13, [])) none) (cond (Nat.beq pc 13) (some (.ireturn, 14, [])) none)))) (cond (Nat.blt pc 19) (cond (Nat.blt pc 15) (cond (Nat.beq pc 14) (some (.iload_n 2, 15, [])) none) (cond (Nat.blt pc 18) (cond (Nat.beq pc 15) (some (.ifCond .lt 23, 18, [38])) none) (cond (Nat.beq pc 18) (some (.iload_n 2, 19, [])) none))) (cond (Nat.blt pc 23) (cond (Nat.blt pc 20) (cond (Nat.beq pc 19) (some (.aload_n 0, 20, [])) none) (cond (Nat.beq pc 20) (some (.getfield 18, 23, [])) none)) (cond (Nat.blt pc 26) (cond (Nat.beq pc 23) (some (.getfield 110, 26, [])) none) (cond (Nat.beq pc 26) (some (.iload_n 1, 27, [])) none))))) (cond (Nat.blt pc 41) (cond (Nat.blt pc 32) (cond (Nat.blt pc 28) (cond (Nat.beq pc 27) (some (.iaload, 28, [])) none) (cond (Nat.blt pc 31) (cond (Nat.beq pc 28) (some (.if_icmp .ge 10, 31, [38])) none) (cond (Nat.beq pc 31) (some (.iload_n 3, 32, [])) none))) (cond (Nat.blt pc 38) (cond (Nat.blt pc 35) (cond (Nat.beq pc 32) (some (.invokestatic 117, 35, [])) none) (cond (Nat.beq pc 35) (some (.ifCond .ne 6, 38, [41])) none)) (cond (Nat.blt pc 40) (cond (Nat.beq pc 38) (some (.bipush (-3), 40, [])) none) (cond (Nat.beq pc 40) (some (.ireturn, 41, [])) none)))) (cond (Nat.blt pc 46) (cond (Nat.blt pc 42) (cond (Nat.beq pc 41) (some (.aload_n 0, 42, [])) none) (cond (Nat.blt pc 45) (cond (Nat.beq pc 42) (some (.getfield 18, 45, [])) none) (cond (Nat.beq pc 45) (some (.iload_n 1, 46, [])) none))) (cond (Nat.blt pc 48) (cond (Nat.blt pc 47) (cond (Nat.beq pc 46) (some (.iload_n 2, 47, [])) none) (cond (Nat.beq pc 47) (some (.iload_n 3, 48, [])) none)) (cond (Nat.blt pc 51) (cond (Nat.beq pc 48) (some (.invokevirtual 120, 51, [])) none) (cond (Nat.beq pc 51) (some (.ireturn, 52, [])) none))))))
set_option maxRecDepth 100000 in
theorem kX7_setLimb : okT cX7_setLimb tX7_setLimb 52 4 = true := by decide +kernel
def tX7_limb : Tt := tWn 32 (fun pc => cond (Nat.blt pc 15) (cond (Nat.blt pc 8) (cond (Nat.blt pc 4) (cond (Nat.blt pc 1) (cond (Nat.beq pc 0) (some (.aload_n 0, 1, [])) none) (cond (Nat.beq pc 1) (some (.getfield 18, 4, [])) none)) (cond (Nat.blt pc 5) (cond (Nat.beq pc 4) (some (.iload_n 1, 5, [])) none) (cond (Nat.beq pc 5) (some (.invokevirtual 100, 8, [])) none))) (cond (Nat.blt pc 13) (cond (Nat.blt pc 11) (cond (Nat.beq pc 8) (some (.ifCond .ne 6, 11, [14])) none) (cond (Nat.beq pc 11) (some (.bipush (-2), 13, [])) none)) (cond (Nat.blt pc 14) (cond (Nat.beq pc 13) (some (.ireturn, 14, [])) none) (cond (Nat.beq pc 14) (some (.iload_n 2, 15, [])) none)))) (cond (Nat.blt pc 23) (cond (Nat.blt pc 19) (cond (Nat.blt pc 18) (cond (Nat.beq pc 15) (some (.ifCond .ge 7, 18, [22])) none) (cond (Nat.beq pc 18) (some (.iconst (-1), 19, [])) none)) (cond (Nat.blt pc 22) (cond (Nat.beq pc 19) (some (.goto 12, 22, [31])) none) (cond (Nat.beq pc 22) (some (.aload_n 0, 23, [])) none))) (cond (Nat.blt pc 27) (cond (Nat.blt pc 26) (cond (Nat.beq pc 23) (some (.getfield 18, 26, [])) none) (cond (Nat.beq pc 26) (some (.iload_n 1, 27, [])) none)) (cond (Nat.blt pc 28) (cond (Nat.beq pc 27) (some (.iload_n 2, 28, [])) none) (cond (Nat.blt pc 31) (cond (Nat.beq pc 28) (some (.invokevirtual 123, 31, [])) none) (cond (Nat.beq pc 31) (some (.ireturn, 32, [])) none))))))
set_option maxRecDepth 100000 in
theorem kX7_limb : okT cX7_limb tX7_limb 32 3 = true := by decide +kernel
def tX7_look : Tt := tWn 96 (fun pc => cond (Nat.blt pc 62) (cond (Nat.blt pc 44) (cond (Nat.blt pc 8) (cond (Nat.blt pc 4) (cond (Nat.blt pc 1) (cond (Nat.beq pc 0) (some (.aload_n 0, 1, [])) none) (cond (Nat.beq pc 1) (some (.getfield 18, 4, [])) none)) (cond (Nat.blt pc 5) (cond (Nat.beq pc 4) (some (.iload_n 1, 5, [])) none) (cond (Nat.beq pc 5) (some (.invokevirtual 100, 8, [])) none))) (cond (Nat.blt pc 13) (cond (Nat.blt pc 11) (cond (Nat.beq pc 8) (some (.ifCond .ne 6, 11, [14])) none) (cond (Nat.beq pc 11) (some (.bipush (-2), 13, [])) none)) (cond (Nat.blt pc 14) (cond (Nat.beq pc 13) (some (.ireturn, 14, [])) none) (cond (Nat.blt pc 15) (cond (Nat.beq pc 14) (some (.iload_n 2, 15, [])) none) (cond (Nat.beq pc 15) (some (.tableswitch 79 0 3 #[29, 39, 49, 59], 44, [94, 44, 54, 64, 74])) none))))) (cond (Nat.blt pc 53) (cond (Nat.blt pc 48) (cond (Nat.blt pc 45) (cond (Nat.beq pc 44) (some (.aload_n 0, 45, [])) none) (cond (Nat.beq pc 45) (some (.getfield 18, 48, [])) none)) (cond (Nat.blt pc 51) (cond (Nat.beq pc 48) (some (.getfield 106, 51, [])) none) (cond (Nat.blt pc 52) (cond (Nat.beq pc 51) (some (.iload_n 1, 52, [])) none) (cond (Nat.beq pc 52) (some (.iaload, 53, [])) none)))) (cond (Nat.blt pc 55) (cond (Nat.blt pc 54) (cond (Nat.beq pc 53) (some (.ireturn, 54, [])) none) (cond (Nat.beq pc 54) (some (.aload_n 0, 55, [])) none)) (cond (Nat.blt pc 58) (cond (Nat.beq pc 55) (some (.getfield 18, 58, [])) none) (cond (Nat.blt pc 61) (cond (Nat.beq pc 58) (some (.getfield 110, 61, [])) none) (cond (Nat.beq pc 61) (some (.iload_n 1, 62, [])) none)))))) (cond (Nat.blt pc 78) (cond (Nat.blt pc 71) (cond (Nat.blt pc 64) (cond (Nat.blt pc 63) (cond (Nat.beq pc 62) (some (.iaload, 63, [])) none) (cond (Nat.beq pc 63) (some (.ireturn, 64, [])) none)) (cond (Nat.blt pc 65) (cond (Nat.beq pc 64) (some (.aload_n 0, 65, [])) none) (cond (Nat.blt pc 68) (cond (Nat.beq pc 65) (some (.getfield 18, 68, [])) none) (cond (Nat.beq pc 68) (some (.getfield 126, 71, [])) none)))) (cond (Nat.blt pc 73) (cond (Nat.blt pc 72) (cond (Nat.beq pc 71) (some (.iload_n 1, 72, [])) none) (cond (Nat.beq pc 72) (some (.iaload, 73, [])) none)) (cond (Nat.blt pc 74) (cond (Nat.beq pc 73) (some (.ireturn, 74, [])) none) (cond (Nat.blt pc 75) (cond (Nat.beq pc 74) (some (.aload_n 0, 75, [])) none) (cond (Nat.beq pc 75) (some (.getfield 18, 78, [])) none))))) (cond (Nat.blt pc 87) (cond (Nat.blt pc 80) (cond (Nat.blt pc 79) (cond (Nat.beq pc 78) (some (.iload_n 1, 79, [])) none) (cond (Nat.beq pc 79) (some (.aload_n 0, 80, [])) none)) (cond (Nat.blt pc 83) (cond (Nat.beq pc 80) (some (.getfield 62, 83, [])) none) (cond (Nat.blt pc 86) (cond (Nat.beq pc 83) (some (.invokevirtual 113, 86, [])) none) (cond (Nat.beq pc 86) (some (.aload_n 0, 87, [])) none)))) (cond (Nat.blt pc 93) (cond (Nat.blt pc 90) (cond (Nat.beq pc 87) (some (.getfield 62, 90, [])) none) (cond (Nat.beq pc 90) (some (.invokevirtual 129, 93, [])) none)) (cond (Nat.blt pc 94) (cond (Nat.beq pc 93) (some (.ireturn, 94, [])) none) (cond (Nat.blt pc 95) (cond (Nat.beq pc 94) (some (.iconst (-1), 95, [])) none) (cond (Nat.beq pc 95) (some (.ireturn, 96, [])) none)))))))
set_option maxRecDepth 100000 in
theorem kX7_look : okT cX7_look tX7_look 96 3 = true := by decide +kernel
def tX7_about : Tt := tWn 128 (fun pc => cond (Nat.blt pc 91) (cond (Nat.blt pc 68) (cond (Nat.blt pc 59) (cond (Nat.blt pc 52) (cond (Nat.blt pc 1) (cond (Nat.beq pc 0) (some (.iload_n 1, 1, [])) none) (cond (Nat.beq pc 1) (some (.tableswitch 125 0 8 #[51, 59, 67, 75, 83, 91, 99, 108, 117], 52, [126, 52, 60, 68, 76, 84, 92, 100, 109, 118])) none)) (cond (Nat.blt pc 53) (cond (Nat.beq pc 52) (some (.aload_n 0, 53, [])) none) (cond (Nat.blt pc 56) (cond (Nat.beq pc 53) (some (.getfield 18, 56, [])) none) (cond (Nat.beq pc 56) (some (.invokevirtual 132, 59, [])) none)))) (cond (Nat.blt pc 61) (cond (Nat.blt pc 60) (cond (Nat.beq pc 59) (some (.ireturn, 60, [])) none) (cond (Nat.beq pc 60) (some (.aload_n 0, 61, [])) none)) (cond (Nat.blt pc 64) (cond (Nat.beq pc 61) (some (.getfield 18, 64, [])) none) (cond (Nat.blt pc 67) (cond (Nat.beq pc 64) (some (.invokevirtual 135, 67, [])) none) (cond (Nat.beq pc 67) (some (.ireturn, 68, [])) none))))) (cond (Nat.blt pc 77) (cond (Nat.blt pc 72) (cond (Nat.blt pc 69) (cond (Nat.beq pc 68) (some (.aload_n 0, 69, [])) none) (cond (Nat.beq pc 69) (some (.getfield 18, 72, [])) none)) (cond (Nat.blt pc 75) (cond (Nat.beq pc 72) (some (.getfield 138, 75, [])) none) (cond (Nat.blt pc 76) (cond (Nat.beq pc 75) (some (.ireturn, 76, [])) none) (cond (Nat.beq pc 76) (some (.aload_n 0, 77, [])) none)))) (cond (Nat.blt pc 84) (cond (Nat.blt pc 80) (cond (Nat.beq pc 77) (some (.getfield 18, 80, [])) none) (cond (Nat.blt pc 83) (cond (Nat.beq pc 80) (some (.invokevirtual 141, 83, [])) none) (cond (Nat.beq pc 83) (some (.ireturn, 84, [])) none))) (cond (Nat.blt pc 85) (cond (Nat.beq pc 84) (some (.aload_n 0, 85, [])) none) (cond (Nat.blt pc 88) (cond (Nat.beq pc 85) (some (.getfield 48, 88, [])) none) (cond (Nat.beq pc 88) (some (.getfield 144, 91, [])) none)))))) (cond (Nat.blt pc 109) (cond (Nat.blt pc 100) (cond (Nat.blt pc 93) (cond (Nat.blt pc 92) (cond (Nat.beq pc 91) (some (.ireturn, 92, [])) none) (cond (Nat.beq pc 92) (some (.aload_n 0, 93, [])) none)) (cond (Nat.blt pc 96) (cond (Nat.beq pc 93) (some (.getfield 18, 96, [])) none) (cond (Nat.blt pc 99) (cond (Nat.beq pc 96) (some (.getfield 147, 99, [])) none) (cond (Nat.beq pc 99) (some (.ireturn, 100, [])) none)))) (cond (Nat.blt pc 104) (cond (Nat.blt pc 101) (cond (Nat.beq pc 100) (some (.aload_n 0, 101, [])) none) (cond (Nat.beq pc 101) (some (.getfield 18, 104, [])) none)) (cond (Nat.blt pc 107) (cond (Nat.beq pc 104) (some (.getfield 150, 107, [])) none) (cond (Nat.blt pc 108) (cond (Nat.beq pc 107) (some (.arraylength, 108, [])) none) (cond (Nat.beq pc 108) (some (.ireturn, 109, [])) none))))) (cond (Nat.blt pc 118) (cond (Nat.blt pc 113) (cond (Nat.blt pc 110) (cond (Nat.beq pc 109) (some (.aload_n 0, 110, [])) none) (cond (Nat.beq pc 110) (some (.getfield 48, 113, [])) none)) (cond (Nat.blt pc 116) (cond (Nat.beq pc 113) (some (.getfield 153, 116, [])) none) (cond (Nat.blt pc 117) (cond (Nat.beq pc 116) (some (.arraylength, 117, [])) none) (cond (Nat.beq pc 117) (some (.ireturn, 118, [])) none)))) (cond (Nat.blt pc 125) (cond (Nat.blt pc 119) (cond (Nat.beq pc 118) (some (.aload_n 0, 119, [])) none) (cond (Nat.blt pc 122) (cond (Nat.beq pc 119) (some (.getfield 32, 122, [])) none) (cond (Nat.beq pc 122) (some (.getfield 156, 125, [])) none))) (cond (Nat.blt pc 126) (cond (Nat.beq pc 125) (some (.ireturn, 126, [])) none) (cond (Nat.blt pc 127) (cond (Nat.beq pc 126) (some (.iconst (-1), 127, [])) none) (cond (Nat.beq pc 127) (some (.ireturn, 128, [])) none)))))))
set_option maxRecDepth 100000 in
theorem kX7_about : okT cX7_about tX7_about 128 2 = true := by decide +kernel
def tX7_cell : Tt := tWn 9 (fun pc => cond (Nat.blt pc 4) (cond (Nat.blt pc 1) (cond (Nat.beq pc 0) (some (.aload_n 0, 1, [])) none) (cond (Nat.beq pc 1) (some (.getfield 18, 4, [])) none)) (cond (Nat.blt pc 5) (cond (Nat.beq pc 4) (some (.iload_n 1, 5, [])) none) (cond (Nat.blt pc 8) (cond (Nat.beq pc 5) (some (.invokevirtual 157, 8, [])) none) (cond (Nat.beq pc 8) (some (.ireturn, 9, [])) none))))
set_option maxRecDepth 100000 in
theorem kX7_cell : okT cX7_cell tX7_cell 9 2 = true := by decide +kernel
def tX7_add : Tt := tWn 68 (fun pc => cond (Nat.blt pc 32) (cond (Nat.blt pc 15) (cond (Nat.blt pc 6) (cond (Nat.blt pc 4) (cond (Nat.blt pc 1) (cond (Nat.beq pc 0) (some (.aload_n 0, 1, [])) none) (cond (Nat.beq pc 1) (some (.getfield 18, 4, [])) none)) (cond (Nat.blt pc 5) (cond (Nat.beq pc 4) (some (.iload_n 1, 5, [])) none) (cond (Nat.beq pc 5) (some (.iload_n 2, 6, [])) none))) (cond (Nat.blt pc 10) (cond (Nat.blt pc 7) (cond (Nat.beq pc 6) (some (.iload_n 3, 7, [])) none) (cond (Nat.beq pc 7) (some (.invokevirtual 161, 10, [])) none)) (cond (Nat.blt pc 13) (cond (Nat.beq pc 10) (some (.ifCond .ne 6, 13, [16])) none) (cond (Nat.beq pc 13) (some (.bipush (-2), 15, [])) none)))) (cond (Nat.blt pc 21) (cond (Nat.blt pc 17) (cond (Nat.blt pc 16) (cond (Nat.beq pc 15) (some (.ireturn, 16, [])) none) (cond (Nat.beq pc 16) (some (.aload_n 0, 17, [])) none)) (cond (Nat.blt pc 20) (cond (Nat.beq pc 17) (some (.getfield 18, 20, [])) none) (cond (Nat.beq pc 20) (some (.iload_n 2, 21, [])) none))) (cond (Nat.blt pc 25) (cond (Nat.blt pc 22) (cond (Nat.beq pc 21) (some (.aload_n 0, 22, [])) none) (cond (Nat.beq pc 22) (some (.getfield 62, 25, [])) none)) (cond (Nat.blt pc 28) (cond (Nat.beq pc 25) (some (.invokevirtual 113, 28, [])) none) (cond (Nat.blt pc 29) (cond (Nat.beq pc 28) (some (.aload_n 0, 29, [])) none) (cond (Nat.beq pc 29) (some (.getfield 18, 32, [])) none)))))) (cond (Nat.blt pc 49) (cond (Nat.blt pc 40) (cond (Nat.blt pc 34) (cond (Nat.blt pc 33) (cond (Nat.beq pc 32) (some (.iload_n 3, 33, [])) none) (cond (Nat.beq pc 33) (some (.aload_n 0, 34, [])) none)) (cond (Nat.blt pc 37) (cond (Nat.beq pc 34) (some (.getfield 66, 37, [])) none) (cond (Nat.beq pc 37) (some (.invokevirtual 113, 40, [])) none))) (cond (Nat.blt pc 44) (cond (Nat.blt pc 41) (cond (Nat.beq pc 40) (some (.aload_n 0, 41, [])) none) (cond (Nat.beq pc 41) (some (.getfield 69, 44, [])) none)) (cond (Nat.blt pc 45) (cond (Nat.beq pc 44) (some (.aload_n 0, 45, [])) none) (cond (Nat.blt pc 48) (cond (Nat.beq pc 45) (some (.getfield 62, 48, [])) none) (cond (Nat.beq pc 48) (some (.aload_n 0, 49, [])) none))))) (cond (Nat.blt pc 59) (cond (Nat.blt pc 55) (cond (Nat.blt pc 52) (cond (Nat.beq pc 49) (some (.getfield 66, 52, [])) none) (cond (Nat.beq pc 52) (some (.invokestatic 165, 55, [])) none)) (cond (Nat.blt pc 56) (cond (Nat.beq pc 55) (some (.aload_n 0, 56, [])) none) (cond (Nat.beq pc 56) (some (.getfield 18, 59, [])) none))) (cond (Nat.blt pc 61) (cond (Nat.blt pc 60) (cond (Nat.beq pc 59) (some (.iload_n 1, 60, [])) none) (cond (Nat.beq pc 60) (some (.aload_n 0, 61, [])) none)) (cond (Nat.blt pc 64) (cond (Nat.beq pc 61) (some (.getfield 69, 64, [])) none) (cond (Nat.blt pc 67) (cond (Nat.beq pc 64) (some (.invokevirtual 169, 67, [])) none) (cond (Nat.beq pc 67) (some (.ireturn, 68, [])) none)))))))
set_option maxRecDepth 100000 in
theorem kX7_add : okT cX7_add tX7_add 68 4 = true := by decide +kernel
def tX7_sub : Tt := tWn 85 (fun pc => cond (Nat.blt pc 40) (cond (Nat.blt pc 17) (cond (Nat.blt pc 7) (cond (Nat.blt pc 4) (cond (Nat.blt pc 1) (cond (Nat.beq pc 0) (some (.aload_n 0, 1, [])) none) (cond (Nat.beq pc 1) (some (.getfield 18, 4, [])) none)) (cond (Nat.blt pc 5) (cond (Nat.beq pc 4) (some (.iload_n 1, 5, [])) none) (cond (Nat.blt pc 6) (cond (Nat.beq pc 5) (some (.iload_n 2, 6, [])) none) (cond (Nat.beq pc 6) (some (.iload_n 3, 7, [])) none)))) (cond (Nat.blt pc 13) (cond (Nat.blt pc 10) (cond (Nat.beq pc 7) (some (.invokevirtual 161, 10, [])) none) (cond (Nat.beq pc 10) (some (.ifCond .ne 6, 13, [16])) none)) (cond (Nat.blt pc 15) (cond (Nat.beq pc 13) (some (.bipush (-2), 15, [])) none) (cond (Nat.blt pc 16) (cond (Nat.beq pc 15) (some (.ireturn, 16, [])) none) (cond (Nat.beq pc 16) (some (.aload_n 0, 17, [])) none))))) (cond (Nat.blt pc 28) (cond (Nat.blt pc 21) (cond (Nat.blt pc 20) (cond (Nat.beq pc 17) (some (.getfield 18, 20, [])) none) (cond (Nat.beq pc 20) (some (.iload_n 2, 21, [])) none)) (cond (Nat.blt pc 22) (cond (Nat.beq pc 21) (some (.aload_n 0, 22, [])) none) (cond (Nat.blt pc 25) (cond (Nat.beq pc 22) (some (.getfield 62, 25, [])) none) (cond (Nat.beq pc 25) (some (.invokevirtual 113, 28, [])) none)))) (cond (Nat.blt pc 33) (cond (Nat.blt pc 29) (cond (Nat.beq pc 28) (some (.aload_n 0, 29, [])) none) (cond (Nat.blt pc 32) (cond (Nat.beq pc 29) (some (.getfield 18, 32, [])) none) (cond (Nat.beq pc 32) (some (.iload_n 3, 33, [])) none))) (cond (Nat.blt pc 34) (cond (Nat.beq pc 33) (some (.aload_n 0, 34, [])) none) (cond (Nat.blt pc 37) (cond (Nat.beq pc 34) (some (.getfield 66, 37, [])) none) (cond (Nat.beq pc 37) (some (.invokevirtual 113, 40, [])) none)))))) (cond (Nat.blt pc 62) (cond (Nat.blt pc 51) (cond (Nat.blt pc 44) (cond (Nat.blt pc 41) (cond (Nat.beq pc 40) (some (.aload_n 0, 41, [])) none) (cond (Nat.beq pc 41) (some (.getfield 62, 44, [])) none)) (cond (Nat.blt pc 45) (cond (Nat.beq pc 44) (some (.aload_n 0, 45, [])) none) (cond (Nat.blt pc 48) (cond (Nat.beq pc 45) (some (.getfield 66, 48, [])) none) (cond (Nat.beq pc 48) (some (.invokestatic 173, 51, [])) none)))) (cond (Nat.blt pc 57) (cond (Nat.blt pc 54) (cond (Nat.beq pc 51) (some (.ifCond .ge 6, 54, [57])) none) (cond (Nat.blt pc 56) (cond (Nat.beq pc 54) (some (.bipush (-5), 56, [])) none) (cond (Nat.beq pc 56) (some (.ireturn, 57, [])) none))) (cond (Nat.blt pc 58) (cond (Nat.beq pc 57) (some (.aload_n 0, 58, [])) none) (cond (Nat.blt pc 61) (cond (Nat.beq pc 58) (some (.getfield 69, 61, [])) none) (cond (Nat.beq pc 61) (some (.aload_n 0, 62, [])) none))))) (cond (Nat.blt pc 73) (cond (Nat.blt pc 66) (cond (Nat.blt pc 65) (cond (Nat.beq pc 62) (some (.getfield 62, 65, [])) none) (cond (Nat.beq pc 65) (some (.aload_n 0, 66, [])) none)) (cond (Nat.blt pc 69) (cond (Nat.beq pc 66) (some (.getfield 66, 69, [])) none) (cond (Nat.blt pc 72) (cond (Nat.beq pc 69) (some (.invokestatic 177, 72, [])) none) (cond (Nat.beq pc 72) (some (.aload_n 0, 73, [])) none)))) (cond (Nat.blt pc 78) (cond (Nat.blt pc 76) (cond (Nat.beq pc 73) (some (.getfield 18, 76, [])) none) (cond (Nat.blt pc 77) (cond (Nat.beq pc 76) (some (.iload_n 1, 77, [])) none) (cond (Nat.beq pc 77) (some (.aload_n 0, 78, [])) none))) (cond (Nat.blt pc 81) (cond (Nat.beq pc 78) (some (.getfield 69, 81, [])) none) (cond (Nat.blt pc 84) (cond (Nat.beq pc 81) (some (.invokevirtual 169, 84, [])) none) (cond (Nat.beq pc 84) (some (.ireturn, 85, [])) none)))))))
set_option maxRecDepth 100000 in
theorem kX7_sub : okT cX7_sub tX7_sub 85 4 = true := by decide +kernel
def tX7_mul : Tt := tWn 131 (fun pc => cond (Nat.blt pc 62) (cond (Nat.blt pc 28) (cond (Nat.blt pc 15) (cond (Nat.blt pc 6) (cond (Nat.blt pc 4) (cond (Nat.blt pc 1) (cond (Nat.beq pc 0) (some (.aload_n 0, 1, [])) none) (cond (Nat.beq pc 1) (some (.getfield 18, 4, [])) none)) (cond (Nat.blt pc 5) (cond (Nat.beq pc 4) (some (.iload_n 1, 5, [])) none) (cond (Nat.beq pc 5) (some (.iload_n 2, 6, [])) none))) (cond (Nat.blt pc 10) (cond (Nat.blt pc 7) (cond (Nat.beq pc 6) (some (.iload_n 3, 7, [])) none) (cond (Nat.beq pc 7) (some (.invokevirtual 161, 10, [])) none)) (cond (Nat.blt pc 13) (cond (Nat.beq pc 10) (some (.ifCond .ne 6, 13, [16])) none) (cond (Nat.beq pc 13) (some (.bipush (-2), 15, [])) none)))) (cond (Nat.blt pc 23) (cond (Nat.blt pc 17) (cond (Nat.blt pc 16) (cond (Nat.beq pc 15) (some (.ireturn, 16, [])) none) (cond (Nat.beq pc 16) (some (.aload_n 0, 17, [])) none)) (cond (Nat.blt pc 20) (cond (Nat.beq pc 17) (some (.getfield 18, 20, [])) none) (cond (Nat.beq pc 20) (some (.getfield 106, 23, [])) none))) (cond (Nat.blt pc 25) (cond (Nat.blt pc 24) (cond (Nat.beq pc 23) (some (.iload_n 2, 24, [])) none) (cond (Nat.beq pc 24) (some (.iaload, 25, [])) none)) (cond (Nat.blt pc 27) (cond (Nat.beq pc 25) (some (.istore 4, 27, [])) none) (cond (Nat.beq pc 27) (some (.aload_n 0, 28, [])) none))))) (cond (Nat.blt pc 45) (cond (Nat.blt pc 36) (cond (Nat.blt pc 34) (cond (Nat.blt pc 31) (cond (Nat.beq pc 28) (some (.getfield 18, 31, [])) none) (cond (Nat.beq pc 31) (some (.getfield 106, 34, [])) none)) (cond (Nat.blt pc 35) (cond (Nat.beq pc 34) (some (.iload_n 3, 35, [])) none) (cond (Nat.beq pc 35) (some (.iaload, 36, [])) none))) (cond (Nat.blt pc 40) (cond (Nat.blt pc 38) (cond (Nat.beq pc 36) (some (.istore 5, 38, [])) none) (cond (Nat.beq pc 38) (some (.iload 4, 40, [])) none)) (cond (Nat.blt pc 43) (cond (Nat.beq pc 40) (some (.ifCond .le 21, 43, [61])) none) (cond (Nat.beq pc 43) (some (.iload 5, 45, [])) none)))) (cond (Nat.blt pc 53) (cond (Nat.blt pc 50) (cond (Nat.blt pc 48) (cond (Nat.beq pc 45) (some (.ifCond .le 16, 48, [61])) none) (cond (Nat.beq pc 48) (some (.iload 4, 50, [])) none)) (cond (Nat.blt pc 52) (cond (Nat.beq pc 50) (some (.iload 5, 52, [])) none) (cond (Nat.beq pc 52) (some (.iadd, 53, [])) none))) (cond (Nat.blt pc 58) (cond (Nat.blt pc 55) (cond (Nat.beq pc 53) (some (.bipush 64, 55, [])) none) (cond (Nat.beq pc 55) (some (.if_icmp .le 6, 58, [61])) none)) (cond (Nat.blt pc 60) (cond (Nat.beq pc 58) (some (.bipush (-8), 60, [])) none) (cond (Nat.blt pc 61) (cond (Nat.beq pc 60) (some (.ireturn, 61, [])) none) (cond (Nat.beq pc 61) (some (.aload_n 0, 62, [])) none))))))) (cond (Nat.blt pc 96) (cond (Nat.blt pc 79) (cond (Nat.blt pc 70) (cond (Nat.blt pc 67) (cond (Nat.blt pc 65) (cond (Nat.beq pc 62) (some (.getfield 18, 65, [])) none) (cond (Nat.beq pc 65) (some (.iload 4, 67, [])) none)) (cond (Nat.blt pc 69) (cond (Nat.beq pc 67) (some (.iload 5, 69, [])) none) (cond (Nat.beq pc 69) (some (.iadd, 70, [])) none))) (cond (Nat.blt pc 76) (cond (Nat.blt pc 73) (cond (Nat.beq pc 70) (some (.invokevirtual 180, 73, [])) none) (cond (Nat.beq pc 73) (some (.ifCond .ne 6, 76, [79])) none)) (cond (Nat.blt pc 78) (cond (Nat.beq pc 76) (some (.bipush (-4), 78, [])) none) (cond (Nat.beq pc 78) (some (.ireturn, 79, [])) none)))) (cond (Nat.blt pc 85) (cond (Nat.blt pc 83) (cond (Nat.blt pc 80) (cond (Nat.beq pc 79) (some (.aload_n 0, 80, [])) none) (cond (Nat.beq pc 80) (some (.getfield 18, 83, [])) none)) (cond (Nat.blt pc 84) (cond (Nat.beq pc 83) (some (.iload_n 2, 84, [])) none) (cond (Nat.beq pc 84) (some (.aload_n 0, 85, [])) none))) (cond (Nat.blt pc 91) (cond (Nat.blt pc 88) (cond (Nat.beq pc 85) (some (.getfield 62, 88, [])) none) (cond (Nat.beq pc 88) (some (.invokevirtual 113, 91, [])) none)) (cond (Nat.blt pc 92) (cond (Nat.beq pc 91) (some (.aload_n 0, 92, [])) none) (cond (Nat.blt pc 95) (cond (Nat.beq pc 92) (some (.getfield 18, 95, [])) none) (cond (Nat.beq pc 95) (some (.iload_n 3, 96, [])) none)))))) (cond (Nat.blt pc 112) (cond (Nat.blt pc 104) (cond (Nat.blt pc 100) (cond (Nat.blt pc 97) (cond (Nat.beq pc 96) (some (.aload_n 0, 97, [])) none) (cond (Nat.beq pc 97) (some (.getfield 66, 100, [])) none)) (cond (Nat.blt pc 103) (cond (Nat.beq pc 100) (some (.invokevirtual 113, 103, [])) none) (cond (Nat.beq pc 103) (some (.aload_n 0, 104, [])) none))) (cond (Nat.blt pc 108) (cond (Nat.blt pc 107) (cond (Nat.beq pc 104) (some (.getfield 69, 107, [])) none) (cond (Nat.beq pc 107) (some (.aload_n 0, 108, [])) none)) (cond (Nat.blt pc 111) (cond (Nat.beq pc 108) (some (.getfield 62, 111, [])) none) (cond (Nat.beq pc 111) (some (.aload_n 0, 112, [])) none)))) (cond (Nat.blt pc 122) (cond (Nat.blt pc 118) (cond (Nat.blt pc 115) (cond (Nat.beq pc 112) (some (.getfield 66, 115, [])) none) (cond (Nat.beq pc 115) (some (.invokestatic 183, 118, [])) none)) (cond (Nat.blt pc 119) (cond (Nat.beq pc 118) (some (.aload_n 0, 119, [])) none) (cond (Nat.beq pc 119) (some (.getfield 18, 122, [])) none))) (cond (Nat.blt pc 124) (cond (Nat.blt pc 123) (cond (Nat.beq pc 122) (some (.iload_n 1, 123, [])) none) (cond (Nat.beq pc 123) (some (.aload_n 0, 124, [])) none)) (cond (Nat.blt pc 127) (cond (Nat.beq pc 124) (some (.getfield 69, 127, [])) none) (cond (Nat.blt pc 130) (cond (Nat.beq pc 127) (some (.invokevirtual 169, 130, [])) none) (cond (Nat.beq pc 130) (some (.ireturn, 131, [])) none))))))))
set_option maxRecDepth 100000 in
theorem kX7_mul : okT cX7_mul tX7_mul 131 6 = true := by decide +kernel
def tX7_divmod : Tt := tWn 179 (fun pc => cond (Nat.blt pc 87) (cond (Nat.blt pc 46) (cond (Nat.blt pc 21) (cond (Nat.blt pc 9) (cond (Nat.blt pc 2) (cond (Nat.blt pc 1) (cond (Nat.beq pc 0) (some (.aload_n 0, 1, [])) none) (cond (Nat.beq pc 1) (some (.iload_n 1, 2, [])) none)) (cond (Nat.blt pc 5) (cond (Nat.beq pc 2) (some (.invokevirtual 186, 5, [])) none) (cond (Nat.blt pc 8) (cond (Nat.beq pc 5) (some (.ifCond .eq 34, 8, [39])) none) (cond (Nat.beq pc 8) (some (.aload_n 0, 9, [])) none)))) (cond (Nat.blt pc 16) (cond (Nat.blt pc 10) (cond (Nat.beq pc 9) (some (.iload_n 2, 10, [])) none) (cond (Nat.blt pc 13) (cond (Nat.beq pc 10) (some (.invokevirtual 186, 13, [])) none) (cond (Nat.beq pc 13) (some (.ifCond .eq 26, 16, [39])) none))) (cond (Nat.blt pc 17) (cond (Nat.beq pc 16) (some (.aload_n 0, 17, [])) none) (cond (Nat.blt pc 20) (cond (Nat.beq pc 17) (some (.getfield 18, 20, [])) none) (cond (Nat.beq pc 20) (some (.iload_n 3, 21, [])) none))))) (cond (Nat.blt pc 33) (cond (Nat.blt pc 27) (cond (Nat.blt pc 24) (cond (Nat.beq pc 21) (some (.invokevirtual 100, 24, [])) none) (cond (Nat.beq pc 24) (some (.ifCond .eq 15, 27, [39])) none)) (cond (Nat.blt pc 28) (cond (Nat.beq pc 27) (some (.aload_n 0, 28, [])) none) (cond (Nat.blt pc 31) (cond (Nat.beq pc 28) (some (.getfield 18, 31, [])) none) (cond (Nat.beq pc 31) (some (.iload 4, 33, [])) none)))) (cond (Nat.blt pc 41) (cond (Nat.blt pc 36) (cond (Nat.beq pc 33) (some (.invokevirtual 100, 36, [])) none) (cond (Nat.blt pc 39) (cond (Nat.beq pc 36) (some (.ifCond .ne 6, 39, [42])) none) (cond (Nat.beq pc 39) (some (.bipush (-2), 41, [])) none))) (cond (Nat.blt pc 42) (cond (Nat.beq pc 41) (some (.ireturn, 42, [])) none) (cond (Nat.blt pc 43) (cond (Nat.beq pc 42) (some (.aload_n 0, 43, [])) none) (cond (Nat.beq pc 43) (some (.getfield 18, 46, [])) none)))))) (cond (Nat.blt pc 67) (cond (Nat.blt pc 54) (cond (Nat.blt pc 50) (cond (Nat.blt pc 49) (cond (Nat.beq pc 46) (some (.getfield 106, 49, [])) none) (cond (Nat.beq pc 49) (some (.iload_n 3, 50, [])) none)) (cond (Nat.blt pc 51) (cond (Nat.beq pc 50) (some (.iaload, 51, [])) none) (cond (Nat.blt pc 53) (cond (Nat.beq pc 51) (some (.istore 5, 53, [])) none) (cond (Nat.beq pc 53) (some (.aload_n 0, 54, [])) none)))) (cond (Nat.blt pc 62) (cond (Nat.blt pc 57) (cond (Nat.beq pc 54) (some (.getfield 18, 57, [])) none) (cond (Nat.blt pc 60) (cond (Nat.beq pc 57) (some (.getfield 106, 60, [])) none) (cond (Nat.beq pc 60) (some (.iload 4, 62, [])) none))) (cond (Nat.blt pc 63) (cond (Nat.beq pc 62) (some (.iaload, 63, [])) none) (cond (Nat.blt pc 65) (cond (Nat.beq pc 63) (some (.istore 6, 65, [])) none) (cond (Nat.beq pc 65) (some (.iload 6, 67, [])) none))))) (cond (Nat.blt pc 78) (cond (Nat.blt pc 73) (cond (Nat.blt pc 70) (cond (Nat.beq pc 67) (some (.ifCond .ne 6, 70, [73])) none) (cond (Nat.blt pc 72) (cond (Nat.beq pc 70) (some (.bipush (-6), 72, [])) none) (cond (Nat.beq pc 72) (some (.ireturn, 73, [])) none))) (cond (Nat.blt pc 74) (cond (Nat.beq pc 73) (some (.iload_n 1, 74, [])) none) (cond (Nat.blt pc 75) (cond (Nat.beq pc 74) (some (.iload_n 2, 75, [])) none) (cond (Nat.beq pc 75) (some (.if_icmp .ne 11, 78, [86])) none)))) (cond (Nat.blt pc 83) (cond (Nat.blt pc 79) (cond (Nat.beq pc 78) (some (.iload_n 1, 79, [])) none) (cond (Nat.blt pc 80) (cond (Nat.beq pc 79) (some (.iconst (-1), 80, [])) none) (cond (Nat.beq pc 80) (some (.if_icmp .eq 6, 83, [86])) none))) (cond (Nat.blt pc 85) (cond (Nat.beq pc 83) (some (.bipush (-7), 85, [])) none) (cond (Nat.blt pc 86) (cond (Nat.beq pc 85) (some (.ireturn, 86, [])) none) (cond (Nat.beq pc 86) (some (.aload_n 0, 87, [])) none))))))) (cond (Nat.blt pc 133) (cond (Nat.blt pc 112) (cond (Nat.blt pc 97) (cond (Nat.blt pc 92) (cond (Nat.blt pc 90) (cond (Nat.beq pc 87) (some (.getfield 18, 90, [])) none) (cond (Nat.beq pc 90) (some (.iload 5, 92, [])) none)) (cond (Nat.blt pc 93) (cond (Nat.beq pc 92) (some (.iconst 1, 93, [])) none) (cond (Nat.blt pc 94) (cond (Nat.beq pc 93) (some (.iadd, 94, [])) none) (cond (Nat.beq pc 94) (some (.invokevirtual 180, 97, [])) none)))) (cond (Nat.blt pc 104) (cond (Nat.blt pc 100) (cond (Nat.beq pc 97) (some (.ifCond .eq 32, 100, [129])) none) (cond (Nat.blt pc 101) (cond (Nat.beq pc 100) (some (.aload_n 0, 101, [])) none) (cond (Nat.beq pc 101) (some (.getfield 18, 104, [])) none))) (cond (Nat.blt pc 106) (cond (Nat.beq pc 104) (some (.iload 6, 106, [])) none) (cond (Nat.blt pc 109) (cond (Nat.beq pc 106) (some (.invokevirtual 180, 109, [])) none) (cond (Nat.beq pc 109) (some (.ifCond .eq 20, 112, [129])) none))))) (cond (Nat.blt pc 122) (cond (Nat.blt pc 118) (cond (Nat.blt pc 113) (cond (Nat.beq pc 112) (some (.aload_n 0, 113, [])) none) (cond (Nat.blt pc 116) (cond (Nat.beq pc 113) (some (.getfield 18, 116, [])) none) (cond (Nat.beq pc 116) (some (.iload 5, 118, [])) none))) (cond (Nat.blt pc 120) (cond (Nat.beq pc 118) (some (.iload 6, 120, [])) none) (cond (Nat.blt pc 121) (cond (Nat.beq pc 120) (some (.isub, 121, [])) none) (cond (Nat.beq pc 121) (some (.iconst 1, 122, [])) none)))) (cond (Nat.blt pc 129) (cond (Nat.blt pc 123) (cond (Nat.beq pc 122) (some (.iadd, 123, [])) none) (cond (Nat.blt pc 126) (cond (Nat.beq pc 123) (some (.invokevirtual 180, 126, [])) none) (cond (Nat.beq pc 126) (some (.ifCond .ne 6, 129, [132])) none))) (cond (Nat.blt pc 131) (cond (Nat.beq pc 129) (some (.bipush (-4), 131, [])) none) (cond (Nat.blt pc 132) (cond (Nat.beq pc 131) (some (.ireturn, 132, [])) none) (cond (Nat.beq pc 132) (some (.aload_n 0, 133, [])) none)))))) (cond (Nat.blt pc 157) (cond (Nat.blt pc 144) (cond (Nat.blt pc 137) (cond (Nat.blt pc 136) (cond (Nat.beq pc 133) (some (.getfield 18, 136, [])) none) (cond (Nat.beq pc 136) (some (.iload_n 3, 137, [])) none)) (cond (Nat.blt pc 138) (cond (Nat.beq pc 137) (some (.aload_n 0, 138, [])) none) (cond (Nat.blt pc 141) (cond (Nat.beq pc 138) (some (.getfield 62, 141, [])) none) (cond (Nat.beq pc 141) (some (.invokevirtual 113, 144, [])) none)))) (cond (Nat.blt pc 150) (cond (Nat.blt pc 145) (cond (Nat.beq pc 144) (some (.aload_n 0, 145, [])) none) (cond (Nat.blt pc 148) (cond (Nat.beq pc 145) (some (.getfield 18, 148, [])) none) (cond (Nat.beq pc 148) (some (.iload 4, 150, [])) none))) (cond (Nat.blt pc 151) (cond (Nat.beq pc 150) (some (.aload_n 0, 151, [])) none) (cond (Nat.blt pc 154) (cond (Nat.beq pc 151) (some (.getfield 66, 154, [])) none) (cond (Nat.beq pc 154) (some (.invokevirtual 113, 157, [])) none))))) (cond (Nat.blt pc 169) (cond (Nat.blt pc 162) (cond (Nat.blt pc 158) (cond (Nat.beq pc 157) (some (.aload_n 0, 158, [])) none) (cond (Nat.blt pc 161) (cond (Nat.beq pc 158) (some (.getfield 25, 161, [])) none) (cond (Nat.beq pc 161) (some (.aload_n 0, 162, [])) none))) (cond (Nat.blt pc 165) (cond (Nat.beq pc 162) (some (.getfield 62, 165, [])) none) (cond (Nat.blt pc 166) (cond (Nat.beq pc 165) (some (.aload_n 0, 166, [])) none) (cond (Nat.beq pc 166) (some (.getfield 66, 169, [])) none)))) (cond (Nat.blt pc 174) (cond (Nat.blt pc 172) (cond (Nat.beq pc 169) (some (.invokevirtual 189, 172, [])) none) (cond (Nat.blt pc 173) (cond (Nat.beq pc 172) (some (.aload_n 0, 173, [])) none) (cond (Nat.beq pc 173) (some (.iload_n 1, 174, [])) none))) (cond (Nat.blt pc 175) (cond (Nat.beq pc 174) (some (.iload_n 2, 175, [])) none) (cond (Nat.blt pc 178) (cond (Nat.beq pc 175) (some (.invokevirtual 193, 178, [])) none) (cond (Nat.beq pc 178) (some (.ireturn, 179, [])) none))))))))
set_option maxRecDepth 100000 in
theorem kX7_divmod : okT cX7_divmod tX7_divmod 179 7 = true := by decide +kernel
def tX7_isLiveOrNone : Tt := tWn 22 (fun pc => cond (Nat.blt pc 10) (cond (Nat.blt pc 5) (cond (Nat.blt pc 1) (cond (Nat.beq pc 0) (some (.iload_n 1, 1, [])) none) (cond (Nat.blt pc 2) (cond (Nat.beq pc 1) (some (.iconst (-1), 2, [])) none) (cond (Nat.beq pc 2) (some (.if_icmp .eq 14, 5, [16])) none))) (cond (Nat.blt pc 6) (cond (Nat.beq pc 5) (some (.aload_n 0, 6, [])) none) (cond (Nat.blt pc 9) (cond (Nat.beq pc 6) (some (.getfield 18, 9, [])) none) (cond (Nat.beq pc 9) (some (.iload_n 1, 10, [])) none)))) (cond (Nat.blt pc 17) (cond (Nat.blt pc 13) (cond (Nat.beq pc 10) (some (.invokevirtual 100, 13, [])) none) (cond (Nat.blt pc 16) (cond (Nat.beq pc 13) (some (.ifCond .eq 7, 16, [20])) none) (cond (Nat.beq pc 16) (some (.iconst 1, 17, [])) none))) (cond (Nat.blt pc 20) (cond (Nat.beq pc 17) (some (.goto 4, 20, [21])) none) (cond (Nat.blt pc 21) (cond (Nat.beq pc 20) (some (.iconst 0, 21, [])) none) (cond (Nat.beq pc 21) (some (.ireturn, 22, [])) none)))))
set_option maxRecDepth 100000 in
theorem kX7_isLiveOrNone : okT cX7_isLiveOrNone tX7_isLiveOrNone 22 2 = true := by decide +kernel
def tX7_bringBoth : Tt := tWn 129 (fun pc => cond (Nat.blt pc 64) (cond (Nat.blt pc 31) (cond (Nat.blt pc 17) (cond (Nat.blt pc 8) (cond (Nat.blt pc 4) (cond (Nat.blt pc 1) (cond (Nat.beq pc 0) (some (.aload_n 0, 1, [])) none) (cond (Nat.beq pc 1) (some (.getfield 25, 4, [])) none)) (cond (Nat.blt pc 7) (cond (Nat.beq pc 4) (some (.getfield 196, 7, [])) none) (cond (Nat.beq pc 7) (some (.astore_n 3, 8, [])) none))) (cond (Nat.blt pc 12) (cond (Nat.blt pc 9) (cond (Nat.beq pc 8) (some (.aload_n 0, 9, [])) none) (cond (Nat.beq pc 9) (some (.getfield 25, 12, [])) none)) (cond (Nat.blt pc 15) (cond (Nat.beq pc 12) (some (.getfield 199, 15, [])) none) (cond (Nat.beq pc 15) (some (.astore 4, 17, [])) none)))) (cond (Nat.blt pc 23) (cond (Nat.blt pc 19) (cond (Nat.blt pc 18) (cond (Nat.beq pc 17) (some (.iload_n 1, 18, [])) none) (cond (Nat.beq pc 18) (some (.iconst (-1), 19, [])) none)) (cond (Nat.blt pc 22) (cond (Nat.beq pc 19) (some (.if_icmp .ne 7, 22, [26])) none) (cond (Nat.beq pc 22) (some (.iconst (-1), 23, [])) none))) (cond (Nat.blt pc 27) (cond (Nat.blt pc 26) (cond (Nat.beq pc 23) (some (.goto 15, 26, [38])) none) (cond (Nat.beq pc 26) (some (.aload_n 0, 27, [])) none)) (cond (Nat.blt pc 30) (cond (Nat.beq pc 27) (some (.getfield 18, 30, [])) none) (cond (Nat.beq pc 30) (some (.iload_n 1, 31, [])) none))))) (cond (Nat.blt pc 49) (cond (Nat.blt pc 40) (cond (Nat.blt pc 35) (cond (Nat.blt pc 32) (cond (Nat.beq pc 31) (some (.aload_n 3, 32, [])) none) (cond (Nat.beq pc 32) (some (.getfield 202, 35, [])) none)) (cond (Nat.blt pc 38) (cond (Nat.beq pc 35) (some (.invokevirtual 205, 38, [])) none) (cond (Nat.beq pc 38) (some (.istore 5, 40, [])) none))) (cond (Nat.blt pc 44) (cond (Nat.blt pc 42) (cond (Nat.beq pc 40) (some (.iload 5, 42, [])) none) (cond (Nat.beq pc 42) (some (.bipush (-4), 44, [])) none)) (cond (Nat.blt pc 47) (cond (Nat.beq pc 44) (some (.if_icmp .ne 6, 47, [50])) none) (cond (Nat.beq pc 47) (some (.bipush (-4), 49, [])) none)))) (cond (Nat.blt pc 55) (cond (Nat.blt pc 51) (cond (Nat.blt pc 50) (cond (Nat.beq pc 49) (some (.ireturn, 50, [])) none) (cond (Nat.beq pc 50) (some (.iload_n 2, 51, [])) none)) (cond (Nat.blt pc 52) (cond (Nat.beq pc 51) (some (.iconst (-1), 52, [])) none) (cond (Nat.beq pc 52) (some (.if_icmp .ne 7, 55, [59])) none))) (cond (Nat.blt pc 59) (cond (Nat.blt pc 56) (cond (Nat.beq pc 55) (some (.iconst (-1), 56, [])) none) (cond (Nat.beq pc 56) (some (.goto 16, 59, [72])) none)) (cond (Nat.blt pc 60) (cond (Nat.beq pc 59) (some (.aload_n 0, 60, [])) none) (cond (Nat.blt pc 63) (cond (Nat.beq pc 60) (some (.getfield 18, 63, [])) none) (cond (Nat.beq pc 63) (some (.iload_n 2, 64, [])) none))))))) (cond (Nat.blt pc 96) (cond (Nat.blt pc 83) (cond (Nat.blt pc 74) (cond (Nat.blt pc 69) (cond (Nat.blt pc 66) (cond (Nat.beq pc 64) (some (.aload 4, 66, [])) none) (cond (Nat.beq pc 66) (some (.getfield 202, 69, [])) none)) (cond (Nat.blt pc 72) (cond (Nat.beq pc 69) (some (.invokevirtual 205, 72, [])) none) (cond (Nat.beq pc 72) (some (.istore 6, 74, [])) none))) (cond (Nat.blt pc 78) (cond (Nat.blt pc 76) (cond (Nat.beq pc 74) (some (.iload 6, 76, [])) none) (cond (Nat.beq pc 76) (some (.bipush (-4), 78, [])) none)) (cond (Nat.blt pc 81) (cond (Nat.beq pc 78) (some (.if_icmp .ne 6, 81, [84])) none) (cond (Nat.beq pc 81) (some (.bipush (-4), 83, [])) none)))) (cond (Nat.blt pc 89) (cond (Nat.blt pc 85) (cond (Nat.blt pc 84) (cond (Nat.beq pc 83) (some (.ireturn, 84, [])) none) (cond (Nat.beq pc 84) (some (.iload_n 1, 85, [])) none)) (cond (Nat.blt pc 86) (cond (Nat.beq pc 85) (some (.iconst (-1), 86, [])) none) (cond (Nat.beq pc 86) (some (.if_icmp .eq 14, 89, [100])) none))) (cond (Nat.blt pc 93) (cond (Nat.blt pc 90) (cond (Nat.beq pc 89) (some (.aload_n 0, 90, [])) none) (cond (Nat.beq pc 90) (some (.getfield 18, 93, [])) none)) (cond (Nat.blt pc 94) (cond (Nat.beq pc 93) (some (.iload_n 1, 94, [])) none) (cond (Nat.beq pc 94) (some (.iload 5, 96, [])) none))))) (cond (Nat.blt pc 110) (cond (Nat.blt pc 102) (cond (Nat.blt pc 100) (cond (Nat.blt pc 97) (cond (Nat.beq pc 96) (some (.aload_n 3, 97, [])) none) (cond (Nat.beq pc 97) (some (.invokevirtual 208, 100, [])) none)) (cond (Nat.blt pc 101) (cond (Nat.beq pc 100) (some (.iload_n 2, 101, [])) none) (cond (Nat.beq pc 101) (some (.iconst (-1), 102, [])) none))) (cond (Nat.blt pc 106) (cond (Nat.blt pc 105) (cond (Nat.beq pc 102) (some (.if_icmp .eq 15, 105, [117])) none) (cond (Nat.beq pc 105) (some (.aload_n 0, 106, [])) none)) (cond (Nat.blt pc 109) (cond (Nat.beq pc 106) (some (.getfield 18, 109, [])) none) (cond (Nat.beq pc 109) (some (.iload_n 2, 110, [])) none)))) (cond (Nat.blt pc 118) (cond (Nat.blt pc 114) (cond (Nat.blt pc 112) (cond (Nat.beq pc 110) (some (.iload 6, 112, [])) none) (cond (Nat.beq pc 112) (some (.aload 4, 114, [])) none)) (cond (Nat.blt pc 117) (cond (Nat.beq pc 114) (some (.invokevirtual 208, 117, [])) none) (cond (Nat.beq pc 117) (some (.aload_n 0, 118, [])) none))) (cond (Nat.blt pc 124) (cond (Nat.blt pc 121) (cond (Nat.beq pc 118) (some (.getfield 18, 121, [])) none) (cond (Nat.beq pc 121) (some (.invokevirtual 212, 124, [])) none)) (cond (Nat.blt pc 125) (cond (Nat.beq pc 124) (some (.aload_n 3, 125, [])) none) (cond (Nat.blt pc 128) (cond (Nat.beq pc 125) (some (.getfield 202, 128, [])) none) (cond (Nat.beq pc 128) (some (.ireturn, 129, [])) none))))))))
set_option maxRecDepth 100000 in
theorem kX7_bringBoth : okT cX7_bringBoth tX7_bringBoth 129 7 = true := by decide +kernel
def tX7_powmod : Tt := tWn 183 (fun pc => cond (Nat.blt pc 88) (cond (Nat.blt pc 43) (cond (Nat.blt pc 22) (cond (Nat.blt pc 7) (cond (Nat.blt pc 4) (cond (Nat.blt pc 1) (cond (Nat.beq pc 0) (some (.aload_n 0, 1, [])) none) (cond (Nat.beq pc 1) (some (.getfield 18, 4, [])) none)) (cond (Nat.blt pc 5) (cond (Nat.beq pc 4) (some (.iload_n 1, 5, [])) none) (cond (Nat.blt pc 6) (cond (Nat.beq pc 5) (some (.iload_n 2, 6, [])) none) (cond (Nat.beq pc 6) (some (.iload_n 3, 7, [])) none)))) (cond (Nat.blt pc 14) (cond (Nat.blt pc 10) (cond (Nat.beq pc 7) (some (.invokevirtual 161, 10, [])) none) (cond (Nat.blt pc 13) (cond (Nat.beq pc 10) (some (.ifCond .eq 15, 13, [25])) none) (cond (Nat.beq pc 13) (some (.aload_n 0, 14, [])) none))) (cond (Nat.blt pc 17) (cond (Nat.beq pc 14) (some (.getfield 18, 17, [])) none) (cond (Nat.blt pc 19) (cond (Nat.beq pc 17) (some (.iload 4, 19, [])) none) (cond (Nat.beq pc 19) (some (.invokevirtual 100, 22, [])) none))))) (cond (Nat.blt pc 32) (cond (Nat.blt pc 27) (cond (Nat.blt pc 25) (cond (Nat.beq pc 22) (some (.ifCond .ne 6, 25, [28])) none) (cond (Nat.beq pc 25) (some (.bipush (-2), 27, [])) none)) (cond (Nat.blt pc 28) (cond (Nat.beq pc 27) (some (.ireturn, 28, [])) none) (cond (Nat.blt pc 29) (cond (Nat.beq pc 28) (some (.aload_n 0, 29, [])) none) (cond (Nat.beq pc 29) (some (.getfield 18, 32, [])) none)))) (cond (Nat.blt pc 37) (cond (Nat.blt pc 35) (cond (Nat.beq pc 32) (some (.getfield 106, 35, [])) none) (cond (Nat.blt pc 36) (cond (Nat.beq pc 35) (some (.iload_n 2, 36, [])) none) (cond (Nat.beq pc 36) (some (.iaload, 37, [])) none))) (cond (Nat.blt pc 39) (cond (Nat.beq pc 37) (some (.istore 5, 39, [])) none) (cond (Nat.blt pc 40) (cond (Nat.beq pc 39) (some (.aload_n 0, 40, [])) none) (cond (Nat.beq pc 40) (some (.getfield 18, 43, [])) none)))))) (cond (Nat.blt pc 64) (cond (Nat.blt pc 53) (cond (Nat.blt pc 48) (cond (Nat.blt pc 46) (cond (Nat.beq pc 43) (some (.getfield 106, 46, [])) none) (cond (Nat.beq pc 46) (some (.iload 4, 48, [])) none)) (cond (Nat.blt pc 49) (cond (Nat.beq pc 48) (some (.iaload, 49, [])) none) (cond (Nat.blt pc 51) (cond (Nat.beq pc 49) (some (.istore 6, 51, [])) none) (cond (Nat.beq pc 51) (some (.iload 6, 53, [])) none)))) (cond (Nat.blt pc 59) (cond (Nat.blt pc 56) (cond (Nat.beq pc 53) (some (.ifCond .ne 6, 56, [59])) none) (cond (Nat.blt pc 58) (cond (Nat.beq pc 56) (some (.bipush (-6), 58, [])) none) (cond (Nat.beq pc 58) (some (.ireturn, 59, [])) none))) (cond (Nat.blt pc 61) (cond (Nat.beq pc 59) (some (.iload 5, 61, [])) none) (cond (Nat.blt pc 62) (cond (Nat.beq pc 61) (some (.iconst 2, 62, [])) none) (cond (Nat.beq pc 62) (some (.iload 6, 64, [])) none))))) (cond (Nat.blt pc 73) (cond (Nat.blt pc 69) (cond (Nat.blt pc 65) (cond (Nat.beq pc 64) (some (.imul, 65, [])) none) (cond (Nat.blt pc 68) (cond (Nat.beq pc 65) (some (.invokestatic 82, 68, [])) none) (cond (Nat.beq pc 68) (some (.iconst 1, 69, [])) none))) (cond (Nat.blt pc 70) (cond (Nat.beq pc 69) (some (.iadd, 70, [])) none) (cond (Nat.blt pc 72) (cond (Nat.beq pc 70) (some (.istore 7, 72, [])) none) (cond (Nat.beq pc 72) (some (.aload_n 0, 73, [])) none)))) (cond (Nat.blt pc 81) (cond (Nat.blt pc 76) (cond (Nat.beq pc 73) (some (.getfield 18, 76, [])) none) (cond (Nat.blt pc 78) (cond (Nat.beq pc 76) (some (.iload 6, 78, [])) none) (cond (Nat.beq pc 78) (some (.invokevirtual 180, 81, [])) none))) (cond (Nat.blt pc 84) (cond (Nat.beq pc 81) (some (.ifCond .eq 27, 84, [108])) none) (cond (Nat.blt pc 85) (cond (Nat.beq pc 84) (some (.aload_n 0, 85, [])) none) (cond (Nat.beq pc 85) (some (.getfield 18, 88, [])) none))))))) (cond (Nat.blt pc 135) (cond (Nat.blt pc 112) (cond (Nat.blt pc 100) (cond (Nat.blt pc 93) (cond (Nat.blt pc 90) (cond (Nat.beq pc 88) (some (.iload 6, 90, [])) none) (cond (Nat.beq pc 90) (some (.invokevirtual 180, 93, [])) none)) (cond (Nat.blt pc 96) (cond (Nat.beq pc 93) (some (.ifCond .eq 15, 96, [108])) none) (cond (Nat.blt pc 97) (cond (Nat.beq pc 96) (some (.aload_n 0, 97, [])) none) (cond (Nat.beq pc 97) (some (.getfield 18, 100, [])) none)))) (cond (Nat.blt pc 108) (cond (Nat.blt pc 102) (cond (Nat.beq pc 100) (some (.iload 7, 102, [])) none) (cond (Nat.blt pc 105) (cond (Nat.beq pc 102) (some (.invokevirtual 180, 105, [])) none) (cond (Nat.beq pc 105) (some (.ifCond .ne 6, 108, [111])) none))) (cond (Nat.blt pc 110) (cond (Nat.beq pc 108) (some (.bipush (-4), 110, [])) none) (cond (Nat.blt pc 111) (cond (Nat.beq pc 110) (some (.ireturn, 111, [])) none) (cond (Nat.beq pc 111) (some (.aload_n 0, 112, [])) none))))) (cond (Nat.blt pc 123) (cond (Nat.blt pc 116) (cond (Nat.blt pc 115) (cond (Nat.beq pc 112) (some (.getfield 18, 115, [])) none) (cond (Nat.beq pc 115) (some (.iload_n 2, 116, [])) none)) (cond (Nat.blt pc 117) (cond (Nat.beq pc 116) (some (.aload_n 0, 117, [])) none) (cond (Nat.blt pc 120) (cond (Nat.beq pc 117) (some (.getfield 62, 120, [])) none) (cond (Nat.beq pc 120) (some (.invokevirtual 113, 123, [])) none)))) (cond (Nat.blt pc 128) (cond (Nat.blt pc 124) (cond (Nat.beq pc 123) (some (.aload_n 0, 124, [])) none) (cond (Nat.blt pc 127) (cond (Nat.beq pc 124) (some (.getfield 18, 127, [])) none) (cond (Nat.beq pc 127) (some (.iload_n 3, 128, [])) none))) (cond (Nat.blt pc 129) (cond (Nat.beq pc 128) (some (.aload_n 0, 129, [])) none) (cond (Nat.blt pc 132) (cond (Nat.beq pc 129) (some (.getfield 66, 132, [])) none) (cond (Nat.beq pc 132) (some (.invokevirtual 113, 135, [])) none)))))) (cond (Nat.blt pc 157) (cond (Nat.blt pc 145) (cond (Nat.blt pc 139) (cond (Nat.blt pc 136) (cond (Nat.beq pc 135) (some (.aload_n 0, 136, [])) none) (cond (Nat.beq pc 136) (some (.getfield 18, 139, [])) none)) (cond (Nat.blt pc 141) (cond (Nat.beq pc 139) (some (.iload 4, 141, [])) none) (cond (Nat.blt pc 142) (cond (Nat.beq pc 141) (some (.aload_n 0, 142, [])) none) (cond (Nat.beq pc 142) (some (.getfield 69, 145, [])) none)))) (cond (Nat.blt pc 152) (cond (Nat.blt pc 148) (cond (Nat.beq pc 145) (some (.invokevirtual 113, 148, [])) none) (cond (Nat.blt pc 149) (cond (Nat.beq pc 148) (some (.aload_n 0, 149, [])) none) (cond (Nat.beq pc 149) (some (.getfield 25, 152, [])) none))) (cond (Nat.blt pc 153) (cond (Nat.beq pc 152) (some (.aload_n 0, 153, [])) none) (cond (Nat.blt pc 156) (cond (Nat.beq pc 153) (some (.getfield 62, 156, [])) none) (cond (Nat.beq pc 156) (some (.aload_n 0, 157, [])) none))))) (cond (Nat.blt pc 171) (cond (Nat.blt pc 164) (cond (Nat.blt pc 160) (cond (Nat.beq pc 157) (some (.getfield 66, 160, [])) none) (cond (Nat.blt pc 161) (cond (Nat.beq pc 160) (some (.aload_n 0, 161, [])) none) (cond (Nat.beq pc 161) (some (.getfield 69, 164, [])) none))) (cond (Nat.blt pc 167) (cond (Nat.beq pc 164) (some (.invokevirtual 215, 167, [])) none) (cond (Nat.blt pc 168) (cond (Nat.beq pc 167) (some (.aload_n 0, 168, [])) none) (cond (Nat.beq pc 168) (some (.getfield 18, 171, [])) none)))) (cond (Nat.blt pc 176) (cond (Nat.blt pc 172) (cond (Nat.beq pc 171) (some (.iload_n 1, 172, [])) none) (cond (Nat.blt pc 173) (cond (Nat.beq pc 172) (some (.aload_n 0, 173, [])) none) (cond (Nat.beq pc 173) (some (.getfield 25, 176, [])) none))) (cond (Nat.blt pc 179) (cond (Nat.beq pc 176) (some (.getfield 218, 179, [])) none) (cond (Nat.blt pc 182) (cond (Nat.beq pc 179) (some (.invokevirtual 169, 182, [])) none) (cond (Nat.beq pc 182) (some (.ireturn, 183, [])) none))))))))
set_option maxRecDepth 100000 in
theorem kX7_powmod : okT cX7_powmod tX7_powmod 183 8 = true := by decide +kernel
def tX7_gcd : Tt := tWn 107 (fun pc => cond (Nat.blt pc 51) (cond (Nat.blt pc 22) (cond (Nat.blt pc 10) (cond (Nat.blt pc 5) (cond (Nat.blt pc 1) (cond (Nat.beq pc 0) (some (.aload_n 0, 1, [])) none) (cond (Nat.blt pc 4) (cond (Nat.beq pc 1) (some (.getfield 18, 4, [])) none) (cond (Nat.beq pc 4) (some (.iload_n 1, 5, [])) none))) (cond (Nat.blt pc 6) (cond (Nat.beq pc 5) (some (.iload_n 2, 6, [])) none) (cond (Nat.blt pc 7) (cond (Nat.beq pc 6) (some (.iload_n 3, 7, [])) none) (cond (Nat.beq pc 7) (some (.invokevirtual 161, 10, [])) none)))) (cond (Nat.blt pc 16) (cond (Nat.blt pc 13) (cond (Nat.beq pc 10) (some (.ifCond .ne 6, 13, [16])) none) (cond (Nat.blt pc 15) (cond (Nat.beq pc 13) (some (.bipush (-2), 15, [])) none) (cond (Nat.beq pc 15) (some (.ireturn, 16, [])) none))) (cond (Nat.blt pc 20) (cond (Nat.blt pc 17) (cond (Nat.beq pc 16) (some (.aload_n 0, 17, [])) none) (cond (Nat.beq pc 17) (some (.getfield 18, 20, [])) none)) (cond (Nat.blt pc 21) (cond (Nat.beq pc 20) (some (.iconst 2, 21, [])) none) (cond (Nat.beq pc 21) (some (.aload_n 0, 22, [])) none))))) (cond (Nat.blt pc 37) (cond (Nat.blt pc 29) (cond (Nat.blt pc 25) (cond (Nat.beq pc 22) (some (.getfield 18, 25, [])) none) (cond (Nat.blt pc 28) (cond (Nat.beq pc 25) (some (.getfield 106, 28, [])) none) (cond (Nat.beq pc 28) (some (.iload_n 2, 29, [])) none))) (cond (Nat.blt pc 31) (cond (Nat.blt pc 30) (cond (Nat.beq pc 29) (some (.iaload, 30, [])) none) (cond (Nat.beq pc 30) (some (.aload_n 0, 31, [])) none)) (cond (Nat.blt pc 34) (cond (Nat.beq pc 31) (some (.getfield 18, 34, [])) none) (cond (Nat.beq pc 34) (some (.getfield 106, 37, [])) none)))) (cond (Nat.blt pc 42) (cond (Nat.blt pc 38) (cond (Nat.beq pc 37) (some (.iload_n 3, 38, [])) none) (cond (Nat.blt pc 39) (cond (Nat.beq pc 38) (some (.iaload, 39, [])) none) (cond (Nat.beq pc 39) (some (.invokestatic 82, 42, [])) none))) (cond (Nat.blt pc 46) (cond (Nat.blt pc 43) (cond (Nat.beq pc 42) (some (.imul, 43, [])) none) (cond (Nat.beq pc 43) (some (.invokevirtual 180, 46, [])) none)) (cond (Nat.blt pc 49) (cond (Nat.beq pc 46) (some (.ifCond .ne 6, 49, [52])) none) (cond (Nat.beq pc 49) (some (.bipush (-4), 51, [])) none)))))) (cond (Nat.blt pc 77) (cond (Nat.blt pc 64) (cond (Nat.blt pc 56) (cond (Nat.blt pc 52) (cond (Nat.beq pc 51) (some (.ireturn, 52, [])) none) (cond (Nat.blt pc 53) (cond (Nat.beq pc 52) (some (.aload_n 0, 53, [])) none) (cond (Nat.beq pc 53) (some (.getfield 18, 56, [])) none))) (cond (Nat.blt pc 58) (cond (Nat.blt pc 57) (cond (Nat.beq pc 56) (some (.iload_n 2, 57, [])) none) (cond (Nat.beq pc 57) (some (.aload_n 0, 58, [])) none)) (cond (Nat.blt pc 61) (cond (Nat.beq pc 58) (some (.getfield 62, 61, [])) none) (cond (Nat.beq pc 61) (some (.invokevirtual 113, 64, [])) none)))) (cond (Nat.blt pc 69) (cond (Nat.blt pc 65) (cond (Nat.beq pc 64) (some (.aload_n 0, 65, [])) none) (cond (Nat.blt pc 68) (cond (Nat.beq pc 65) (some (.getfield 18, 68, [])) none) (cond (Nat.beq pc 68) (some (.iload_n 3, 69, [])) none))) (cond (Nat.blt pc 73) (cond (Nat.blt pc 70) (cond (Nat.beq pc 69) (some (.aload_n 0, 70, [])) none) (cond (Nat.beq pc 70) (some (.getfield 66, 73, [])) none)) (cond (Nat.blt pc 76) (cond (Nat.beq pc 73) (some (.invokevirtual 113, 76, [])) none) (cond (Nat.beq pc 76) (some (.aload_n 0, 77, [])) none))))) (cond (Nat.blt pc 92) (cond (Nat.blt pc 84) (cond (Nat.blt pc 80) (cond (Nat.beq pc 77) (some (.getfield 25, 80, [])) none) (cond (Nat.blt pc 81) (cond (Nat.beq pc 80) (some (.aload_n 0, 81, [])) none) (cond (Nat.beq pc 81) (some (.getfield 62, 84, [])) none))) (cond (Nat.blt pc 88) (cond (Nat.blt pc 85) (cond (Nat.beq pc 84) (some (.aload_n 0, 85, [])) none) (cond (Nat.beq pc 85) (some (.getfield 66, 88, [])) none)) (cond (Nat.blt pc 91) (cond (Nat.beq pc 88) (some (.invokevirtual 221, 91, [])) none) (cond (Nat.beq pc 91) (some (.aload_n 0, 92, [])) none)))) (cond (Nat.blt pc 97) (cond (Nat.blt pc 95) (cond (Nat.beq pc 92) (some (.getfield 18, 95, [])) none) (cond (Nat.blt pc 96) (cond (Nat.beq pc 95) (some (.iload_n 1, 96, [])) none) (cond (Nat.beq pc 96) (some (.aload_n 0, 97, [])) none))) (cond (Nat.blt pc 103) (cond (Nat.blt pc 100) (cond (Nat.beq pc 97) (some (.getfield 25, 100, [])) none) (cond (Nat.beq pc 100) (some (.getfield 218, 103, [])) none)) (cond (Nat.blt pc 106) (cond (Nat.beq pc 103) (some (.invokevirtual 169, 106, [])) none) (cond (Nat.beq pc 106) (some (.ireturn, 107, [])) none)))))))
set_option maxRecDepth 100000 in
theorem kX7_gcd : okT cX7_gcd tX7_gcd 107 4 = true := by decide +kernel
def tX7_root : Tt := tWn 81 (fun pc => cond (Nat.blt pc 36) (cond (Nat.blt pc 17) (cond (Nat.blt pc 7) (cond (Nat.blt pc 4) (cond (Nat.blt pc 1) (cond (Nat.beq pc 0) (some (.aload_n 0, 1, [])) none) (cond (Nat.beq pc 1) (some (.getfield 18, 4, [])) none)) (cond (Nat.blt pc 5) (cond (Nat.beq pc 4) (some (.iload_n 1, 5, [])) none) (cond (Nat.blt pc 6) (cond (Nat.beq pc 5) (some (.iload_n 2, 6, [])) none) (cond (Nat.beq pc 6) (some (.iload_n 2, 7, [])) none)))) (cond (Nat.blt pc 13) (cond (Nat.blt pc 10) (cond (Nat.beq pc 7) (some (.invokevirtual 161, 10, [])) none) (cond (Nat.beq pc 10) (some (.ifCond .ne 6, 13, [16])) none)) (cond (Nat.blt pc 15) (cond (Nat.beq pc 13) (some (.bipush (-2), 15, [])) none) (cond (Nat.blt pc 16) (cond (Nat.beq pc 15) (some (.ireturn, 16, [])) none) (cond (Nat.beq pc 16) (some (.aload_n 0, 17, [])) none))))) (cond (Nat.blt pc 28) (cond (Nat.blt pc 21) (cond (Nat.blt pc 20) (cond (Nat.beq pc 17) (some (.getfield 18, 20, [])) none) (cond (Nat.beq pc 20) (some (.iconst 3, 21, [])) none)) (cond (Nat.blt pc 22) (cond (Nat.beq pc 21) (some (.aload_n 0, 22, [])) none) (cond (Nat.blt pc 25) (cond (Nat.beq pc 22) (some (.getfield 18, 25, [])) none) (cond (Nat.beq pc 25) (some (.getfield 106, 28, [])) none)))) (cond (Nat.blt pc 31) (cond (Nat.blt pc 29) (cond (Nat.beq pc 28) (some (.iload_n 2, 29, [])) none) (cond (Nat.blt pc 30) (cond (Nat.beq pc 29) (some (.iaload, 30, [])) none) (cond (Nat.beq pc 30) (some (.iconst 1, 31, [])) none))) (cond (Nat.blt pc 32) (cond (Nat.beq pc 31) (some (.iadd, 32, [])) none) (cond (Nat.blt pc 33) (cond (Nat.beq pc 32) (some (.imul, 33, [])) none) (cond (Nat.beq pc 33) (some (.invokevirtual 180, 36, [])) none)))))) (cond (Nat.blt pc 58) (cond (Nat.blt pc 46) (cond (Nat.blt pc 41) (cond (Nat.blt pc 39) (cond (Nat.beq pc 36) (some (.ifCond .ne 6, 39, [42])) none) (cond (Nat.beq pc 39) (some (.bipush (-4), 41, [])) none)) (cond (Nat.blt pc 42) (cond (Nat.beq pc 41) (some (.ireturn, 42, [])) none) (cond (Nat.blt pc 43) (cond (Nat.beq pc 42) (some (.aload_n 0, 43, [])) none) (cond (Nat.beq pc 43) (some (.getfield 18, 46, [])) none)))) (cond (Nat.blt pc 51) (cond (Nat.blt pc 47) (cond (Nat.beq pc 46) (some (.iload_n 2, 47, [])) none) (cond (Nat.blt pc 48) (cond (Nat.beq pc 47) (some (.aload_n 0, 48, [])) none) (cond (Nat.beq pc 48) (some (.getfield 62, 51, [])) none))) (cond (Nat.blt pc 54) (cond (Nat.beq pc 51) (some (.invokevirtual 113, 54, [])) none) (cond (Nat.blt pc 55) (cond (Nat.beq pc 54) (some (.aload_n 0, 55, [])) none) (cond (Nat.beq pc 55) (some (.getfield 25, 58, [])) none))))) (cond (Nat.blt pc 69) (cond (Nat.blt pc 62) (cond (Nat.blt pc 59) (cond (Nat.beq pc 58) (some (.aload_n 0, 59, [])) none) (cond (Nat.beq pc 59) (some (.getfield 62, 62, [])) none)) (cond (Nat.blt pc 65) (cond (Nat.beq pc 62) (some (.invokevirtual 224, 65, [])) none) (cond (Nat.blt pc 66) (cond (Nat.beq pc 65) (some (.aload_n 0, 66, [])) none) (cond (Nat.beq pc 66) (some (.getfield 18, 69, [])) none)))) (cond (Nat.blt pc 74) (cond (Nat.blt pc 70) (cond (Nat.beq pc 69) (some (.iload_n 1, 70, [])) none) (cond (Nat.blt pc 71) (cond (Nat.beq pc 70) (some (.aload_n 0, 71, [])) none) (cond (Nat.beq pc 71) (some (.getfield 25, 74, [])) none))) (cond (Nat.blt pc 77) (cond (Nat.beq pc 74) (some (.getfield 218, 77, [])) none) (cond (Nat.blt pc 80) (cond (Nat.beq pc 77) (some (.invokevirtual 169, 80, [])) none) (cond (Nat.beq pc 80) (some (.ireturn, 81, [])) none)))))))
set_option maxRecDepth 100000 in
theorem kX7_root : okT cX7_root tX7_root 81 3 = true := by decide +kernel
def tX7_shift : Tt := tWn 90 (fun pc => cond (Nat.blt pc 45) (cond (Nat.blt pc 20) (cond (Nat.blt pc 7) (cond (Nat.blt pc 4) (cond (Nat.blt pc 1) (cond (Nat.beq pc 0) (some (.aload_n 0, 1, [])) none) (cond (Nat.beq pc 1) (some (.getfield 18, 4, [])) none)) (cond (Nat.blt pc 5) (cond (Nat.beq pc 4) (some (.iload_n 1, 5, [])) none) (cond (Nat.blt pc 6) (cond (Nat.beq pc 5) (some (.iload_n 2, 6, [])) none) (cond (Nat.beq pc 6) (some (.iload_n 2, 7, [])) none)))) (cond (Nat.blt pc 15) (cond (Nat.blt pc 10) (cond (Nat.beq pc 7) (some (.invokevirtual 161, 10, [])) none) (cond (Nat.blt pc 13) (cond (Nat.beq pc 10) (some (.ifCond .ne 6, 13, [16])) none) (cond (Nat.beq pc 13) (some (.bipush (-2), 15, [])) none))) (cond (Nat.blt pc 16) (cond (Nat.beq pc 15) (some (.ireturn, 16, [])) none) (cond (Nat.blt pc 17) (cond (Nat.beq pc 16) (some (.iload_n 3, 17, [])) none) (cond (Nat.beq pc 17) (some (.sipush (-960), 20, [])) none))))) (cond (Nat.blt pc 33) (cond (Nat.blt pc 27) (cond (Nat.blt pc 23) (cond (Nat.beq pc 20) (some (.if_icmp .lt 10, 23, [30])) none) (cond (Nat.blt pc 24) (cond (Nat.beq pc 23) (some (.iload_n 3, 24, [])) none) (cond (Nat.beq pc 24) (some (.sipush 960, 27, [])) none))) (cond (Nat.blt pc 30) (cond (Nat.beq pc 27) (some (.if_icmp .le 6, 30, [33])) none) (cond (Nat.blt pc 32) (cond (Nat.beq pc 30) (some (.bipush (-3), 32, [])) none) (cond (Nat.beq pc 32) (some (.ireturn, 33, [])) none)))) (cond (Nat.blt pc 38) (cond (Nat.blt pc 34) (cond (Nat.beq pc 33) (some (.aload_n 0, 34, [])) none) (cond (Nat.blt pc 37) (cond (Nat.beq pc 34) (some (.getfield 18, 37, [])) none) (cond (Nat.beq pc 37) (some (.iload_n 2, 38, [])) none))) (cond (Nat.blt pc 39) (cond (Nat.beq pc 38) (some (.aload_n 0, 39, [])) none) (cond (Nat.blt pc 42) (cond (Nat.beq pc 39) (some (.getfield 62, 42, [])) none) (cond (Nat.beq pc 42) (some (.invokevirtual 113, 45, [])) none)))))) (cond (Nat.blt pc 66) (cond (Nat.blt pc 54) (cond (Nat.blt pc 49) (cond (Nat.blt pc 46) (cond (Nat.beq pc 45) (some (.iload_n 3, 46, [])) none) (cond (Nat.beq pc 46) (some (.ifCond .ge 19, 49, [65])) none)) (cond (Nat.blt pc 50) (cond (Nat.beq pc 49) (some (.aload_n 0, 50, [])) none) (cond (Nat.blt pc 53) (cond (Nat.beq pc 50) (some (.getfield 66, 53, [])) none) (cond (Nat.beq pc 53) (some (.aload_n 0, 54, [])) none)))) (cond (Nat.blt pc 59) (cond (Nat.blt pc 57) (cond (Nat.beq pc 54) (some (.getfield 62, 57, [])) none) (cond (Nat.blt pc 58) (cond (Nat.beq pc 57) (some (.iload_n 3, 58, [])) none) (cond (Nat.beq pc 58) (some (.ineg, 59, [])) none))) (cond (Nat.blt pc 62) (cond (Nat.beq pc 59) (some (.invokestatic 228, 62, [])) none) (cond (Nat.blt pc 65) (cond (Nat.beq pc 62) (some (.goto 15, 65, [77])) none) (cond (Nat.beq pc 65) (some (.aload_n 0, 66, [])) none))))) (cond (Nat.blt pc 78) (cond (Nat.blt pc 73) (cond (Nat.blt pc 69) (cond (Nat.beq pc 66) (some (.getfield 66, 69, [])) none) (cond (Nat.blt pc 70) (cond (Nat.beq pc 69) (some (.aload_n 0, 70, [])) none) (cond (Nat.beq pc 70) (some (.getfield 62, 73, [])) none))) (cond (Nat.blt pc 74) (cond (Nat.beq pc 73) (some (.iload_n 3, 74, [])) none) (cond (Nat.blt pc 77) (cond (Nat.beq pc 74) (some (.invokestatic 232, 77, [])) none) (cond (Nat.beq pc 77) (some (.aload_n 0, 78, [])) none)))) (cond (Nat.blt pc 83) (cond (Nat.blt pc 81) (cond (Nat.beq pc 78) (some (.getfield 18, 81, [])) none) (cond (Nat.blt pc 82) (cond (Nat.beq pc 81) (some (.iload_n 1, 82, [])) none) (cond (Nat.beq pc 82) (some (.aload_n 0, 83, [])) none))) (cond (Nat.blt pc 86) (cond (Nat.beq pc 83) (some (.getfield 66, 86, [])) none) (cond (Nat.blt pc 89) (cond (Nat.beq pc 86) (some (.invokevirtual 169, 89, [])) none) (cond (Nat.beq pc 89) (some (.ireturn, 90, [])) none)))))))
set_option maxRecDepth 100000 in
theorem kX7_shift : okT cX7_shift tX7_shift 90 4 = true := by decide +kernel
def tX7_compare : Tt := tWn 54 (fun pc => cond (Nat.blt pc 25) (cond (Nat.blt pc 13) (cond (Nat.blt pc 5) (cond (Nat.blt pc 1) (cond (Nat.beq pc 0) (some (.aload_n 0, 1, [])) none) (cond (Nat.blt pc 4) (cond (Nat.beq pc 1) (some (.getfield 18, 4, [])) none) (cond (Nat.beq pc 4) (some (.iload_n 1, 5, [])) none))) (cond (Nat.blt pc 7) (cond (Nat.blt pc 6) (cond (Nat.beq pc 5) (some (.iload_n 2, 6, [])) none) (cond (Nat.beq pc 6) (some (.iload_n 2, 7, [])) none)) (cond (Nat.blt pc 10) (cond (Nat.beq pc 7) (some (.invokevirtual 161, 10, [])) none) (cond (Nat.beq pc 10) (some (.ifCond .ne 6, 13, [16])) none)))) (cond (Nat.blt pc 17) (cond (Nat.blt pc 15) (cond (Nat.beq pc 13) (some (.bipush (-2), 15, [])) none) (cond (Nat.blt pc 16) (cond (Nat.beq pc 15) (some (.ireturn, 16, [])) none) (cond (Nat.beq pc 16) (some (.aload_n 0, 17, [])) none))) (cond (Nat.blt pc 21) (cond (Nat.blt pc 20) (cond (Nat.beq pc 17) (some (.getfield 18, 20, [])) none) (cond (Nat.beq pc 20) (some (.iload_n 1, 21, [])) none)) (cond (Nat.blt pc 22) (cond (Nat.beq pc 21) (some (.aload_n 0, 22, [])) none) (cond (Nat.beq pc 22) (some (.getfield 62, 25, [])) none))))) (cond (Nat.blt pc 40) (cond (Nat.blt pc 32) (cond (Nat.blt pc 28) (cond (Nat.beq pc 25) (some (.invokevirtual 113, 28, [])) none) (cond (Nat.blt pc 29) (cond (Nat.beq pc 28) (some (.aload_n 0, 29, [])) none) (cond (Nat.beq pc 29) (some (.getfield 18, 32, [])) none))) (cond (Nat.blt pc 34) (cond (Nat.blt pc 33) (cond (Nat.beq pc 32) (some (.iload_n 2, 33, [])) none) (cond (Nat.beq pc 33) (some (.aload_n 0, 34, [])) none)) (cond (Nat.blt pc 37) (cond (Nat.beq pc 34) (some (.getfield 66, 37, [])) none) (cond (Nat.beq pc 37) (some (.invokevirtual 113, 40, [])) none)))) (cond (Nat.blt pc 48) (cond (Nat.blt pc 44) (cond (Nat.blt pc 41) (cond (Nat.beq pc 40) (some (.aload_n 0, 41, [])) none) (cond (Nat.beq pc 41) (some (.getfield 62, 44, [])) none)) (cond (Nat.blt pc 45) (cond (Nat.beq pc 44) (some (.aload_n 0, 45, [])) none) (cond (Nat.beq pc 45) (some (.getfield 66, 48, [])) none))) (cond (Nat.blt pc 52) (cond (Nat.blt pc 51) (cond (Nat.beq pc 48) (some (.invokestatic 173, 51, [])) none) (cond (Nat.beq pc 51) (some (.iconst 1, 52, [])) none)) (cond (Nat.blt pc 53) (cond (Nat.beq pc 52) (some (.iadd, 53, [])) none) (cond (Nat.beq pc 53) (some (.ireturn, 54, [])) none))))))
set_option maxRecDepth 100000 in
theorem kX7_compare : okT cX7_compare tX7_compare 54 3 = true := by decide +kernel
def tX7_jacobi : Tt := tWn 123 (fun pc => cond (Nat.blt pc 60) (cond (Nat.blt pc 27) (cond (Nat.blt pc 15) (cond (Nat.blt pc 6) (cond (Nat.blt pc 4) (cond (Nat.blt pc 1) (cond (Nat.beq pc 0) (some (.aload_n 0, 1, [])) none) (cond (Nat.beq pc 1) (some (.getfield 18, 4, [])) none)) (cond (Nat.blt pc 5) (cond (Nat.beq pc 4) (some (.iload_n 1, 5, [])) none) (cond (Nat.beq pc 5) (some (.iload_n 2, 6, [])) none))) (cond (Nat.blt pc 10) (cond (Nat.blt pc 7) (cond (Nat.beq pc 6) (some (.iload_n 2, 7, [])) none) (cond (Nat.beq pc 7) (some (.invokevirtual 161, 10, [])) none)) (cond (Nat.blt pc 13) (cond (Nat.beq pc 10) (some (.ifCond .ne 6, 13, [16])) none) (cond (Nat.beq pc 13) (some (.bipush (-2), 15, [])) none)))) (cond (Nat.blt pc 21) (cond (Nat.blt pc 17) (cond (Nat.blt pc 16) (cond (Nat.beq pc 15) (some (.ireturn, 16, [])) none) (cond (Nat.beq pc 16) (some (.aload_n 0, 17, [])) none)) (cond (Nat.blt pc 20) (cond (Nat.beq pc 17) (some (.getfield 18, 20, [])) none) (cond (Nat.beq pc 20) (some (.iload_n 2, 21, [])) none))) (cond (Nat.blt pc 25) (cond (Nat.blt pc 22) (cond (Nat.beq pc 21) (some (.iconst 0, 22, [])) none) (cond (Nat.beq pc 22) (some (.invokevirtual 123, 25, [])) none)) (cond (Nat.blt pc 26) (cond (Nat.beq pc 25) (some (.iconst 2, 26, [])) none) (cond (Nat.beq pc 26) (some (.irem, 27, [])) none))))) (cond (Nat.blt pc 44) (cond (Nat.blt pc 34) (cond (Nat.blt pc 32) (cond (Nat.blt pc 30) (cond (Nat.beq pc 27) (some (.ifCond .ne 6, 30, [33])) none) (cond (Nat.beq pc 30) (some (.bipush (-3), 32, [])) none)) (cond (Nat.blt pc 33) (cond (Nat.beq pc 32) (some (.ireturn, 33, [])) none) (cond (Nat.beq pc 33) (some (.aload_n 0, 34, [])) none))) (cond (Nat.blt pc 38) (cond (Nat.blt pc 37) (cond (Nat.beq pc 34) (some (.getfield 18, 37, [])) none) (cond (Nat.beq pc 37) (some (.aload_n 0, 38, [])) none)) (cond (Nat.blt pc 41) (cond (Nat.beq pc 38) (some (.getfield 18, 41, [])) none) (cond (Nat.beq pc 41) (some (.getfield 106, 44, [])) none)))) (cond (Nat.blt pc 52) (cond (Nat.blt pc 46) (cond (Nat.blt pc 45) (cond (Nat.beq pc 44) (some (.iload_n 1, 45, [])) none) (cond (Nat.beq pc 45) (some (.iaload, 46, [])) none)) (cond (Nat.blt pc 49) (cond (Nat.beq pc 46) (some (.invokevirtual 180, 49, [])) none) (cond (Nat.beq pc 49) (some (.ifCond .eq 22, 52, [71])) none))) (cond (Nat.blt pc 56) (cond (Nat.blt pc 53) (cond (Nat.beq pc 52) (some (.aload_n 0, 53, [])) none) (cond (Nat.beq pc 53) (some (.getfield 18, 56, [])) none)) (cond (Nat.blt pc 57) (cond (Nat.beq pc 56) (some (.aload_n 0, 57, [])) none) (cond (Nat.beq pc 57) (some (.getfield 18, 60, [])) none)))))) (cond (Nat.blt pc 93) (cond (Nat.blt pc 75) (cond (Nat.blt pc 68) (cond (Nat.blt pc 64) (cond (Nat.blt pc 63) (cond (Nat.beq pc 60) (some (.getfield 106, 63, [])) none) (cond (Nat.beq pc 63) (some (.iload_n 2, 64, [])) none)) (cond (Nat.blt pc 65) (cond (Nat.beq pc 64) (some (.iaload, 65, [])) none) (cond (Nat.beq pc 65) (some (.invokevirtual 180, 68, [])) none))) (cond (Nat.blt pc 73) (cond (Nat.blt pc 71) (cond (Nat.beq pc 68) (some (.ifCond .ne 6, 71, [74])) none) (cond (Nat.beq pc 71) (some (.bipush (-4), 73, [])) none)) (cond (Nat.blt pc 74) (cond (Nat.beq pc 73) (some (.ireturn, 74, [])) none) (cond (Nat.beq pc 74) (some (.aload_n 0, 75, [])) none)))) (cond (Nat.blt pc 85) (cond (Nat.blt pc 81) (cond (Nat.blt pc 78) (cond (Nat.beq pc 75) (some (.getfield 18, 78, [])) none) (cond (Nat.beq pc 78) (some (.invokevirtual 212, 81, [])) none)) (cond (Nat.blt pc 82) (cond (Nat.beq pc 81) (some (.aload_n 0, 82, [])) none) (cond (Nat.beq pc 82) (some (.getfield 18, 85, [])) none))) (cond (Nat.blt pc 87) (cond (Nat.blt pc 86) (cond (Nat.beq pc 85) (some (.iload_n 1, 86, [])) none) (cond (Nat.beq pc 86) (some (.aload_n 0, 87, [])) none)) (cond (Nat.blt pc 90) (cond (Nat.beq pc 87) (some (.getfield 62, 90, [])) none) (cond (Nat.beq pc 90) (some (.invokevirtual 113, 93, [])) none))))) (cond (Nat.blt pc 109) (cond (Nat.blt pc 99) (cond (Nat.blt pc 97) (cond (Nat.blt pc 94) (cond (Nat.beq pc 93) (some (.aload_n 0, 94, [])) none) (cond (Nat.beq pc 94) (some (.getfield 18, 97, [])) none)) (cond (Nat.blt pc 98) (cond (Nat.beq pc 97) (some (.iload_n 2, 98, [])) none) (cond (Nat.beq pc 98) (some (.aload_n 0, 99, [])) none))) (cond (Nat.blt pc 105) (cond (Nat.blt pc 102) (cond (Nat.beq pc 99) (some (.getfield 66, 102, [])) none) (cond (Nat.beq pc 102) (some (.invokevirtual 113, 105, [])) none)) (cond (Nat.blt pc 106) (cond (Nat.beq pc 105) (some (.aload_n 0, 106, [])) none) (cond (Nat.beq pc 106) (some (.getfield 25, 109, [])) none)))) (cond (Nat.blt pc 117) (cond (Nat.blt pc 113) (cond (Nat.blt pc 110) (cond (Nat.beq pc 109) (some (.aload_n 0, 110, [])) none) (cond (Nat.beq pc 110) (some (.getfield 62, 113, [])) none)) (cond (Nat.blt pc 114) (cond (Nat.beq pc 113) (some (.aload_n 0, 114, [])) none) (cond (Nat.beq pc 114) (some (.getfield 66, 117, [])) none))) (cond (Nat.blt pc 121) (cond (Nat.blt pc 120) (cond (Nat.beq pc 117) (some (.invokevirtual 235, 120, [])) none) (cond (Nat.beq pc 120) (some (.iconst 1, 121, [])) none)) (cond (Nat.blt pc 122) (cond (Nat.beq pc 121) (some (.iadd, 122, [])) none) (cond (Nat.beq pc 122) (some (.ireturn, 123, [])) none)))))))
set_option maxRecDepth 100000 in
theorem kX7_jacobi : okT cX7_jacobi tX7_jacobi 123 3 = true := by decide +kernel
def tX7_feed : Tt := tWn 64 (fun pc => cond (Nat.blt pc 30) (cond (Nat.blt pc 14) (cond (Nat.blt pc 6) (cond (Nat.blt pc 1) (cond (Nat.beq pc 0) (some (.aload_n 0, 1, [])) none) (cond (Nat.blt pc 4) (cond (Nat.beq pc 1) (some (.getfield 32, 4, [])) none) (cond (Nat.beq pc 4) (some (.bipush 20, 6, [])) none))) (cond (Nat.blt pc 12) (cond (Nat.blt pc 9) (cond (Nat.beq pc 6) (some (.invokevirtual 238, 9, [])) none) (cond (Nat.beq pc 9) (some (.ifCond .ne 5, 12, [14])) none)) (cond (Nat.blt pc 13) (cond (Nat.beq pc 12) (some (.iconst (-1), 13, [])) none) (cond (Nat.beq pc 13) (some (.ireturn, 14, [])) none)))) (cond (Nat.blt pc 22) (cond (Nat.blt pc 18) (cond (Nat.blt pc 15) (cond (Nat.beq pc 14) (some (.aload_n 0, 15, [])) none) (cond (Nat.beq pc 15) (some (.getfield 32, 18, [])) none)) (cond (Nat.blt pc 19) (cond (Nat.beq pc 18) (some (.iload_n 1, 19, [])) none) (cond (Nat.beq pc 19) (some (.invokevirtual 241, 22, [])) none))) (cond (Nat.blt pc 26) (cond (Nat.blt pc 23) (cond (Nat.beq pc 22) (some (.aload_n 0, 23, [])) none) (cond (Nat.beq pc 23) (some (.getfield 32, 26, [])) none)) (cond (Nat.blt pc 27) (cond (Nat.beq pc 26) (some (.iload_n 2, 27, [])) none) (cond (Nat.beq pc 27) (some (.invokevirtual 241, 30, [])) none))))) (cond (Nat.blt pc 47) (cond (Nat.blt pc 38) (cond (Nat.blt pc 34) (cond (Nat.blt pc 31) (cond (Nat.beq pc 30) (some (.aload_n 0, 31, [])) none) (cond (Nat.beq pc 31) (some (.getfield 32, 34, [])) none)) (cond (Nat.blt pc 35) (cond (Nat.beq pc 34) (some (.iload_n 3, 35, [])) none) (cond (Nat.beq pc 35) (some (.invokevirtual 241, 38, [])) none))) (cond (Nat.blt pc 42) (cond (Nat.blt pc 39) (cond (Nat.beq pc 38) (some (.aload_n 0, 39, [])) none) (cond (Nat.beq pc 39) (some (.getfield 32, 42, [])) none)) (cond (Nat.blt pc 44) (cond (Nat.beq pc 42) (some (.iload 4, 44, [])) none) (cond (Nat.beq pc 44) (some (.invokevirtual 241, 47, [])) none)))) (cond (Nat.blt pc 56) (cond (Nat.blt pc 51) (cond (Nat.blt pc 48) (cond (Nat.beq pc 47) (some (.aload_n 0, 48, [])) none) (cond (Nat.beq pc 48) (some (.getfield 32, 51, [])) none)) (cond (Nat.blt pc 53) (cond (Nat.beq pc 51) (some (.iload 5, 53, [])) none) (cond (Nat.beq pc 53) (some (.invokevirtual 241, 56, [])) none))) (cond (Nat.blt pc 60) (cond (Nat.blt pc 57) (cond (Nat.beq pc 56) (some (.aload_n 0, 57, [])) none) (cond (Nat.beq pc 57) (some (.getfield 32, 60, [])) none)) (cond (Nat.blt pc 63) (cond (Nat.beq pc 60) (some (.getfield 156, 63, [])) none) (cond (Nat.beq pc 63) (some (.ireturn, 64, [])) none))))))
set_option maxRecDepth 100000 in
theorem kX7_feed : okT cX7_feed tX7_feed 64 6 = true := by decide +kernel
def tX7_end : Tt := tWn 27 (fun pc => cond (Nat.blt pc 15) (cond (Nat.blt pc 5) (cond (Nat.blt pc 1) (cond (Nat.beq pc 0) (some (.iload_n 1, 1, [])) none) (cond (Nat.blt pc 4) (cond (Nat.beq pc 1) (some (.ifCond .lt 14, 4, [15])) none) (cond (Nat.beq pc 4) (some (.iload_n 1, 5, [])) none))) (cond (Nat.blt pc 9) (cond (Nat.blt pc 6) (cond (Nat.beq pc 5) (some (.aload_n 0, 6, [])) none) (cond (Nat.beq pc 6) (some (.getfield 32, 9, [])) none)) (cond (Nat.blt pc 12) (cond (Nat.beq pc 9) (some (.getfield 156, 12, [])) none) (cond (Nat.beq pc 12) (some (.if_icmp .le 5, 15, [17])) none)))) (cond (Nat.blt pc 21) (cond (Nat.blt pc 17) (cond (Nat.blt pc 16) (cond (Nat.beq pc 15) (some (.iconst 0, 16, [])) none) (cond (Nat.beq pc 16) (some (.ireturn, 17, [])) none)) (cond (Nat.blt pc 18) (cond (Nat.beq pc 17) (some (.aload_n 0, 18, [])) none) (cond (Nat.beq pc 18) (some (.getfield 32, 21, [])) none))) (cond (Nat.blt pc 25) (cond (Nat.blt pc 22) (cond (Nat.beq pc 21) (some (.iload_n 1, 22, [])) none) (cond (Nat.beq pc 22) (some (.putfield 156, 25, [])) none)) (cond (Nat.blt pc 26) (cond (Nat.beq pc 25) (some (.iconst 1, 26, [])) none) (cond (Nat.beq pc 26) (some (.ireturn, 27, [])) none)))))
set_option maxRecDepth 100000 in
theorem kX7_end : okT cX7_end tX7_end 27 2 = true := by decide +kernel
def tX7_number : Tt := tWn 101 (fun pc => cond (Nat.blt pc 50) (cond (Nat.blt pc 26) (cond (Nat.blt pc 10) (cond (Nat.blt pc 5) (cond (Nat.blt pc 1) (cond (Nat.beq pc 0) (some (.aload_n 0, 1, [])) none) (cond (Nat.blt pc 2) (cond (Nat.beq pc 1) (some (.iconst (-1), 2, [])) none) (cond (Nat.beq pc 2) (some (.putfield 72, 5, [])) none))) (cond (Nat.blt pc 6) (cond (Nat.beq pc 5) (some (.aload_n 0, 6, [])) none) (cond (Nat.blt pc 9) (cond (Nat.beq pc 6) (some (.getfield 18, 9, [])) none) (cond (Nat.beq pc 9) (some (.iload_n 1, 10, [])) none)))) (cond (Nat.blt pc 18) (cond (Nat.blt pc 13) (cond (Nat.beq pc 10) (some (.invokevirtual 100, 13, [])) none) (cond (Nat.blt pc 16) (cond (Nat.beq pc 13) (some (.ifCond .ne 6, 16, [19])) none) (cond (Nat.beq pc 16) (some (.bipush (-2), 18, [])) none))) (cond (Nat.blt pc 20) (cond (Nat.blt pc 19) (cond (Nat.beq pc 18) (some (.ireturn, 19, [])) none) (cond (Nat.beq pc 19) (some (.iload_n 2, 20, [])) none)) (cond (Nat.blt pc 23) (cond (Nat.beq pc 20) (some (.invokestatic 244, 23, [])) none) (cond (Nat.beq pc 23) (some (.ifCond .ne 6, 26, [29])) none))))) (cond (Nat.blt pc 37) (cond (Nat.blt pc 30) (cond (Nat.blt pc 28) (cond (Nat.beq pc 26) (some (.bipush (-3), 28, [])) none) (cond (Nat.blt pc 29) (cond (Nat.beq pc 28) (some (.ireturn, 29, [])) none) (cond (Nat.beq pc 29) (some (.aload_n 0, 30, [])) none))) (cond (Nat.blt pc 33) (cond (Nat.beq pc 30) (some (.getfield 32, 33, [])) none) (cond (Nat.blt pc 34) (cond (Nat.beq pc 33) (some (.iload_n 2, 34, [])) none) (cond (Nat.beq pc 34) (some (.invokevirtual 247, 37, [])) none)))) (cond (Nat.blt pc 42) (cond (Nat.blt pc 38) (cond (Nat.beq pc 37) (some (.istore_n 3, 38, [])) none) (cond (Nat.blt pc 39) (cond (Nat.beq pc 38) (some (.iload_n 3, 39, [])) none) (cond (Nat.beq pc 39) (some (.ifCond .eq 14, 42, [53])) none))) (cond (Nat.blt pc 44) (cond (Nat.blt pc 43) (cond (Nat.beq pc 42) (some (.iload_n 3, 43, [])) none) (cond (Nat.beq pc 43) (some (.aload_n 0, 44, [])) none)) (cond (Nat.blt pc 47) (cond (Nat.beq pc 44) (some (.getfield 32, 47, [])) none) (cond (Nat.beq pc 47) (some (.getfield 156, 50, [])) none)))))) (cond (Nat.blt pc 73) (cond (Nat.blt pc 62) (cond (Nat.blt pc 55) (cond (Nat.blt pc 53) (cond (Nat.beq pc 50) (some (.if_icmp .ge 18, 53, [68])) none) (cond (Nat.blt pc 54) (cond (Nat.beq pc 53) (some (.aload_n 0, 54, [])) none) (cond (Nat.beq pc 54) (some (.iload_n 3, 55, [])) none))) (cond (Nat.blt pc 58) (cond (Nat.beq pc 55) (some (.putfield 72, 58, [])) none) (cond (Nat.blt pc 59) (cond (Nat.beq pc 58) (some (.aload_n 0, 59, [])) none) (cond (Nat.beq pc 59) (some (.getfield 32, 62, [])) none)))) (cond (Nat.blt pc 67) (cond (Nat.blt pc 63) (cond (Nat.beq pc 62) (some (.iconst 0, 63, [])) none) (cond (Nat.blt pc 66) (cond (Nat.beq pc 63) (some (.putfield 156, 66, [])) none) (cond (Nat.beq pc 66) (some (.iconst (-1), 67, [])) none))) (cond (Nat.blt pc 69) (cond (Nat.blt pc 68) (cond (Nat.beq pc 67) (some (.ireturn, 68, [])) none) (cond (Nat.beq pc 68) (some (.aload_n 0, 69, [])) none)) (cond (Nat.blt pc 72) (cond (Nat.beq pc 69) (some (.getfield 32, 72, [])) none) (cond (Nat.beq pc 72) (some (.aload_n 0, 73, [])) none))))) (cond (Nat.blt pc 88) (cond (Nat.blt pc 80) (cond (Nat.blt pc 76) (cond (Nat.beq pc 73) (some (.getfield 62, 76, [])) none) (cond (Nat.blt pc 77) (cond (Nat.beq pc 76) (some (.iload_n 2, 77, [])) none) (cond (Nat.beq pc 77) (some (.invokevirtual 250, 80, [])) none))) (cond (Nat.blt pc 84) (cond (Nat.blt pc 81) (cond (Nat.beq pc 80) (some (.aload_n 0, 81, [])) none) (cond (Nat.beq pc 81) (some (.getfield 32, 84, [])) none)) (cond (Nat.blt pc 85) (cond (Nat.beq pc 84) (some (.iconst 0, 85, [])) none) (cond (Nat.beq pc 85) (some (.putfield 156, 88, [])) none)))) (cond (Nat.blt pc 93) (cond (Nat.blt pc 89) (cond (Nat.beq pc 88) (some (.aload_n 0, 89, [])) none) (cond (Nat.blt pc 92) (cond (Nat.beq pc 89) (some (.getfield 18, 92, [])) none) (cond (Nat.beq pc 92) (some (.iload_n 1, 93, [])) none))) (cond (Nat.blt pc 97) (cond (Nat.blt pc 94) (cond (Nat.beq pc 93) (some (.aload_n 0, 94, [])) none) (cond (Nat.beq pc 94) (some (.getfield 62, 97, [])) none)) (cond (Nat.blt pc 100) (cond (Nat.beq pc 97) (some (.invokevirtual 169, 100, [])) none) (cond (Nat.beq pc 100) (some (.ireturn, 101, [])) none)))))))
set_option maxRecDepth 100000 in
theorem kX7_number : okT cX7_number tX7_number 101 4 = true := by decide +kernel
def tX7_fault : Tt := tWn 5 (fun pc => cond (Nat.blt pc 1) (cond (Nat.beq pc 0) (some (.aload_n 0, 1, [])) none) (cond (Nat.blt pc 4) (cond (Nat.beq pc 1) (some (.getfield 72, 4, [])) none) (cond (Nat.beq pc 4) (some (.ireturn, 5, [])) none)))
set_option maxRecDepth 100000 in
theorem kX7_fault : okT cX7_fault tX7_fault 5 1 = true := by decide +kernel
def tX7_text : Tt := tWn 56 (fun pc => cond (Nat.blt pc 28) (cond (Nat.blt pc 14) (cond (Nat.blt pc 5) (cond (Nat.blt pc 1) (cond (Nat.beq pc 0) (some (.aload_n 0, 1, [])) none) (cond (Nat.blt pc 4) (cond (Nat.beq pc 1) (some (.getfield 18, 4, [])) none) (cond (Nat.beq pc 4) (some (.iload_n 1, 5, [])) none))) (cond (Nat.blt pc 11) (cond (Nat.blt pc 8) (cond (Nat.beq pc 5) (some (.invokevirtual 100, 8, [])) none) (cond (Nat.beq pc 8) (some (.ifCond .ne 6, 11, [14])) none)) (cond (Nat.blt pc 13) (cond (Nat.beq pc 11) (some (.bipush (-2), 13, [])) none) (cond (Nat.beq pc 13) (some (.ireturn, 14, [])) none)))) (cond (Nat.blt pc 21) (cond (Nat.blt pc 15) (cond (Nat.beq pc 14) (some (.iload_n 2, 15, [])) none) (cond (Nat.blt pc 18) (cond (Nat.beq pc 15) (some (.invokestatic 244, 18, [])) none) (cond (Nat.beq pc 18) (some (.ifCond .ne 6, 21, [24])) none))) (cond (Nat.blt pc 24) (cond (Nat.blt pc 23) (cond (Nat.beq pc 21) (some (.bipush (-3), 23, [])) none) (cond (Nat.beq pc 23) (some (.ireturn, 24, [])) none)) (cond (Nat.blt pc 25) (cond (Nat.beq pc 24) (some (.aload_n 0, 25, [])) none) (cond (Nat.beq pc 25) (some (.getfield 18, 28, [])) none))))) (cond (Nat.blt pc 41) (cond (Nat.blt pc 33) (cond (Nat.blt pc 29) (cond (Nat.beq pc 28) (some (.iload_n 1, 29, [])) none) (cond (Nat.blt pc 30) (cond (Nat.beq pc 29) (some (.aload_n 0, 30, [])) none) (cond (Nat.beq pc 30) (some (.getfield 62, 33, [])) none))) (cond (Nat.blt pc 37) (cond (Nat.blt pc 36) (cond (Nat.beq pc 33) (some (.invokevirtual 113, 36, [])) none) (cond (Nat.beq pc 36) (some (.aload_n 0, 37, [])) none)) (cond (Nat.blt pc 40) (cond (Nat.beq pc 37) (some (.getfield 39, 40, [])) none) (cond (Nat.beq pc 40) (some (.aload_n 0, 41, [])) none)))) (cond (Nat.blt pc 48) (cond (Nat.blt pc 44) (cond (Nat.beq pc 41) (some (.getfield 62, 44, [])) none) (cond (Nat.blt pc 45) (cond (Nat.beq pc 44) (some (.iload_n 2, 45, [])) none) (cond (Nat.beq pc 45) (some (.invokevirtual 254, 48, [])) none))) (cond (Nat.blt pc 52) (cond (Nat.blt pc 49) (cond (Nat.beq pc 48) (some (.aload_n 0, 49, [])) none) (cond (Nat.beq pc 49) (some (.getfield 39, 52, [])) none)) (cond (Nat.blt pc 55) (cond (Nat.beq pc 52) (some (.getfield 257, 55, [])) none) (cond (Nat.beq pc 55) (some (.ireturn, 56, [])) none))))))
set_option maxRecDepth 100000 in
theorem kX7_text : okT cX7_text tX7_text 56 3 = true := by decide +kernel
def tX7_out : Tt := tWn 9 (fun pc => cond (Nat.blt pc 4) (cond (Nat.blt pc 1) (cond (Nat.beq pc 0) (some (.aload_n 0, 1, [])) none) (cond (Nat.beq pc 1) (some (.getfield 39, 4, [])) none)) (cond (Nat.blt pc 5) (cond (Nat.beq pc 4) (some (.iload_n 1, 5, [])) none) (cond (Nat.blt pc 8) (cond (Nat.beq pc 5) (some (.invokevirtual 258, 8, [])) none) (cond (Nat.beq pc 8) (some (.ireturn, 9, [])) none))))
set_option maxRecDepth 100000 in
theorem kX7_out : okT cX7_out tX7_out 9 2 = true := by decide +kernel
def tX7_word : Tt := tWn 34 (fun pc => cond (Nat.blt pc 15) (cond (Nat.blt pc 9) (cond (Nat.blt pc 4) (cond (Nat.blt pc 1) (cond (Nat.beq pc 0) (some (.iload_n 1, 1, [])) none) (cond (Nat.beq pc 1) (some (.invokestatic 117, 4, [])) none)) (cond (Nat.blt pc 7) (cond (Nat.beq pc 4) (some (.ifCond .ne 6, 7, [10])) none) (cond (Nat.beq pc 7) (some (.bipush (-3), 9, [])) none))) (cond (Nat.blt pc 11) (cond (Nat.blt pc 10) (cond (Nat.beq pc 9) (some (.ireturn, 10, [])) none) (cond (Nat.beq pc 10) (some (.aload_n 0, 11, [])) none)) (cond (Nat.blt pc 14) (cond (Nat.beq pc 11) (some (.getfield 48, 14, [])) none) (cond (Nat.beq pc 14) (some (.iload_n 1, 15, [])) none)))) (cond (Nat.blt pc 25) (cond (Nat.blt pc 21) (cond (Nat.blt pc 18) (cond (Nat.beq pc 15) (some (.invokevirtual 261, 18, [])) none) (cond (Nat.beq pc 18) (some (.ifCond .eq 13, 21, [31])) none)) (cond (Nat.blt pc 22) (cond (Nat.beq pc 21) (some (.aload_n 0, 22, [])) none) (cond (Nat.beq pc 22) (some (.getfield 48, 25, [])) none))) (cond (Nat.blt pc 31) (cond (Nat.blt pc 28) (cond (Nat.beq pc 25) (some (.getfield 144, 28, [])) none) (cond (Nat.beq pc 28) (some (.goto 5, 31, [33])) none)) (cond (Nat.blt pc 33) (cond (Nat.beq pc 31) (some (.bipush (-9), 33, [])) none) (cond (Nat.beq pc 33) (some (.ireturn, 34, [])) none)))))
set_option maxRecDepth 100000 in
theorem kX7_word : okT cX7_word tX7_word 34 2 = true := by decide +kernel
def tX7_told : Tt := tWn 9 (fun pc => cond (Nat.blt pc 4) (cond (Nat.blt pc 1) (cond (Nat.beq pc 0) (some (.aload_n 0, 1, [])) none) (cond (Nat.beq pc 1) (some (.getfield 48, 4, [])) none)) (cond (Nat.blt pc 5) (cond (Nat.beq pc 4) (some (.iload_n 1, 5, [])) none) (cond (Nat.blt pc 8) (cond (Nat.beq pc 5) (some (.invokevirtual 264, 8, [])) none) (cond (Nat.beq pc 8) (some (.ireturn, 9, [])) none))))
set_option maxRecDepth 100000 in
theorem kX7_told : okT cX7_told tX7_told 9 2 = true := by decide +kernel
def tX7_clear : Tt := tWn 18 (fun pc => cond (Nat.blt pc 9) (cond (Nat.blt pc 4) (cond (Nat.blt pc 1) (cond (Nat.beq pc 0) (some (.aload_n 0, 1, [])) none) (cond (Nat.beq pc 1) (some (.getfield 48, 4, [])) none)) (cond (Nat.blt pc 7) (cond (Nat.beq pc 4) (some (.getfield 144, 7, [])) none) (cond (Nat.blt pc 8) (cond (Nat.beq pc 7) (some (.istore_n 1, 8, [])) none) (cond (Nat.beq pc 8) (some (.aload_n 0, 9, [])) none)))) (cond (Nat.blt pc 13) (cond (Nat.blt pc 12) (cond (Nat.beq pc 9) (some (.getfield 48, 12, [])) none) (cond (Nat.beq pc 12) (some (.iconst 0, 13, [])) none)) (cond (Nat.blt pc 16) (cond (Nat.beq pc 13) (some (.putfield 144, 16, [])) none) (cond (Nat.blt pc 17) (cond (Nat.beq pc 16) (some (.iload_n 1, 17, [])) none) (cond (Nat.beq pc 17) (some (.ireturn, 18, [])) none)))))
set_option maxRecDepth 100000 in
theorem kX7_clear : okT cX7_clear tX7_clear 18 2 = true := by decide +kernel
def tX7_check : Tt := tWn 110 (fun pc => cond (Nat.blt pc 55) (cond (Nat.blt pc 27) (cond (Nat.blt pc 14) (cond (Nat.blt pc 5) (cond (Nat.blt pc 1) (cond (Nat.beq pc 0) (some (.aload_n 0, 1, [])) none) (cond (Nat.blt pc 4) (cond (Nat.beq pc 1) (some (.getfield 18, 4, [])) none) (cond (Nat.beq pc 4) (some (.iload_n 1, 5, [])) none))) (cond (Nat.blt pc 11) (cond (Nat.blt pc 8) (cond (Nat.beq pc 5) (some (.invokevirtual 100, 8, [])) none) (cond (Nat.beq pc 8) (some (.ifCond .ne 6, 11, [14])) none)) (cond (Nat.blt pc 13) (cond (Nat.beq pc 11) (some (.bipush (-2), 13, [])) none) (cond (Nat.beq pc 13) (some (.ireturn, 14, [])) none)))) (cond (Nat.blt pc 17) (cond (Nat.blt pc 15) (cond (Nat.beq pc 14) (some (.iconst 2, 15, [])) none) (cond (Nat.blt pc 16) (cond (Nat.beq pc 15) (some (.istore_n 2, 16, [])) none) (cond (Nat.beq pc 16) (some (.aload_n 0, 17, [])) none))) (cond (Nat.blt pc 23) (cond (Nat.blt pc 20) (cond (Nat.beq pc 17) (some (.getfield 48, 20, [])) none) (cond (Nat.beq pc 20) (some (.invokevirtual 267, 23, [])) none)) (cond (Nat.blt pc 26) (cond (Nat.beq pc 23) (some (.ifCond .eq 77, 26, [100])) none) (cond (Nat.beq pc 26) (some (.aload_n 0, 27, [])) none))))) (cond (Nat.blt pc 43) (cond (Nat.blt pc 34) (cond (Nat.blt pc 30) (cond (Nat.beq pc 27) (some (.getfield 18, 30, [])) none) (cond (Nat.blt pc 33) (cond (Nat.beq pc 30) (some (.invokevirtual 271, 33, [])) none) (cond (Nat.beq pc 33) (some (.aload_n 0, 34, [])) none))) (cond (Nat.blt pc 39) (cond (Nat.blt pc 37) (cond (Nat.beq pc 34) (some (.getfield 18, 37, [])) none) (cond (Nat.beq pc 37) (some (.bipush 6, 39, [])) none)) (cond (Nat.blt pc 40) (cond (Nat.beq pc 39) (some (.aload_n 0, 40, [])) none) (cond (Nat.beq pc 40) (some (.getfield 18, 43, [])) none)))) (cond (Nat.blt pc 48) (cond (Nat.blt pc 46) (cond (Nat.beq pc 43) (some (.getfield 106, 46, [])) none) (cond (Nat.blt pc 47) (cond (Nat.beq pc 46) (some (.iload_n 1, 47, [])) none) (cond (Nat.beq pc 47) (some (.iaload, 48, [])) none))) (cond (Nat.blt pc 51) (cond (Nat.blt pc 49) (cond (Nat.beq pc 48) (some (.imul, 49, [])) none) (cond (Nat.beq pc 49) (some (.bipush 6, 51, [])) none)) (cond (Nat.blt pc 52) (cond (Nat.beq pc 51) (some (.iadd, 52, [])) none) (cond (Nat.beq pc 52) (some (.invokevirtual 274, 55, [])) none)))))) (cond (Nat.blt pc 85) (cond (Nat.blt pc 70) (cond (Nat.blt pc 62) (cond (Nat.blt pc 58) (cond (Nat.beq pc 55) (some (.ifCond .eq 42, 58, [97])) none) (cond (Nat.blt pc 59) (cond (Nat.beq pc 58) (some (.aload_n 0, 59, [])) none) (cond (Nat.beq pc 59) (some (.getfield 18, 62, [])) none))) (cond (Nat.blt pc 64) (cond (Nat.blt pc 63) (cond (Nat.beq pc 62) (some (.iload_n 1, 63, [])) none) (cond (Nat.beq pc 63) (some (.aload_n 0, 64, [])) none)) (cond (Nat.blt pc 67) (cond (Nat.beq pc 64) (some (.getfield 62, 67, [])) none) (cond (Nat.beq pc 67) (some (.invokevirtual 113, 70, [])) none)))) (cond (Nat.blt pc 75) (cond (Nat.blt pc 71) (cond (Nat.beq pc 70) (some (.aload_n 0, 71, [])) none) (cond (Nat.blt pc 74) (cond (Nat.beq pc 71) (some (.getfield 48, 74, [])) none) (cond (Nat.beq pc 74) (some (.aload_n 0, 75, [])) none))) (cond (Nat.blt pc 79) (cond (Nat.blt pc 78) (cond (Nat.beq pc 75) (some (.getfield 62, 78, [])) none) (cond (Nat.beq pc 78) (some (.aload_n 0, 79, [])) none)) (cond (Nat.blt pc 82) (cond (Nat.beq pc 79) (some (.getfield 25, 82, [])) none) (cond (Nat.beq pc 82) (some (.invokevirtual 275, 85, [])) none))))) (cond (Nat.blt pc 99) (cond (Nat.blt pc 92) (cond (Nat.blt pc 88) (cond (Nat.beq pc 85) (some (.ifCond .eq 7, 88, [92])) none) (cond (Nat.blt pc 89) (cond (Nat.beq pc 88) (some (.iconst 0, 89, [])) none) (cond (Nat.beq pc 89) (some (.goto 4, 92, [93])) none))) (cond (Nat.blt pc 94) (cond (Nat.blt pc 93) (cond (Nat.beq pc 92) (some (.iconst 1, 93, [])) none) (cond (Nat.beq pc 93) (some (.istore_n 2, 94, [])) none)) (cond (Nat.blt pc 97) (cond (Nat.beq pc 94) (some (.goto 6, 97, [100])) none) (cond (Nat.beq pc 97) (some (.bipush (-4), 99, [])) none)))) (cond (Nat.blt pc 104) (cond (Nat.blt pc 100) (cond (Nat.beq pc 99) (some (.istore_n 2, 100, [])) none) (cond (Nat.blt pc 101) (cond (Nat.beq pc 100) (some (.aload_n 0, 101, [])) none) (cond (Nat.beq pc 101) (some (.getfield 48, 104, [])) none))) (cond (Nat.blt pc 108) (cond (Nat.blt pc 105) (cond (Nat.beq pc 104) (some (.iconst 0, 105, [])) none) (cond (Nat.beq pc 105) (some (.putfield 144, 108, [])) none)) (cond (Nat.blt pc 109) (cond (Nat.beq pc 108) (some (.iload_n 2, 109, [])) none) (cond (Nat.beq pc 109) (some (.ireturn, 110, [])) none)))))))
set_option maxRecDepth 100000 in
theorem kX7_check : okT cX7_check tX7_check 110 3 = true := by decide +kernel
def tX7_prove : Tt := tWn 105 (fun pc => cond (Nat.blt pc 50) (cond (Nat.blt pc 24) (cond (Nat.blt pc 13) (cond (Nat.blt pc 5) (cond (Nat.blt pc 1) (cond (Nat.beq pc 0) (some (.aload_n 0, 1, [])) none) (cond (Nat.blt pc 4) (cond (Nat.beq pc 1) (some (.getfield 18, 4, [])) none) (cond (Nat.beq pc 4) (some (.iload_n 1, 5, [])) none))) (cond (Nat.blt pc 8) (cond (Nat.beq pc 5) (some (.invokevirtual 100, 8, [])) none) (cond (Nat.blt pc 11) (cond (Nat.beq pc 8) (some (.ifCond .ne 6, 11, [14])) none) (cond (Nat.beq pc 11) (some (.bipush (-2), 13, [])) none)))) (cond (Nat.blt pc 18) (cond (Nat.blt pc 14) (cond (Nat.beq pc 13) (some (.ireturn, 14, [])) none) (cond (Nat.blt pc 15) (cond (Nat.beq pc 14) (some (.aload_n 0, 15, [])) none) (cond (Nat.beq pc 15) (some (.getfield 18, 18, [])) none))) (cond (Nat.blt pc 22) (cond (Nat.blt pc 21) (cond (Nat.beq pc 18) (some (.getfield 106, 21, [])) none) (cond (Nat.beq pc 21) (some (.iload_n 1, 22, [])) none)) (cond (Nat.blt pc 23) (cond (Nat.beq pc 22) (some (.iaload, 23, [])) none) (cond (Nat.beq pc 23) (some (.iconst 2, 24, [])) none))))) (cond (Nat.blt pc 36) (cond (Nat.blt pc 30) (cond (Nat.blt pc 27) (cond (Nat.beq pc 24) (some (.if_icmp .le 6, 27, [30])) none) (cond (Nat.blt pc 29) (cond (Nat.beq pc 27) (some (.bipush (-3), 29, [])) none) (cond (Nat.beq pc 29) (some (.ireturn, 30, [])) none))) (cond (Nat.blt pc 34) (cond (Nat.blt pc 31) (cond (Nat.beq pc 30) (some (.aload_n 0, 31, [])) none) (cond (Nat.beq pc 31) (some (.getfield 18, 34, [])) none)) (cond (Nat.blt pc 35) (cond (Nat.beq pc 34) (some (.iload_n 1, 35, [])) none) (cond (Nat.beq pc 35) (some (.iconst 0, 36, [])) none)))) (cond (Nat.blt pc 43) (cond (Nat.blt pc 39) (cond (Nat.beq pc 36) (some (.invokevirtual 123, 39, [])) none) (cond (Nat.blt pc 40) (cond (Nat.beq pc 39) (some (.aload_n 0, 40, [])) none) (cond (Nat.beq pc 40) (some (.getfield 18, 43, [])) none))) (cond (Nat.blt pc 45) (cond (Nat.blt pc 44) (cond (Nat.beq pc 43) (some (.iload_n 1, 44, [])) none) (cond (Nat.beq pc 44) (some (.iconst 1, 45, [])) none)) (cond (Nat.blt pc 48) (cond (Nat.beq pc 45) (some (.invokevirtual 123, 48, [])) none) (cond (Nat.beq pc 48) (some (.bipush 15, 50, [])) none)))))) (cond (Nat.blt pc 75) (cond (Nat.blt pc 61) (cond (Nat.blt pc 53) (cond (Nat.blt pc 51) (cond (Nat.beq pc 50) (some (.ishl, 51, [])) none) (cond (Nat.blt pc 52) (cond (Nat.beq pc 51) (some (.iadd, 52, [])) none) (cond (Nat.beq pc 52) (some (.istore_n 2, 53, [])) none))) (cond (Nat.blt pc 57) (cond (Nat.blt pc 54) (cond (Nat.beq pc 53) (some (.iload_n 2, 54, [])) none) (cond (Nat.beq pc 54) (some (.invokestatic 279, 57, [])) none)) (cond (Nat.blt pc 60) (cond (Nat.beq pc 57) (some (.ifCond .ne 5, 60, [62])) none) (cond (Nat.beq pc 60) (some (.iconst 0, 61, [])) none)))) (cond (Nat.blt pc 66) (cond (Nat.blt pc 62) (cond (Nat.beq pc 61) (some (.ireturn, 62, [])) none) (cond (Nat.blt pc 63) (cond (Nat.beq pc 62) (some (.aload_n 0, 63, [])) none) (cond (Nat.beq pc 63) (some (.getfield 55, 66, [])) none))) (cond (Nat.blt pc 70) (cond (Nat.blt pc 67) (cond (Nat.beq pc 66) (some (.iload_n 2, 67, [])) none) (cond (Nat.beq pc 67) (some (.invokevirtual 282, 70, [])) none)) (cond (Nat.blt pc 73) (cond (Nat.beq pc 70) (some (.ifCond .ne 6, 73, [76])) none) (cond (Nat.beq pc 73) (some (.bipush (-9), 75, [])) none))))) (cond (Nat.blt pc 88) (cond (Nat.blt pc 80) (cond (Nat.blt pc 76) (cond (Nat.beq pc 75) (some (.ireturn, 76, [])) none) (cond (Nat.blt pc 77) (cond (Nat.beq pc 76) (some (.aload_n 0, 77, [])) none) (cond (Nat.beq pc 77) (some (.getfield 48, 80, [])) none))) (cond (Nat.blt pc 84) (cond (Nat.blt pc 81) (cond (Nat.beq pc 80) (some (.aload_n 0, 81, [])) none) (cond (Nat.beq pc 81) (some (.getfield 55, 84, [])) none)) (cond (Nat.blt pc 87) (cond (Nat.beq pc 84) (some (.getfield 284, 87, [])) none) (cond (Nat.beq pc 87) (some (.aload_n 0, 88, [])) none)))) (cond (Nat.blt pc 97) (cond (Nat.blt pc 91) (cond (Nat.beq pc 88) (some (.getfield 55, 91, [])) none) (cond (Nat.blt pc 94) (cond (Nat.beq pc 91) (some (.getfield 287, 94, [])) none) (cond (Nat.beq pc 94) (some (.invokevirtual 288, 97, [])) none))) (cond (Nat.blt pc 101) (cond (Nat.blt pc 98) (cond (Nat.beq pc 97) (some (.aload_n 0, 98, [])) none) (cond (Nat.beq pc 98) (some (.getfield 48, 101, [])) none)) (cond (Nat.blt pc 104) (cond (Nat.beq pc 101) (some (.getfield 144, 104, [])) none) (cond (Nat.beq pc 104) (some (.ireturn, 105, [])) none)))))))
set_option maxRecDepth 100000 in
theorem kX7_prove : okT cX7_prove tX7_prove 105 3 = true := by decide +kernel
theorem fwX0 : FdW RX0 fdX0 := fdW_of _ _ fpX0 (by decide +kernel) (by decide +kernel)
theorem iwX0 : IcW RX0 icX0 := icW_of _ _ ipX0 (by decide +kernel)
theorem lwX0 : LcW RX0 lcX0 := lcW_of _ _ lpX0 (by decide +kernel)
theorem fwX1 : FdW RX1 fdX1 := fdW_of _ _ fpX1 (by decide +kernel) (by decide +kernel)
theorem iwX1 : IcW RX1 icX1 := icW_of _ _ ipX1 (by decide +kernel)
theorem lwX1 : LcW RX1 lcX1 := lcW_of _ _ lpX1 (by decide +kernel)
theorem fwX2 : FdW RX2 fdX2 := fdW_of _ _ fpX2 (by decide +kernel) (by decide +kernel)
theorem iwX2 : IcW RX2 icX2 := icW_of _ _ ipX2 (by decide +kernel)
theorem lwX2 : LcW RX2 lcX2 := lcW_of _ _ lpX2 (by decide +kernel)
theorem fwX3 : FdW RX3 fdX3 := fdW_of _ _ fpX3 (by decide +kernel) (by decide +kernel)
theorem iwX3 : IcW RX3 icX3 := icW_of _ _ ipX3 (by decide +kernel)
theorem lwX3 : LcW RX3 lcX3 := lcW_of _ _ lpX3 (by decide +kernel)
theorem fwX4 : FdW RX4 fdX4 := fdW_of _ _ fpX4 (by decide +kernel) (by decide +kernel)
theorem iwX4 : IcW RX4 icX4 := icW_of _ _ ipX4 (by decide +kernel)
theorem lwX4 : LcW RX4 lcX4 := lcW_of _ _ lpX4 (by decide +kernel)
theorem fwX5 : FdW RX5 fdX5 := fdW_of _ _ fpX5 (by decide +kernel) (by decide +kernel)
theorem iwX5 : IcW RX5 icX5 := icW_of _ _ ipX5 (by decide +kernel)
theorem lwX5 : LcW RX5 lcX5 := lcW_of _ _ lpX5 (by decide +kernel)
theorem fwX6 : FdW RX6 fdX6 := fdW_of _ _ fpX6 (by decide +kernel) (by decide +kernel)
theorem iwX6 : IcW RX6 icX6 := icW_of _ _ ipX6 (by decide +kernel)
theorem lwX6 : LcW RX6 lcX6 := lcW_of _ _ lpX6 (by decide +kernel)
theorem fwX7 : FdW RX7 fdX7 := fdW_of _ _ fpX7 (by decide +kernel) (by decide +kernel)
theorem iwX7 : IcW RX7 icX7 := icW_of _ _ ipX7 (by decide +kernel)
theorem lwX7 : LcW RX7 lcX7 := lcW_of _ _ lpX7 (by decide +kernel)
end
section
/-! ===== numbers: digits to the base 32768 ===== -/
theorem nn_pw (n : Nat) : 32768 ^ n = 2 ^ (15 * n) := by rw [Nat.pow_mul]
theorem nn_pos (n : Nat) : 0 < 32768 ^ n := Nat.pow_pos (by decide)
theorem nn_succ (n : Nat) : 32768 ^ (n + 1) = 32768 ^ n * 32768 := Nat.pow_succ _ _
def dg (v i : Nat) : Nat := v / 32768 ^ i % 32768
def nd (v : Nat) : Nat := if v = 0 then 0 else v.log2 / 15 + 1
theorem nd_le {v n : Nat} : nd v ≤ n ↔ v < 32768 ^ n := by
  unfold nd
  by_cases h : v = 0
  · rw [if_pos h, h]
    exact ⟨fun _ => nn_pos n, fun _ => Nat.zero_le n⟩
  · rw [if_neg h, nn_pw, ← Nat.log2_lt h]
    omega
theorem nd_gt {v n : Nat} : n < nd v ↔ 32768 ^ n ≤ v := by
  have := nd_le (v := v) (n := n)
  omega
theorem nd_lt (v : Nat) : v < 32768 ^ nd v := nd_le.mp (Nat.le_refl _)
theorem nd_0 : nd 0 = 0 := rfl
theorem nd_z {v : Nat} : nd v = 0 ↔ v = 0 := by
  have := nd_le (v := v) (n := 0)
  simp at this
  omega
theorem dg_lt (v i : Nat) : dg v i < 32768 := Nat.mod_lt _ (by decide)
theorem dg_z {v i : Nat} (h : nd v ≤ i) : dg v i = 0 := by
  unfold dg
  rw [Nat.div_eq_of_lt (nd_le.mp h)]
theorem dg_top {v : Nat} (h : v ≠ 0) : dg v (nd v - 1) ≠ 0 := by
  have h0 : nd v ≠ 0 := fun e => h (nd_z.mp e)
  have h1 : 32768 ^ (nd v - 1) ≤ v := nd_gt.mp (by omega)
  have h2 : v < 32768 ^ (nd v - 1 + 1) := by rw [show nd v - 1 + 1 = nd v by omega]; exact nd_lt v
  rw [nn_succ] at h2
  have hp := nn_pos (nd v - 1)
  have h3 : 1 ≤ v / 32768 ^ (nd v - 1) := (Nat.le_div_iff_mul_le hp).mpr (by omega)
  have h4 : v / 32768 ^ (nd v - 1) < 32768 := (Nat.div_lt_iff_lt_mul hp).mpr (by rw [Nat.mul_comm]; exact h2)
  unfold dg
  rw [Nat.mod_eq_of_lt h4]
  omega
theorem md_s (v i : Nat) : v % 32768 ^ (i + 1) = v % 32768 ^ i + 32768 ^ i * dg v i := by
  unfold dg
  rw [nn_succ, Nat.mod_mul]
theorem md_nd {v n : Nat} (h : nd v ≤ n) : v % 32768 ^ n = v := Nat.mod_eq_of_lt (nd_le.mp h)
theorem md_eq {a b : Nat} : ∀ {n : Nat}, (∀ i, i < n → dg a i = dg b i) → a % 32768 ^ n = b % 32768 ^ n := by
  intro n
  induction n with
  | zero => intro _; simp [Nat.mod_one]
  | succ n ih =>
    intro h
    rw [md_s, md_s, ih (fun i hi => h i (by omega)), h n (by omega)]
theorem nd_ext {a b : Nat} (h1 : nd a = nd b) (h2 : ∀ i, i < nd a → dg a i = dg b i) : a = b := by
  have := md_eq h2
  rwa [md_nd (Nat.le_refl _), h1, md_nd (Nat.le_refl _)] at this
theorem nd_mono {a b : Nat} (h : a ≤ b) : nd a ≤ nd b := nd_le.mpr (Nat.lt_of_le_of_lt h (nd_lt b))
/-- n limbs of f are the number v, in its shortest form -/
def Hd (f : Nat → Int) (n : Int) (v : Nat) : Prop := n = (nd v : Int) ∧ ∀ i, i < nd v → f i = (dg v i : Int)
theorem Hd.inj {f : Nat → Int} {n : Int} {v w : Nat} (h1 : Hd f n v) (h2 : Hd f n w) : v = w := by
  have e : nd v = nd w := by have := h1.1; have := h2.1; omega
  refine nd_ext e (fun i hi => ?_)
  have a := h1.2 i hi
  have b := h2.2 i (by omega)
  omega
theorem Hd.cong {f g : Nat → Int} {n : Int} {v : Nat} (h : Hd f n v) (e : ∀ i, i < nd v → g i = f i) : Hd g n v := ⟨h.1, fun i hi => (e i hi).trans (h.2 i hi)⟩
theorem nd_dn {v j : Nat} (h : nd v ≤ j + 1) (h0 : dg v j = 0) : nd v ≤ j := by
  by_cases e : nd v = j + 1
  · have hv : v ≠ 0 := fun q => by rw [q, nd_0] at e; omega
    have := dg_top hv
    rw [e] at this
    exact absurd h0 this
  · omega
theorem nd_up {v j : Nat} (h : nd v ≤ j + 1) (h0 : dg v j ≠ 0) : nd v = j + 1 := by
  by_cases e : nd v ≤ j
  · exact absurd (dg_z e) h0
  · omega
/-- a digit at an index that may be below 0 -/
def dgZ (v : Nat) (i : Int) : Int := if i < 0 then 0 else (dg v i.toNat : Int)
theorem dgZ_n (v i : Nat) : dgZ v (i : Int) = (dg v i : Int) := by
  unfold dgZ
  rw [if_neg (by omega)]
  rfl
theorem dgZ_neg {v : Nat} {i : Int} (h : i < 0) : dgZ v i = 0 := by unfold dgZ; rw [if_pos h]
theorem dgZ_rng (v : Nat) (i : Int) : 0 ≤ dgZ v i ∧ dgZ v i < 32768 := by
  unfold dgZ
  split
  · omega
  · have := dg_lt v i.toNat
    omega
/-- what is known of the parameters: addresses apart, small rows, the document's limits -/
def ZOk (Z : ZT) : Prop := adOk Z ∧ (∀ a, lnF (zN Z) a < 2147483648) ∧ 1 ≤ (zN Z).1 ∧ (zN Z).1 ≤ 24 ∧ 16 ≤ (zN Z).2.1 ∧ (zN Z).2.1 ≤ 800 ∧ 8 ≤ (zN Z).2.2 ∧ (zN Z).2.2 ≤ 400
theorem gcp_X5 {l : Launch} {Z : ZT} (hZ : ZOk Z) {d : Nat} (hd : 1 ≤ d) : CallI l Z RX5 d (19, none, cpC (zN Z)) := fun p e s m args below meth c Q cc nL x0 X => callOk_cp X hZ.2.1 ⟨mlX5_19, ac_native, ac_static, ac_init⟩ hd
end
section
/-! ===== the reference: its rows of limbs ===== -/
/-- row s of the reference holds v -/
def MH (M : Mem) (s v : Nat) : Prop := Hd (fun i => M 51 (420 * s + i)) (M 52 s) v
/-- isIn(v, a, b) -/
def c_isIn : Call := ⟨Int × Int × Int, 3, (fun (v, a, b) vs _ => vs = [.inl v, .inl a, .inl b] ∧ inR v ∧ inR a ∧ inR b), .inr (fun (v, a, b) _ M x M' => x = (if a ≤ v ∧ v ≤ b then 1 else 0) ∧ M' = M)⟩
theorem v_isIn (n : Nn) : Ver tX8_isIn (fdX8, icX8, lcX8, []) 2 3 n c_isIn := by
  rintro ⟨v, a, b⟩ vs M0 ⟨rfl, hv, ha, hb⟩ aw run
  unfold inR at hv ha hb
  change aw 0 [some (.inl v), some (.inl a), some (.inl b)] [] M0
  refine run 20 [] _ _ _ _ ?_
  repeat' first | intro h | refine And.intro ?_ ?_
  all_goals first | omega | (refine Or.inl (And.intro ?_ rfl); omega)
theorem imX8_isIn {l : Launch} {Z : ZT} (hZ : ZOk Z) : Impl l Z yX8_isIn cX8_isIn 3 (some .boolean) 1 c_isIn := mkImpl (rt := 2) (CL := []) hZ.1 hZ.2.1 (by decide +kernel) kX8_isIn fwX8 iwX8 lwX8 trivial (Nat.le_of_ble_eq_true rfl) (fun q h => absurd h List.not_mem_nil) ((v_isIn _))
theorem gX8_127 {l : Launch} {Z : ZT} (hZ : ZOk Z) {d : Nat} (hd : 2 ≤ d) : CallI l Z RX8 d (127, none, c_isIn) := fun p e s m args below meth c Q cc nL x0 X => callOk_S X (imX8_isIn hZ) mlX8_127 sw_yX8_isIn nw_RX8 cw_yX8_isIn ⟨by decide +kernel, by decide +kernel, by decide +kernel⟩ ⟨hd, by decide⟩
/-- at(s, i): the limb, 0 outside -/
def c_at : Call := ⟨Nat × Int × Nat, 3, (fun (s, i, v) vs M => vs = [.inr (.inr 50), .inl (s : Int), .inl i] ∧ s < 37 ∧ inR i ∧ MH M s v ∧ nd v ≤ 420), .inr (fun (_, i, v) _ M x M' => x = dgZ v i ∧ M' = M)⟩
theorem v_at (n : Nn) : Ver tX8_at (fdX8, icX8, lcX8, []) 1 3 n c_at := by
  rintro ⟨s, i, v⟩ vs M0 ⟨rfl, hs, hi, hv, hn⟩ aw run
  unfold inR at hi
  have h1 := hv.1
  have hl : lnF n 52 = 37 := rfl
  have hl2 : lnF n 51 = 15540 := rfl
  change aw 0 [some (.inr (.inr 50)), some (.inl (s : Int)), some (.inl i)] [] M0
  refine run 30 [] _ _ _ _ ?_
  repeat' first | intro h | refine And.intro ?_ ?_
  all_goals try simp only [Int.toNat_natCast] at *
  all_goals first | omega | rfl | trivial | skip
  · exact Or.inl (And.intro (dgZ_neg h).symm rfl)
  · rename_i h9
    refine Or.inl (And.intro ?_ rfl)
    have e := hv.2 i.toNat (by omega)
    have e2 : (420 * (s : Int) + i).toNat = 420 * s + i.toNat := by omega
    show M0 51 (420 * (s : Int) + i).toNat = dgZ v i
    rw [e2]
    unfold dgZ
    rw [if_neg (by omega)]
    exact e
  · refine Or.inl (And.intro ?_ rfl)
    show 0 = dgZ v i
    unfold dgZ
    rw [if_neg (by omega), dg_z (by omega)]
    rfl
theorem imX8_at {l : Launch} {Z : ZT} (hZ : ZOk Z) : Impl l Z yX8_at cX8_at 3 (some .int) 1 c_at := mkImpl (rt := 1) (CL := []) hZ.1 hZ.2.1 (by decide +kernel) kX8_at fwX8 iwX8 lwX8 trivial (Nat.le_of_ble_eq_true rfl) (fun q h => absurd h List.not_mem_nil) ((v_at _))
theorem gX8_76 {l : Launch} {Z : ZT} (hZ : ZOk Z) {d : Nat} (hd : 2 ≤ d) : CallI l Z RX8 d (76, some 8, c_at) := fun p e s m args below meth c Q cc nL x0 X => callOk_V X (imX8_at hZ) (by decide) rfl mlX8_76 iw_yX8_at vw_yX8_at nw_RX8 cw_yX8_at ⟨by decide +kernel, by decide +kernel, by decide +kernel⟩ ⟨hd, by decide⟩
/-- put(s, i, x) -/
def c_put : Call := ⟨Nat × Nat × Int, 4, (fun (s, i, x) vs _ => vs = [.inr (.inr 50), .inl (s : Int), .inl (i : Int), .inl x] ∧ 420 * s + i < 15540), .inl (fun (s, i, x) _ M M' => M' = up2 M 51 (420 * s + i) x)⟩
theorem v_put (n : Nn) : Ver tX8_put (fdX8, icX8, lcX8, []) 0 4 n c_put := by
  rintro ⟨s, i, x⟩ vs M0 ⟨rfl, hs⟩ aw run
  have hl2 : lnF n 51 = 15540 := rfl
  change aw 0 [some (.inr (.inr 50)), some (.inl (s : Int)), some (.inl (i : Int)), some (.inl x)] [] M0
  refine run 30 [] _ _ _ _ ?_
  have e2 : (420 * (s : Int) + (i : Int)).toNat = 420 * s + i := by omega
  repeat' first | intro h | refine And.intro ?_ ?_
  all_goals first | omega | rfl | trivial | skip
  exact Or.inl rfl
theorem imX8_put {l : Launch} {Z : ZT} (hZ : ZOk Z) : Impl l Z yX8_put cX8_put 4 none 1 c_put := mkImpl (rt := 0) (CL := []) hZ.1 hZ.2.1 (by decide +kernel) kX8_put fwX8 iwX8 lwX8 trivial (Nat.le_of_ble_eq_true rfl) (fun q h => absurd h List.not_mem_nil) ((v_put _))
theorem gX8_80 {l : Launch} {Z : ZT} (hZ : ZOk Z) {d : Nat} (hd : 2 ≤ d) : CallI l Z RX8 d (80, some 8, c_put) := fun p e s m args below meth c Q cc nL x0 X => callOk_V X (imX8_put hZ) (by decide) rfl mlX8_80 iw_yX8_put vw_yX8_put nw_RX8 cw_yX8_put ⟨by decide +kernel, by decide +kernel, by decide +kernel⟩ ⟨hd, by decide⟩
/-- fix(s, n): the length is that of the number in the first n limbs -/
def c_fix : Call := ⟨Nat × Nat × Nat, 3, (fun (s, k, v) vs M => vs = [.inr (.inr 50), .inl (s : Int), .inl (k : Int)] ∧ s < 37 ∧ 420 * s + k ≤ 15540 ∧ v < 32768 ^ k ∧ ∀ i, i < k → M 51 (420 * s + i) = (dg v i : Int)), .inl (fun (s, _, v) _ M M' => M' = up2 M 52 s (nd v : Int))⟩
theorem v_fix (n : Nn) : Ver tX8_fix (fdX8, icX8, lcX8, []) 0 4 n c_fix := by
  rintro ⟨s, k, v⟩ vs M0 ⟨rfl, hs, hk, hv, hd⟩ aw run
  have hl2 : lnF n 51 = 15540 := rfl
  have hl : lnF n 52 = 37 := rfl
  have hvk := nd_le.mpr hv
  have loop : ∀ j : Nat, nd v ≤ j → j ≤ k → aw 2 [some (.inr (.inr 50)), some (.inl (s : Int)), some (.inl (k : Int)), some (.inl (j : Int))] [] M0 := by
    intro j
    induction j with
    | zero =>
      intro h1 h2
      have h0 : nd v = 0 := by omega
      refine run 30 [2] _ _ _ _ ?_
      repeat' first | intro h | refine And.intro ?_ ?_
      all_goals first | omega | rfl | trivial | skip
      refine Or.inl ?_
      show up2 M0 52 s 0 = up2 M0 52 s (nd v : Int)
      rw [h0]; rfl
    | succ j ih =>
      intro h1 h2
      have e2 : (420 * (s : Int) + ((j + 1 : Nat) : Int) - 1).toNat = 420 * s + j := by omega
      have hj := hd j (by omega)
      have hlt := dg_lt v j
      refine run 30 [2] _ _ _ _ ?_
      repeat' first | intro h | refine And.intro ?_ ?_
      all_goals try rw [e2] at *
      all_goals first | omega | rfl | trivial | skip
      · refine Or.inl ?_
        show up2 M0 52 s ((j + 1 : Nat) : Int) = up2 M0 52 s (nd v : Int)
        rw [nd_up h1 (by omega)]
      · rw [show ((j + 1 : Nat) : Int) + -1 = (j : Int) by omega]
        exact ih (nd_dn h1 (by omega)) (by omega)
  change aw 0 [some (.inr (.inr 50)), some (.inl (s : Int)), some (.inl (k : Int)), none] [] M0
  refine run 2 [2] _ _ _ _ ?_
  exact ⟨loop k hvk (Nat.le_refl _), trivial⟩
theorem imX8_fix {l : Launch} {Z : ZT} (hZ : ZOk Z) : Impl l Z yX8_fix cX8_fix 4 none 1 c_fix := mkImpl (rt := 0) (CL := []) hZ.1 hZ.2.1 (by decide +kernel) kX8_fix fwX8 iwX8 lwX8 trivial (Nat.le_of_ble_eq_true rfl) (fun q h => absurd h List.not_mem_nil) ((v_fix _))
theorem gX8_85 {l : Launch} {Z : ZT} (hZ : ZOk Z) {d : Nat} (hd : 2 ≤ d) : CallI l Z RX8 d (85, some 8, c_fix) := fun p e s m args below meth c Q cc nL x0 X => callOk_V X (imX8_fix hZ) (by decide) rfl mlX8_85 iw_yX8_fix vw_yX8_fix nw_RX8 cw_yX8_fix ⟨by decide +kernel, by decide +kernel, by decide +kernel⟩ ⟨hd, by decide⟩
end
section
/-! ===== the reference: copies, small numbers, comparison ===== -/
/-- row d of the reference has changed, and nothing else -/
def FrM (M M' : Mem) (d : Nat) : Prop := (∀ o, o ≠ 51 → o ≠ 52 → M' o = M o) ∧ (∀ s, s ≠ d → M' 52 s = M 52 s) ∧ ∀ j, (j < 420 * d ∨ 420 * d + 420 ≤ j) → M' 51 j = M 51 j
theorem FrM.rf (M : Mem) (d : Nat) : FrM M M d := ⟨fun _ _ _ => rfl, fun _ _ => rfl, fun _ _ => rfl⟩
theorem FrM.tr {M M1 M2 : Mem} {d : Nat} (h : FrM M M1 d) (h2 : FrM M1 M2 d) : FrM M M2 d := ⟨fun o a b => (h2.1 o a b).trans (h.1 o a b), fun s a => (h2.2.1 s a).trans (h.2.1 s a), fun j a => (h2.2.2 j a).trans (h.2.2 j a)⟩
theorem FrM.put {M : Mem} {d i : Nat} {x : Int} (h : i < 420) : FrM M (up2 M 51 (420 * d + i) x) d := by
  refine ⟨fun o a _ => up2_i a, fun s _ => ?_, fun j a => ?_⟩
  · rw [up2_i (by decide)]
  · exact up2_k (by omega)
theorem FrM.len {M : Mem} {d : Nat} {x : Int} : FrM M (up2 M 52 d x) d := by
  refine ⟨fun o _ a => up2_i a, fun s h => up2_k h, fun j _ => ?_⟩
  rw [up2_i (by decide)]
/-- the other rows stay -/
theorem FrM.keep {M M' : Mem} {d s v : Nat} (h : FrM M M' d) (hs : s ≠ d) (hv : MH M s v) (hn : nd v ≤ 420) : MH M' s v := by
  refine ⟨(h.2.1 s hs).trans hv.1, fun i hi => ?_⟩
  show M' 51 (420 * s + i) = _
  rw [h.2.2 _ (by omega)]
  exact hv.2 i hi
theorem FrM.o {M M' : Mem} {d o : Nat} (h : FrM M M' d) (h1 : o ≠ 51) (h2 : o ≠ 52) : M' o = M o := h.1 o h1 h2
/-- copy(a, b) -/
def c_copy : Call := ⟨Nat × Nat × Nat, 3, (fun (a, b, v) vs M => vs = [.inr (.inr 50), .inl (a : Int), .inl (b : Int)] ∧ a < 37 ∧ b < 37 ∧ MH M a v ∧ nd v ≤ 420), .inl (fun (_, b, v) _ M M' => MH M' b v ∧ FrM M M' b)⟩
theorem v_copy (n : Nn) : Ver tX8_copy (fdX8, icX8, lcX8, [(76, some 8, c_at), (80, some 8, c_put)]) 0 4 n c_copy := by
  rintro ⟨a, b, v⟩ vs M0 ⟨rfl, ha, hb, hv, hn⟩ aw run
  have hl : lnF n 52 = 37 := rfl
  have loop : ∀ (k i : Nat) (M : Mem), i + k = nd v → MH M a v → FrM M0 M b → (∀ j, j < i → M 51 (420 * b + j) = (dg v j : Int)) → aw 2 [some (.inr (.inr 50)), some (.inl (a : Int)), some (.inl (b : Int)), some (.inl (i : Int))] [] M := by
    intro k
    induction k with
    | zero =>
      intro i M hi hM hF hd
      have h1 := hM.1
      refine run 40 [2] _ _ _ _ ?_
      repeat' first | intro h | refine And.intro ?_ ?_
      all_goals try simp only [Int.toNat_natCast] at *
      all_goals first | omega | rfl | trivial | skip
      refine Or.inl (And.intro (And.intro ?_ ?_) (hF.tr FrM.len))
      · show up2 M 52 b (M 52 a) 52 b = _
        rw [up2_s, h1]
      · intro j hj
        show up2 M 52 b (M 52 a) 51 (420 * b + j) = _
        rw [up2_i (by decide)]
        exact hd j (by omega)
    | succ k ih =>
      intro i M hi hM hF hd
      have h1 := hM.1
      refine run 40 [2] _ _ _ _ ?_
      repeat' first | intro h | refine And.intro ?_ ?_
      all_goals try simp only [Int.toNat_natCast] at *
      all_goals first | omega | rfl | trivial | skip
      refine ⟨(a, (i : Int), v), ⟨rfl, ha, ⟨by omega, by omega⟩, hM, hn⟩, ?_⟩
      rintro x M' ⟨rfl, rfl⟩
      rw [dgZ_n]
      refine ⟨rfl, (b, i, (dg v i : Int)), ⟨rfl, by omega⟩, ?_⟩
      rintro M2 rfl
      refine And.intro ?_ trivial
      have e : ((i : Int) + 1) = ((i + 1 : Nat) : Int) := by omega
      rw [e]
      refine ih (i + 1) _ (by omega) ?_ (hF.tr (FrM.put (by omega))) ?_
      · by_cases hab : a = b
        · subst hab
          refine ⟨hM.1, fun j hj => ?_⟩
          show up2 M' 51 (420 * a + i) (dg v i : Int) 51 (420 * a + j) = _
          by_cases hj2 : j = i
          · rw [hj2, up2_s]
          · rw [up2_k (by omega)]
            exact hM.2 j hj
        · exact (FrM.put (by omega)).keep hab hM hn
      · intro j hj
        by_cases hj2 : j = i
        · rw [hj2, up2_s]
        · rw [up2_k (by omega)]
          exact hd j (by omega)
  change aw 0 [some (.inr (.inr 50)), some (.inl (a : Int)), some (.inl (b : Int)), none] [] M0
  refine run 2 [2] _ _ _ _ ?_
  exact ⟨loop (nd v) 0 M0 (by omega) hv (FrM.rf _ _) (fun j hj => by omega), trivial⟩
theorem imX8_copy {l : Launch} {Z : ZT} (hZ : ZOk Z) : Impl l Z yX8_copy cX8_copy 4 none 2 c_copy := mkImpl (rt := 0) (CL := [(76, some 8, c_at), (80, some 8, c_put)]) hZ.1 hZ.2.1 (by decide +kernel) kX8_copy fwX8 iwX8 lwX8 trivial (Nat.le_of_ble_eq_true rfl) (List.forall_mem_cons.mpr ⟨gX8_76 hZ (by decide), List.forall_mem_cons.mpr ⟨gX8_80 hZ (by decide), fun q h => absurd h List.not_mem_nil⟩⟩) ((v_copy _))
theorem gX8_101 {l : Launch} {Z : ZT} (hZ : ZOk Z) {d : Nat} (hd : 3 ≤ d) : CallI l Z RX8 d (101, some 8, c_copy) := fun p e s m args below meth c Q cc nL x0 X => callOk_V X (imX8_copy hZ) (by decide) rfl mlX8_101 iw_yX8_copy vw_yX8_copy nw_RX8 cw_yX8_copy ⟨by decide +kernel, by decide +kernel, by decide +kernel⟩ ⟨hd, by decide⟩
theorem dv_s (v k : Nat) : v / 32768 ^ k = v / 32768 ^ (k + 1) * 32768 + dg v k := by
  unfold dg
  rw [nn_succ, ← Nat.div_div_eq_div_mul]
  have := Nat.div_add_mod (v / 32768 ^ k) 32768
  omega
theorem dv_lt {a b k : Nat} (h : a / 32768 ^ k < b / 32768 ^ k) : a < b := by
  by_cases hb : a < b
  · exact hb
  · have := Nat.div_le_div_right (c := 32768 ^ k) (show b ≤ a by omega)
    omega
theorem nd_ltv {a b : Nat} (h : nd a < nd b) : a < b := Nat.lt_of_lt_of_le (nd_lt a) (nd_gt.mp h)
theorem dv_nd (v : Nat) : v / 32768 ^ nd v = 0 := Nat.div_eq_of_lt (nd_lt v)
/-- the order of two numbers, as the programs tell it -/
def cm3 (a b : Nat) : Int := if a < b then -1 else if a = b then 0 else 1
theorem cm3_lt {a b : Nat} (h : a < b) : cm3 a b = -1 := by unfold cm3; rw [if_pos h]
theorem cm3_eq (a : Nat) : cm3 a a = 0 := by unfold cm3; rw [if_neg (by omega), if_pos rfl]
theorem cm3_gt {a b : Nat} (h : b < a) : cm3 a b = 1 := by unfold cm3; rw [if_neg (by omega), if_neg (by omega)]
/-- compared(a, b) -/
def c_compared : Call := ⟨Nat × Nat × Nat × Nat, 3, (fun (a, b, v, w) vs M => vs = [.inr (.inr 50), .inl (a : Int), .inl (b : Int)] ∧ a < 37 ∧ b < 37 ∧ MH M a v ∧ nd v ≤ 420 ∧ MH M b w ∧ nd w ≤ 420), .inr (fun (_, _, v, w) _ M x M' => x = cm3 v w ∧ M' = M)⟩
theorem v_compared (n : Nn) : Ver tX8_compared (fdX8, icX8, lcX8, [(76, some 8, c_at)]) 1 4 n c_compared := by
  rintro ⟨a, b, v, w⟩ vs M0 ⟨rfl, ha, hb, hv, hn, hw, hm⟩ aw run
  have hl : lnF n 52 = 37 := rfl
  have h1 := hv.1
  have h2 := hw.1
  have loop : ∀ k : Nat, k ≤ 420 → v / 32768 ^ k = w / 32768 ^ k → aw 45 [some (.inr (.inr 50)), some (.inl (a : Int)), some (.inl (b : Int)), some (.inl ((k : Int) - 1))] [] M0 := by
    intro k
    induction k with
    | zero =>
      intro _ he
      have he : v = w := by simpa using he
      refine run 40 [45] _ _ _ _ ?_
      repeat' first | intro h | refine And.intro ?_ ?_
      all_goals first | omega | rfl | trivial | skip
      refine Or.inl (And.intro ?_ rfl)
      show 0 = cm3 v w
      rw [he, cm3_eq]
    | succ k ih =>
      intro hk he
      have ek : (((k + 1 : Nat) : Int) - 1) = (k : Int) := by omega
      rw [ek]
      have d1 := dv_s v k
      have d2 := dv_s w k
      refine run 40 [45] _ _ _ _ ?_
      repeat' first | intro h | refine And.intro ?_ ?_
      all_goals first | omega | rfl | trivial | skip
      refine ⟨(a, (k : Int), v), ⟨rfl, ha, ⟨by omega, by omega⟩, hv, hn⟩, ?_⟩
      rintro x M' ⟨rfl, rfl⟩
      rw [dgZ_n]
      refine ⟨rfl, (b, (k : Int), w), ⟨rfl, hb, ⟨by omega, by omega⟩, hw, hm⟩, ?_⟩
      rintro y M2 ⟨rfl, rfl⟩
      rw [dgZ_n]
      have q1 := dg_lt v k
      have q2 := dg_lt w k
      repeat' first | intro h | refine And.intro ?_ ?_
      all_goals first | omega | rfl | trivial | skip
      · refine ⟨(a, (k : Int), v), ⟨rfl, ha, ⟨by omega, by omega⟩, hv, hn⟩, ?_⟩
        rintro x M3 ⟨rfl, rfl⟩
        rw [dgZ_n]
        refine ⟨rfl, (b, (k : Int), w), ⟨rfl, hb, ⟨by omega, by omega⟩, hw, hm⟩, ?_⟩
        rintro y M4 ⟨rfl, rfl⟩
        rw [dgZ_n]
        repeat' first | intro h | refine And.intro ?_ ?_
        all_goals first | omega | rfl | trivial | skip
        · refine Or.inl (And.intro ?_ rfl)
          exact (cm3_gt (dv_lt (k := k) (by omega))).symm
        · refine Or.inl (And.intro ?_ rfl)
          exact (cm3_lt (dv_lt (k := k) (by omega))).symm
      · exact ih (by omega) (by omega)
  change aw 0 [some (.inr (.inr 50)), some (.inl (a : Int)), some (.inl (b : Int)), none] [] M0
  refine run 40 [45] _ _ _ _ ?_
  repeat' first | intro h | refine And.intro ?_ ?_
  all_goals try simp only [Int.toNat_natCast] at *
  all_goals first | omega | rfl | trivial | skip
  · rw [h1]
    refine loop (nd v) (by omega) ?_
    rw [dv_nd, show nd v = nd w by omega, dv_nd]
  · refine Or.inl (And.intro ?_ rfl)
    exact (cm3_gt (nd_ltv (by omega))).symm
  · refine Or.inl (And.intro ?_ rfl)
    exact (cm3_lt (nd_ltv (by omega))).symm
theorem imX8_compared {l : Launch} {Z : ZT} (hZ : ZOk Z) : Impl l Z yX8_compared cX8_compared 4 (some .int) 2 c_compared := mkImpl (rt := 1) (CL := [(76, some 8, c_at)]) hZ.1 hZ.2.1 (by decide +kernel) kX8_compared fwX8 iwX8 lwX8 trivial (Nat.le_of_ble_eq_true rfl) (List.forall_mem_cons.mpr ⟨gX8_76 hZ (by decide), fun q h => absurd h List.not_mem_nil⟩) ((v_compared _))
theorem gX8_91 {l : Launch} {Z : ZT} (hZ : ZOk Z) {d : Nat} (hd : 3 ≤ d) : CallI l Z RX8 d (91, some 8, c_compared) := fun p e s m args below meth c Q cc nL x0 X => callOk_V X (imX8_compared hZ) (by decide) rfl mlX8_91 iw_yX8_compared vw_yX8_compared nw_RX8 cw_yX8_compared ⟨by decide +kernel, by decide +kernel, by decide +kernel⟩ ⟨hd, by decide⟩
/-- isOne(s) -/
def c_isOne : Call := ⟨Nat × Nat, 2, (fun (s, v) vs M => vs = [.inr (.inr 50), .inl (s : Int)] ∧ s < 37 ∧ MH M s v ∧ nd v ≤ 420), .inr (fun (_, v) _ M x M' => x = (if v = 1 then 1 else 0) ∧ M' = M)⟩
theorem one_dg {v : Nat} (h : nd v = 1) : v = dg v 0 := by
  have := md_nd (v := v) (n := 1) (by omega)
  unfold dg
  simp at this ⊢
  omega
theorem nd_1 : nd 1 = 1 := by decide
theorem v_isOne (n : Nn) : Ver tX8_isOne (fdX8, icX8, lcX8, [(76, some 8, c_at)]) 2 2 n c_isOne := by
  rintro ⟨s, v⟩ vs M0 ⟨rfl, hs, hv, hn⟩ aw run
  have hl : lnF n 52 = 37 := rfl
  have h1 := hv.1
  change aw 0 [some (.inr (.inr 50)), some (.inl (s : Int))] [] M0
  refine run 40 [] _ _ _ _ ?_
  repeat' first | intro h | refine And.intro ?_ ?_
  all_goals try simp only [Int.toNat_natCast] at *
  all_goals first | omega | rfl | trivial | skip
  · refine Or.inl (And.intro ?_ rfl)
    show 0 = if v = 1 then 1 else 0
    rw [if_neg]
    intro e
    rw [e, nd_1] at h1
    omega
  · refine ⟨(s, 0, v), ⟨rfl, hs, ⟨by omega, by omega⟩, hv, hn⟩, ?_⟩
    rintro x M' ⟨rfl, rfl⟩
    have e0 : dgZ v 0 = (dg v 0 : Int) := dgZ_n v 0
    rw [e0]
    have e1 := one_dg (v := v) (by omega)
    have q1 := dg_lt v 0
    repeat' first | intro h | refine And.intro ?_ ?_
    all_goals first | omega | rfl | trivial | skip
    all_goals refine Or.inl (And.intro ?_ rfl)
    · show 0 = if v = 1 then 1 else 0
      rw [if_neg (by omega)]
    · show 1 = if v = 1 then 1 else 0
      rw [if_pos (by omega)]
theorem imX8_isOne {l : Launch} {Z : ZT} (hZ : ZOk Z) : Impl l Z yX8_isOne cX8_isOne 2 (some .boolean) 2 c_isOne := mkImpl (rt := 2) (CL := [(76, some 8, c_at)]) hZ.1 hZ.2.1 (by decide +kernel) kX8_isOne fwX8 iwX8 lwX8 trivial (Nat.le_of_ble_eq_true rfl) (List.forall_mem_cons.mpr ⟨gX8_76 hZ (by decide), fun q h => absurd h List.not_mem_nil⟩) ((v_isOne _))
theorem gX8_165 {l : Launch} {Z : ZT} (hZ : ZOk Z) {d : Nat} (hd : 3 ≤ d) : CallI l Z RX8 d (165, some 8, c_isOne) := fun p e s m args below meth c Q cc nL x0 X => callOk_V X (imX8_isOne hZ) (by decide) rfl mlX8_165 iw_yX8_isOne vw_yX8_isOne nw_RX8 cw_yX8_isOne ⟨by decide +kernel, by decide +kernel, by decide +kernel⟩ ⟨hd, by decide⟩
/-- small(s, v) -/
def c_small : Call := ⟨Nat × Nat, 3, (fun (s, v) vs _ => vs = [.inr (.inr 50), .inl (s : Int), .inl (v : Int)] ∧ s < 37 ∧ v < 1073741824), .inl (fun (s, v) _ M M' => MH M' s v ∧ FrM M M' s)⟩
theorem MH_fix {M : Mem} {s v k : Nat} (h : ∀ i, i < k → M 51 (420 * s + i) = (dg v i : Int)) (hv : v < 32768 ^ k) : MH (up2 M 52 s (nd v : Int)) s v := by
  refine ⟨up2_s, fun i hi => ?_⟩
  show up2 M 52 s (nd v : Int) 51 (420 * s + i) = _
  rw [up2_i (by decide)]
  exact h i (Nat.lt_of_lt_of_le hi (nd_le.mpr hv))
theorem v_small (n : Nn) : Ver tX8_small (fdX8, icX8, lcX8, [(80, some 8, c_put), (85, some 8, c_fix)]) 0 3 n c_small := by
  rintro ⟨s, v⟩ vs M0 ⟨rfl, hs, hv⟩ aw run
  have e0 : (v : Int) % 32768 = (dg v 0 : Int) := by unfold dg; simp
  have e1 : (v : Int) / 32768 = (dg v 1 : Int) := by unfold dg; simp; omega
  change aw 0 [some (.inr (.inr 50)), some (.inl (s : Int)), some (.inl (v : Int))] [] M0
  refine run 40 [] _ _ _ _ ?_
  repeat' first | intro h | refine And.intro ?_ ?_
  all_goals first | omega | rfl | trivial | skip
  rw [e0]
  refine ⟨(s, 0, (dg v 0 : Int)), ⟨rfl, by omega⟩, ?_⟩
  rintro M1 rfl
  refine And.intro ⟨by omega, by omega, ⟨by omega, by omega⟩, ⟨by omega, by omega⟩⟩ (And.intro rfl ?_)
  rw [e1]
  refine ⟨(s, 1, (dg v 1 : Int)), ⟨rfl, by omega⟩, ?_⟩
  rintro M2 rfl
  have hd : ∀ i, i < 2 → up2 (up2 M0 51 (420 * s + 0) (dg v 0 : Int)) 51 (420 * s + 1) (dg v 1 : Int) 51 (420 * s + i) = (dg v i : Int) := by
    intro i hi
    rcases (show i = 0 ∨ i = 1 by omega) with rfl | rfl
    · rw [up2_k (by omega), up2_s]
    · rw [up2_s]
  refine And.intro rfl ⟨(s, 2, v), ⟨rfl, hs, by omega, by omega, hd⟩, ?_⟩
  rintro M3 rfl
  exact Or.inl (And.intro (MH_fix hd (by omega)) (((FrM.put (by omega)).tr (FrM.put (by omega))).tr FrM.len))
theorem imX8_small {l : Launch} {Z : ZT} (hZ : ZOk Z) : Impl l Z yX8_small cX8_small 3 none 2 c_small := mkImpl (rt := 0) (CL := [(80, some 8, c_put), (85, some 8, c_fix)]) hZ.1 hZ.2.1 (by decide +kernel) kX8_small fwX8 iwX8 lwX8 trivial (Nat.le_of_ble_eq_true rfl) (List.forall_mem_cons.mpr ⟨gX8_80 hZ (by decide), List.forall_mem_cons.mpr ⟨gX8_85 hZ (by decide), fun q h => absurd h List.not_mem_nil⟩⟩) ((v_small _))
theorem gX8_94 {l : Launch} {Z : ZT} (hZ : ZOk Z) {d : Nat} (hd : 3 ≤ d) : CallI l Z RX8 d (94, some 8, c_small) := fun p e s m args below meth c Q cc nL x0 X => callOk_V X (imX8_small hZ) (by decide) rfl mlX8_94 iw_yX8_small vw_yX8_small nw_RX8 cw_yX8_small ⟨by decide +kernel, by decide +kernel, by decide +kernel⟩ ⟨hd, by decide⟩
end
section
/-! ===== the reference: sums and differences ===== -/
/-- what is carried into digit i of a + b -/
def cyA (a b i : Nat) : Nat := (a % 32768 ^ i + b % 32768 ^ i) / 32768 ^ i
theorem md_dv (x i : Nat) : x / 32768 ^ i % 32768 = x % 32768 ^ (i + 1) / 32768 ^ i := by
  rw [nn_succ, Nat.mod_mul_right_div_self]
theorem cyA_t (a b i : Nat) : dg a i + dg b i + cyA a b i = (a % 32768 ^ (i + 1) + b % 32768 ^ (i + 1)) / 32768 ^ i := by
  unfold cyA
  rw [md_s a, md_s b, show a % 32768 ^ i + 32768 ^ i * dg a i + (b % 32768 ^ i + 32768 ^ i * dg b i) = (a % 32768 ^ i + b % 32768 ^ i) + 32768 ^ i * (dg a i + dg b i) by rw [Nat.mul_add]; omega, Nat.add_mul_div_left _ _ (nn_pos i)]
  omega
theorem cyA_d (a b i : Nat) : (dg a i + dg b i + cyA a b i) % 32768 = dg (a + b) i := by
  rw [cyA_t, md_dv]
  unfold dg
  rw [md_dv, ← Nat.add_mod]
theorem cyA_s (a b i : Nat) : (dg a i + dg b i + cyA a b i) / 32768 = cyA a b (i + 1) := by
  rw [cyA_t]
  unfold cyA
  rw [Nat.div_div_eq_div_mul, ← nn_succ]
theorem cyA_0 (a b : Nat) : cyA a b 0 = 0 := by simp [cyA, Nat.mod_one]
theorem cyA_lt (a b i : Nat) : cyA a b i < 2 := by
  unfold cyA
  have h1 := Nat.mod_lt a (nn_pos i)
  have h2 := Nat.mod_lt b (nn_pos i)
  rw [Nat.div_lt_iff_lt_mul (nn_pos i)]
  omega
theorem cyA_top {a b n : Nat} (ha : nd a ≤ n) (hb : nd b ≤ n) : cyA a b n = dg (a + b) n ∧ a + b < 32768 ^ (n + 1) := by
  have e : cyA a b n = (a + b) / 32768 ^ n := by unfold cyA; rw [md_nd ha, md_nd hb]
  have h2 := cyA_lt a b n
  have h3 : a + b < 32768 ^ (n + 1) := by
    rw [nn_succ]
    have h4 := nd_le.mp ha
    have h5 := nd_le.mp hb
    omega
  refine ⟨?_, h3⟩
  unfold dg
  rw [← e, Nat.mod_eq_of_lt (by omega)]
/-- sum(a, b, d) -/
def c_sum : Call := ⟨Nat × Nat × Nat × Nat × Nat, 4, (fun (a, b, d, v, w) vs M => vs = [.inr (.inr 50), .inl (a : Int), .inl (b : Int), .inl (d : Int)] ∧ a < 37 ∧ b < 37 ∧ d < 37 ∧ a ≠ d ∧ b ≠ d ∧ MH M a v ∧ nd v ≤ 400 ∧ MH M b w ∧ nd w ≤ 400), .inl (fun (_, _, d, v, w) _ M M' => MH M' d (v + w) ∧ FrM M M' d)⟩
theorem v_sum (n : Nn) : Ver tX8_sum (fdX8, icX8, lcX8, [(76, some 8, c_at), (80, some 8, c_put), (85, some 8, c_fix)]) 0 8 n c_sum := by
  rintro ⟨a, b, d, v, w⟩ vs M0 ⟨rfl, ha, hb, hd, had, hbd, hv, hn, hw, hm⟩ aw run
  have hl : lnF n 52 = 37 := rfl
  have h1 := hv.1
  have h2 := hw.1
  have loop : ∀ (N k i : Nat) (M : Mem) (o7 : Option AV), nd v ≤ N → nd w ≤ N → N ≤ 400 → i + k = N → MH M a v → MH M b w → FrM M0 M d → (∀ j, j < i → M 51 (420 * d + j) = (dg (v + w) j : Int)) → aw 38 [some (.inr (.inr 50)), some (.inl (a : Int)), some (.inl (b : Int)), some (.inl (d : Int)), some (.inl (N : Int)), some (.inl (cyA v w i : Int)), some (.inl (i : Int)), o7] [] M := by
    intro N k
    induction k with
    | zero =>
      intro i M o7 q1 q2 q3 hi hA hB hF hD
      obtain rfl : i = N := by omega
      obtain ⟨t1, t2⟩ := cyA_top q1 q2
      refine run 60 [38] _ _ _ _ ?_
      repeat' first | intro h | refine And.intro ?_ ?_
      all_goals first | omega | rfl | trivial | skip
      refine ⟨(d, i, (cyA v w i : Int)), ⟨rfl, by omega⟩, ?_⟩
      rintro M1 rfl
      have hD2 : ∀ j, j < i + 1 → up2 M 51 (420 * d + i) (cyA v w i : Int) 51 (420 * d + j) = (dg (v + w) j : Int) := by
        intro j hj
        by_cases hj2 : j = i
        · rw [hj2, up2_s, t1]
        · rw [up2_k (by omega)]
          exact hD j (by omega)
      refine And.intro rfl ⟨(d, i + 1, v + w), ⟨rfl, hd, by omega, t2, hD2⟩, ?_⟩
      rintro M2 rfl
      exact Or.inl (And.intro (MH_fix hD2 t2) ((hF.tr (FrM.put (by omega))).tr FrM.len))
    | succ k ih =>
      intro i M o7 q1 q2 q3 hi hA hB hF hD
      have g1 := dg_lt v i
      have g2 := dg_lt w i
      have g3 := cyA_lt v w i
      refine run 60 [38] _ _ _ _ ?_
      repeat' first | intro h | refine And.intro ?_ ?_
      all_goals first | omega | rfl | trivial | skip
      refine ⟨(a, (i : Int), v), ⟨rfl, ha, ⟨by omega, by omega⟩, hA, by omega⟩, ?_⟩
      rintro x M1 ⟨rfl, rfl⟩
      rw [dgZ_n]
      refine ⟨rfl, (b, (i : Int), w), ⟨rfl, hb, ⟨by omega, by omega⟩, hB, by omega⟩, ?_⟩
      rintro y M2 ⟨rfl, rfl⟩
      rw [dgZ_n]
      refine And.intro ⟨by omega, by omega, ⟨by omega, by omega⟩, ⟨by omega, by omega⟩⟩ (And.intro rfl ?_)
      have e1 : ((dg v i : Int) + (dg w i : Int) + (cyA v w i : Int)) % 32768 = (dg (v + w) i : Int) := by rw [← cyA_d]; omega
      have e2 : ((dg v i : Int) + (dg w i : Int) + (cyA v w i : Int)) / 32768 = (cyA v w (i + 1) : Int) := by rw [← cyA_s]; omega
      rw [e1]
      refine ⟨(d, i, (dg (v + w) i : Int)), ⟨rfl, by omega⟩, ?_⟩
      rintro M3 rfl
      refine And.intro ⟨by omega, by omega, ⟨by omega, by omega⟩, ⟨by omega, by omega⟩⟩ (And.intro ?_ trivial)
      rw [e2, show ((i : Int) + 1) = ((i + 1 : Nat) : Int) by omega]
      refine ih (i + 1) _ _ q1 q2 q3 (by omega) ((FrM.put (by omega)).keep had hA (by omega)) ((FrM.put (by omega)).keep hbd hB (by omega)) (hF.tr (FrM.put (by omega))) ?_
      intro j hj
      by_cases hj2 : j = i
      · rw [hj2, up2_s]
      · rw [up2_k (by omega)]
        exact hD j (by omega)
  change aw 0 [some (.inr (.inr 50)), some (.inl (a : Int)), some (.inl (b : Int)), some (.inl (d : Int)), none, none, none, none] [] M0
  refine run 40 [38] _ _ _ _ ?_
  repeat' first | intro h | refine And.intro ?_ ?_
  all_goals try simp only [Int.toNat_natCast] at *
  all_goals first | omega | rfl | trivial | skip
  · rw [h2]
    have := loop (nd w) (nd w) 0 M0 none (by omega) (by omega) (by omega) (by omega) hv hw (FrM.rf _ _) (fun j hj => by omega)
    rw [cyA_0] at this
    exact this
  · rw [h1]
    have := loop (nd v) (nd v) 0 M0 none (by omega) (by omega) (by omega) (by omega) hv hw (FrM.rf _ _) (fun j hj => by omega)
    rw [cyA_0] at this
    exact this
theorem imX8_sum {l : Launch} {Z : ZT} (hZ : ZOk Z) : Impl l Z yX8_sum cX8_sum 8 none 2 c_sum := mkImpl (rt := 0) (CL := [(76, some 8, c_at), (80, some 8, c_put), (85, some 8, c_fix)]) hZ.1 hZ.2.1 (by decide +kernel) kX8_sum fwX8 iwX8 lwX8 trivial (Nat.le_of_ble_eq_true rfl) (List.forall_mem_cons.mpr ⟨gX8_76 hZ (by decide), List.forall_mem_cons.mpr ⟨gX8_80 hZ (by decide), List.forall_mem_cons.mpr ⟨gX8_85 hZ (by decide), fun q h => absurd h List.not_mem_nil⟩⟩⟩) ((v_sum _))
theorem gX8_150 {l : Launch} {Z : ZT} (hZ : ZOk Z) {d : Nat} (hd : 3 ≤ d) : CallI l Z RX8 d (150, some 8, c_sum) := fun p e s m args below meth c Q cc nL x0 X => callOk_V X (imX8_sum hZ) (by decide) rfl mlX8_150 iw_yX8_sum vw_yX8_sum nw_RX8 cw_yX8_sum ⟨by decide +kernel, by decide +kernel, by decide +kernel⟩ ⟨hd, by decide⟩
end
section
/-! ===== the reference: differences ===== -/
def bwA (a b i : Nat) : Nat := if a % 32768 ^ i < b % 32768 ^ i then 1 else 0
theorem bwA_0 (a b : Nat) : bwA a b 0 = 0 := by simp [bwA, Nat.mod_one]
theorem bwA_lt (a b i : Nat) : bwA a b i < 2 := by unfold bwA; split <;> omega
theorem bwA_s (a b i : Nat) : ((dg a i : Int) - (dg b i : Int) - (bwA a b i : Int) < 0 → bwA a b (i + 1) = 1) ∧ (0 ≤ (dg a i : Int) - (dg b i : Int) - (bwA a b i : Int) → bwA a b (i + 1) = 0) := by
  have h1 := md_s a i
  have h2 := md_s b i
  have h3 := Nat.mod_lt a (nn_pos i)
  have h4 := Nat.mod_lt b (nn_pos i)
  have key : a % 32768 ^ (i + 1) < b % 32768 ^ (i + 1) ↔ (dg a i : Int) - (dg b i : Int) - (bwA a b i : Int) < 0 := by
    rw [h1, h2]
    rcases Nat.lt_trichotomy (dg a i) (dg b i) with h | h | h
    · have := Nat.mul_le_mul_left (32768 ^ i) (show dg a i + 1 ≤ dg b i by omega)
      rw [Nat.mul_add, Nat.mul_one] at this
      omega
    · rw [h]
      unfold bwA
      split <;> omega
    · have := Nat.mul_le_mul_left (32768 ^ i) (show dg b i + 1 ≤ dg a i by omega)
      rw [Nat.mul_add, Nat.mul_one] at this
      have := bwA_lt a b i
      omega
  constructor
  · intro h
    show (if a % 32768 ^ (i + 1) < b % 32768 ^ (i + 1) then 1 else 0) = 1
    rw [if_pos (key.mpr h)]
  · intro h
    show (if a % 32768 ^ (i + 1) < b % 32768 ^ (i + 1) then 1 else 0) = 0
    rw [if_neg (fun q => by have := key.mp q; omega)]
theorem bwA_q {a b : Nat} (h : b ≤ a) (i : Nat) : a / 32768 ^ i = (a - b) / 32768 ^ i + b / 32768 ^ i + bwA a b i := by
  have hp := nn_pos i
  have h1 := Nat.div_add_mod a (32768 ^ i)
  have h2 := Nat.div_add_mod b (32768 ^ i)
  have h3 := Nat.mod_lt a hp
  have h4 := Nat.mod_lt b hp
  have h5 := bwA_lt a b i
  generalize hA : a / 32768 ^ i = A at *
  generalize hB : b / 32768 ^ i = B at *
  have hAB : B + bwA a b i ≤ A := by
    unfold bwA
    split
    · rename_i hlt
      by_cases q : B + 1 ≤ A
      · exact q
      · have := Nat.mul_le_mul_left (32768 ^ i) (show A ≤ B by omega)
        omega
    · by_cases q : B ≤ A
      · omega
      · have := Nat.mul_le_mul_left (32768 ^ i) (show A + 1 ≤ B by omega)
        rw [Nat.mul_add, Nat.mul_one] at this
        omega
  have hc : (a % 32768 ^ i < b % 32768 ^ i ∧ bwA a b i = 1) ∨ (b % 32768 ^ i ≤ a % 32768 ^ i ∧ bwA a b i = 0) := by
    unfold bwA
    split
    · exact Or.inl ⟨by assumption, rfl⟩
    · exact Or.inr ⟨by omega, rfl⟩
  have e : (a - b) / 32768 ^ i = A - B - bwA a b i := by
    have hm := Nat.mul_le_mul_left (32768 ^ i) hAB
    rw [Nat.mul_add] at hm
    rcases hc with ⟨c1, c2⟩ | ⟨c1, c2⟩
    · rw [c2] at hm ⊢
      rw [Nat.mul_one] at hm
      apply Nat.div_eq_of_lt_le
      · rw [Nat.sub_mul, Nat.sub_mul, Nat.mul_comm A, Nat.mul_comm B]
        omega
      · rw [Nat.add_mul, Nat.sub_mul, Nat.sub_mul, Nat.mul_comm A, Nat.mul_comm B]
        omega
    · rw [c2] at hm ⊢
      apply Nat.div_eq_of_lt_le
      · rw [Nat.sub_mul, Nat.sub_mul, Nat.mul_comm A, Nat.mul_comm B]
        omega
      · rw [Nat.add_mul, Nat.sub_mul, Nat.sub_mul, Nat.mul_comm A, Nat.mul_comm B]
        omega
  omega
theorem bwA_d {a b : Nat} (h : b ≤ a) (i : Nat) : ((dg a i : Int) - (dg b i : Int) - (bwA a b i : Int) < 0 → (dg a i : Int) - (dg b i : Int) - (bwA a b i : Int) + 32768 = (dg (a - b) i : Int)) ∧ (0 ≤ (dg a i : Int) - (dg b i : Int) - (bwA a b i : Int) → (dg a i : Int) - (dg b i : Int) - (bwA a b i : Int) = (dg (a - b) i : Int)) := by
  have h1 := bwA_q h i
  have h2 := bwA_lt a b i
  unfold dg
  omega
/-- difference(a, b, d) -/
def c_difference : Call := ⟨Nat × Nat × Nat × Nat × Nat, 4, (fun (a, b, d, v, w) vs M => vs = [.inr (.inr 50), .inl (a : Int), .inl (b : Int), .inl (d : Int)] ∧ a < 37 ∧ b < 37 ∧ d < 37 ∧ a ≠ d ∧ b ≠ d ∧ MH M a v ∧ nd v ≤ 400 ∧ MH M b w ∧ w ≤ v), .inl (fun (_, _, d, v, w) _ M M' => MH M' d (v - w) ∧ FrM M M' d)⟩
theorem v_difference (n : Nn) : Ver tX8_difference (fdX8, icX8, lcX8, [(76, some 8, c_at), (80, some 8, c_put), (85, some 8, c_fix)]) 0 8 n c_difference := by
  rintro ⟨a, b, d, v, w⟩ vs M0 ⟨rfl, ha, hb, hd, had, hbd, hv, hn, hw, hwv⟩ aw run
  have hl : lnF n 52 = 37 := rfl
  have h1 := hv.1
  have hm := nd_mono hwv
  have loop : ∀ (k i : Nat) (M : Mem) (o7 : Option AV), i + k = nd v → MH M a v → MH M b w → FrM M0 M d → (∀ j, j < i → M 51 (420 * d + j) = (dg (v - w) j : Int)) → aw 14 [some (.inr (.inr 50)), some (.inl (a : Int)), some (.inl (b : Int)), some (.inl (d : Int)), some (.inl (nd v : Int)), some (.inl (bwA v w i : Int)), some (.inl (i : Int)), o7] [] M := by
    intro k
    induction k with
    | zero =>
      intro i M o7 hi hA hB hF hD
      obtain rfl : i = nd v := by omega
      have t2 : v - w < 32768 ^ nd v := Nat.lt_of_le_of_lt (Nat.sub_le _ _) (nd_lt v)
      refine run 60 [14] _ _ _ _ ?_
      repeat' first | intro h | refine And.intro ?_ ?_
      all_goals first | omega | rfl | trivial | skip
      refine ⟨(d, nd v, v - w), ⟨rfl, hd, by omega, t2, hD⟩, ?_⟩
      rintro M2 rfl
      exact Or.inl (And.intro (MH_fix hD t2) (hF.tr FrM.len))
    | succ k ih =>
      intro i M o7 hi hA hB hF hD
      have g1 := dg_lt v i
      have g2 := dg_lt w i
      have g3 := bwA_lt v w i
      have s1 := bwA_s v w i
      have s2 := bwA_d hwv i
      have fin : ∀ (x : Int) (o7 : Option AV), x = (dg (v - w) i : Int) → aw 14 [some (.inr (.inr 50)), some (.inl (a : Int)), some (.inl (b : Int)), some (.inl (d : Int)), some (.inl (nd v : Int)), some (.inl (bwA v w (i + 1) : Int)), some (.inl ((i : Int) + 1)), o7] [] (up2 M 51 (420 * d + i) x) := by
        intro x o7 hx
        rw [hx, show ((i : Int) + 1) = ((i + 1 : Nat) : Int) by omega]
        refine ih (i + 1) _ _ (by omega) ((FrM.put (by omega)).keep had hA (by omega)) ((FrM.put (by omega)).keep hbd hB (by omega)) (hF.tr (FrM.put (by omega))) ?_
        intro j hj
        by_cases hj2 : j = i
        · rw [hj2, up2_s]
        · rw [up2_k (by omega)]
          exact hD j (by omega)
      refine run 60 [14] _ _ _ _ ?_
      repeat' first | intro h | refine And.intro ?_ ?_
      all_goals first | omega | rfl | trivial | skip
      refine ⟨(a, (i : Int), v), ⟨rfl, ha, ⟨by omega, by omega⟩, hA, by omega⟩, ?_⟩
      rintro x M1 ⟨rfl, rfl⟩
      rw [dgZ_n]
      refine ⟨rfl, (b, (i : Int), w), ⟨rfl, hb, ⟨by omega, by omega⟩, hB, by omega⟩, ?_⟩
      rintro y M2 ⟨rfl, rfl⟩
      rw [dgZ_n]
      repeat' first | intro h | refine And.intro ?_ ?_
      all_goals first | omega | rfl | trivial | skip
      · refine ⟨(d, i, _), ⟨rfl, by omega⟩, ?_⟩
        rintro M3 rfl
        refine And.intro ?_ trivial
        have := fin _ (some (.inl ((dg v i : Int) - (dg w i : Int) - (bwA v w i : Int)))) (s2.2 (by omega))
        rw [s1.2 (by omega)] at this
        exact this
      · refine ⟨(d, i, _), ⟨rfl, by omega⟩, ?_⟩
        rintro M3 rfl
        refine And.intro ?_ trivial
        have := fin _ (some (.inl ((dg v i : Int) - (dg w i : Int) - (bwA v w i : Int)))) (s2.1 (by omega))
        rw [s1.1 (by omega)] at this
        exact this
  change aw 0 [some (.inr (.inr 50)), some (.inl (a : Int)), some (.inl (b : Int)), some (.inl (d : Int)), none, none, none, none] [] M0
  refine run 40 [14] _ _ _ _ ?_
  repeat' first | intro h | refine And.intro ?_ ?_
  all_goals try simp only [Int.toNat_natCast] at *
  all_goals first | omega | rfl | trivial | skip
  rw [h1]
  have := loop (nd v) 0 M0 none (by omega) hv hw (FrM.rf _ _) (fun j hj => by omega)
  rw [bwA_0] at this
  exact this
theorem imX8_difference {l : Launch} {Z : ZT} (hZ : ZOk Z) : Impl l Z yX8_difference cX8_difference 8 none 2 c_difference := mkImpl (rt := 0) (CL := [(76, some 8, c_at), (80, some 8, c_put), (85, some 8, c_fix)]) hZ.1 hZ.2.1 (by decide +kernel) kX8_difference fwX8 iwX8 lwX8 trivial (Nat.le_of_ble_eq_true rfl) (List.forall_mem_cons.mpr ⟨gX8_76 hZ (by decide), List.forall_mem_cons.mpr ⟨gX8_80 hZ (by decide), List.forall_mem_cons.mpr ⟨gX8_85 hZ (by decide), fun q h => absurd h List.not_mem_nil⟩⟩⟩) ((v_difference _))
theorem gX8_156 {l : Launch} {Z : ZT} (hZ : ZOk Z) {d : Nat} (hd : 3 ≤ d) : CallI l Z RX8 d (156, some 8, c_difference) := fun p e s m args below meth c Q cc nL x0 X => callOk_V X (imX8_difference hZ) (by decide) rfl mlX8_156 iw_yX8_difference vw_yX8_difference nw_RX8 cw_yX8_difference ⟨by decide +kernel, by decide +kernel, by decide +kernel⟩ ⟨hd, by decide⟩
end
section
/-! ===== products, column by column ===== -/
/-- the first m terms of column k -/
def cs (a b k m : Nat) : Nat := match m with
  | 0 => 0
  | m + 1 => cs a b k m + dg a m * dg b (k - m)
/-- the first K columns -/
def sS (a b K : Nat) : Nat := match K with
  | 0 => 0
  | K + 1 => sS a b K + cs a b K (K + 1) * 32768 ^ K
def cyP (a b K : Nat) : Nat := sS a b K / 32768 ^ K
theorem dg_div (a i : Nat) : dg (a / 32768) i = dg a (i + 1) := by
  unfold dg
  rw [Nat.div_div_eq_div_mul, nn_succ, Nat.mul_comm]
theorem cs_shift (a b k m : Nat) : cs a b (k + 1) (m + 1) = dg a 0 * dg b (k + 1) + cs (a / 32768) b k m := by
  induction m with
  | zero => simp [cs]
  | succ m ih =>
    rw [cs, ih, cs, dg_div, Nat.succ_sub_succ]
    omega
theorem sS_rec (a b K : Nat) : sS a b (K + 1) = dg a 0 * (b % 32768 ^ (K + 1)) + 32768 * sS (a / 32768) b K := by
  induction K with
  | zero => simp [sS, cs, dg]
  | succ K ih =>
    rw [sS, ih, cs_shift, md_s b (K + 1), sS, nn_succ]
    generalize cs (a / 32768) b K (K + 1) = x
    generalize sS (a / 32768) b K = y
    generalize dg a 0 = z
    generalize dg b (K + 1) = u
    generalize b % (32768 ^ K * 32768) = t
    generalize 32768 ^ K = q
    grind
theorem sS_mod (b K : Nat) : ∀ a : Nat, sS a b K % 32768 ^ K = (a * b) % 32768 ^ K := by
  induction K with
  | zero => intro a; simp [Nat.mod_one]
  | succ K ih =>
    intro a
    have ha : a = 32768 * (a / 32768) + dg a 0 := by unfold dg; simp; omega
    have e1 : (32768 * sS (a / 32768) b K) % 32768 ^ (K + 1) = (32768 * (a / 32768 * b)) % 32768 ^ (K + 1) := by
      rw [nn_succ, Nat.mul_comm (32768 ^ K), Nat.mul_mod_mul_left, Nat.mul_mod_mul_left, ih]
    have e2 : (dg a 0 * (b % 32768 ^ (K + 1))) % 32768 ^ (K + 1) = (dg a 0 * b) % 32768 ^ (K + 1) := by
      rw [Nat.mul_mod, Nat.mod_mod, ← Nat.mul_mod]
    rw [sS_rec, Nat.add_mod, e1, e2, ← Nat.add_mod]
    congr 1
    have : a * b = (32768 * (a / 32768) + dg a 0) * b := by rw [← ha]
    rw [this, Nat.add_mul, Nat.mul_assoc]
    omega
theorem cyP_t (a b K : Nat) : cyP a b K + cs a b K (K + 1) = sS a b (K + 1) / 32768 ^ K := by
  unfold cyP
  rw [sS, Nat.add_mul_div_right _ _ (nn_pos K)]
theorem cyP_d (a b K : Nat) : (cyP a b K + cs a b K (K + 1)) % 32768 = dg (a * b) K := by
  rw [cyP_t, md_dv, sS_mod]
  unfold dg
  rw [md_dv]
theorem cyP_s (a b K : Nat) : (cyP a b K + cs a b K (K + 1)) / 32768 = cyP a b (K + 1) := by
  rw [cyP_t, Nat.div_div_eq_div_mul, ← nn_succ]
  rfl
theorem cyP_0 (a b : Nat) : cyP a b 0 = 0 := by simp [cyP, sS]
theorem cs_le (a b k m : Nat) : cs a b k m ≤ m * 1073676289 := by
  induction m with
  | zero => simp [cs]
  | succ m ih =>
    rw [cs]
    have h1 := dg_lt a m
    have h2 := dg_lt b (k - m)
    have := Nat.mul_le_mul (show dg a m ≤ 32767 by omega) (show dg b (k - m) ≤ 32767 by omega)
    omega
theorem cyP_le (a b K : Nat) (h : K ≤ 400) : cyP a b K ≤ 13107200 := by
  induction K with
  | zero => rw [cyP_0]; omega
  | succ K ih =>
    rw [← cyP_s]
    have := cs_le a b K (K + 1)
    have := ih (by omega)
    omega
theorem cs_low {a b k m : Nat} (h : ∀ j, j < m → dg b (k - j) = 0) : cs a b k m = 0 := by
  induction m with
  | zero => rfl
  | succ m ih => rw [cs, ih (fun j hj => h j (by omega)), h m (by omega)]; simp
theorem cs_up {a b k m : Nat} (h : nd a ≤ m) : ∀ j, cs a b k (m + j) = cs a b k m := by
  intro j
  induction j with
  | zero => rfl
  | succ j ih => rw [← Nat.add_assoc, cs, ih, dg_z (by omega)]; simp
theorem nd_mul (a b : Nat) : a * b < 32768 ^ (nd a + nd b) := by
  rw [Nat.pow_add]
  exact Nat.mul_lt_mul'' (nd_lt a) (nd_lt b)
/-- product(a, b, d) -/
def c_product : Call := ⟨Nat × Nat × Nat × Nat × Nat, 4, (fun (a, b, d, v, w) vs M => vs = [.inr (.inr 50), .inl (a : Int), .inl (b : Int), .inl (d : Int)] ∧ a < 37 ∧ b < 37 ∧ d < 37 ∧ a ≠ d ∧ b ≠ d ∧ MH M a v ∧ MH M b w ∧ nd v + nd w ≤ 400), .inl (fun (_, _, d, v, w) _ M M' => MH M' d (v * w) ∧ FrM M M' d)⟩
theorem v_product (n : Nn) : Ver tX8_product (fdX8, icX8, lcX8, [(76, some 8, c_at), (80, some 8, c_put), (85, some 8, c_fix)]) 0 10 n c_product := by
  rintro ⟨a, b, d, v, w⟩ vs M0 ⟨rfl, ha, hb, hd, had, hbd, hv, hw, hn⟩ aw run
  have hl : lnF n 52 = 37 := rfl
  have loop : ∀ (r k : Nat) (M : Mem) (o8 o9 : Option AV), k + r = nd v + nd w → MH M a v → MH M b w → FrM M0 M d → (∀ j, j < k → M 51 (420 * d + j) = (dg (v * w) j : Int)) → aw 21 [some (.inr (.inr 50)), some (.inl (a : Int)), some (.inl (b : Int)), some (.inl (d : Int)), some (.inl ((nd v : Int) + (nd w : Int))), some (.inr (.inl (cyP v w k : Int))), none, some (.inl (k : Int)), o8, o9] [] M := by
    intro r
    induction r with
    | zero =>
      intro k M o8 o9 hk hA hB hF hD
      obtain rfl : k = nd v + nd w := by omega
      refine run 60 [21, 63] _ _ _ _ ?_
      repeat' first | intro h | refine And.intro ?_ ?_
      all_goals first | omega | rfl | trivial | skip
      refine ⟨(d, nd v + nd w, v * w), ⟨rfl, hd, by omega, nd_mul v w, hD⟩, ?_⟩
      rintro M2 rfl
      exact Or.inl (And.intro (MH_fix hD (nd_mul v w)) (hF.tr FrM.len))
    | succ r ih =>
      intro k M o8 o9 hk hA hB hF hD
      have hA1 := hA.1
      have hB1 := hB.1
      have hcy := cyP_le v w k (by omega)
      have fin : ∀ (o8 o9 : Option AV), aw 112 [some (.inr (.inr 50)), some (.inl (a : Int)), some (.inl (b : Int)), some (.inl (d : Int)), some (.inl ((nd v : Int) + (nd w : Int))), some (.inr (.inl ((cyP v w k + cs v w k (k + 1) : Nat) : Int))), none, some (.inl (k : Int)), o8, o9] [] M := by
        intro o8 o9
        have hcs := cs_le v w k (k + 1)
        have e1 : (((cyP v w k + cs v w k (k + 1) : Nat) : Int)) % 32768 = (dg (v * w) k : Int) := by rw [← cyP_d]; omega
        have e2 : (((cyP v w k + cs v w k (k + 1) : Nat) : Int)) / 32768 = (cyP v w (k + 1) : Int) := by rw [← cyP_s]; omega
        refine run 60 [21, 63] _ _ _ _ ?_
        refine And.intro ⟨by omega, by omega, ⟨by omega, by omega⟩, ⟨by omega, by omega⟩⟩ (And.intro rfl ?_)
        rw [e1]
        refine ⟨(d, k, (dg (v * w) k : Int)), ⟨rfl, by omega⟩, ?_⟩
        rintro M3 rfl
        refine And.intro ⟨by omega, by omega, ⟨by omega, by omega⟩, ⟨by omega, by omega⟩⟩ (And.intro ?_ trivial)
        rw [e2, show ((k : Int) + 1) = ((k + 1 : Nat) : Int) by omega]
        refine ih (k + 1) _ _ _ (by omega) ((FrM.put (by omega)).keep had hA (by omega)) ((FrM.put (by omega)).keep hbd hB (by omega)) (hF.tr (FrM.put (by omega))) ?_
        intro j hj
        by_cases hj2 : j = k
        · rw [hj2, up2_s]
        · rw [up2_k (by omega)]
          exact hD j (by omega)
      have inner : ∀ (q i : Nat) (o8 : Int), i + q = k + 1 → aw 63 [some (.inr (.inr 50)), some (.inl (a : Int)), some (.inl (b : Int)), some (.inl (d : Int)), some (.inl ((nd v : Int) + (nd w : Int))), some (.inr (.inl ((cyP v w k + cs v w k i : Nat) : Int))), none, some (.inl (k : Int)), some (.inl o8), some (.inl (i : Int))] [] M := by
        intro q
        induction q with
        | zero =>
          intro i o8 hq
          obtain rfl : i = k + 1 := by omega
          refine run 60 [21, 63, 112] _ _ _ _ ?_
          repeat' first | intro h | refine And.intro ?_ ?_
          all_goals first | omega | rfl | trivial | skip
          exact fin _ _
        | succ q ihq =>
          intro i o8 hq
          have c1 := cs_le v w k i
          have g1 := dg_lt v i
          have g2 := dg_lt w (k - i)
          refine run 60 [21, 63, 112] _ _ _ _ ?_
          repeat' first | intro h | refine And.intro ?_ ?_
          all_goals try simp only [Int.toNat_natCast] at *
          all_goals first | omega | rfl | trivial | skip
          · have e : cs v w k i = cs v w k (k + 1) := by
              have := cs_up (a := v) (b := w) (k := k) (m := i) (by omega) (k + 1 - i)
              rw [← this]
              congr 1
              omega
            rw [e]
            exact fin _ _
          · refine ⟨(a, (i : Int), v), ⟨rfl, ha, ⟨by omega, by omega⟩, hA, by omega⟩, ?_⟩
            rintro x M1 ⟨rfl, rfl⟩
            rw [dgZ_n]
            refine And.intro ⟨by omega, by omega⟩ (And.intro rfl ?_)
            have ek : (k : Int) - (i : Int) = ((k - i : Nat) : Int) := by omega
            rw [ek]
            refine ⟨(b, ((k - i : Nat) : Int), w), ⟨rfl, hb, ⟨by omega, by omega⟩, hB, by omega⟩, ?_⟩
            rintro y M2 ⟨rfl, rfl⟩
            rw [dgZ_n]
            refine And.intro ⟨by omega, by omega⟩ (And.intro ?_ trivial)
            have := ihq (i + 1) o8 (by omega)
            rw [cs] at this
            have e3 : ((cyP v w k + cs v w k i : Nat) : Int) + (dg v i : Int) * (dg w (k - i) : Int) = ((cyP v w k + (cs v w k i + dg v i * dg w (k - i)) : Nat) : Int) := by
              rw [Int.natCast_add, Int.natCast_add, Int.natCast_add, Int.natCast_mul]
              omega
            rw [e3, show ((i : Int) + 1) = ((i + 1 : Nat) : Int) by omega]
            exact this
      refine run 60 [21, 63] _ _ _ _ ?_
      repeat' first | intro h | refine And.intro ?_ ?_
      all_goals try simp only [Int.toNat_natCast] at *
      all_goals first | omega | rfl | trivial | skip
      · have e := cs_low (a := v) (b := w) (k := k) (m := 0) (fun j hj => by omega)
        have := inner (k + 1) 0 0 (by omega)
        rw [e] at this
        exact this
      · have e := cs_low (a := v) (b := w) (k := k) (m := k + 1 - nd w) (fun j hj => dg_z (by omega))
        have := inner (nd w) (k + 1 - nd w) ((k : Int) - M 52 b + 1) (by omega)
        rw [e, show ((k + 1 - nd w : Nat) : Int) = (k : Int) - M 52 b + 1 by omega] at this
        exact this
  change aw 0 [some (.inr (.inr 50)), some (.inl (a : Int)), some (.inl (b : Int)), some (.inl (d : Int)), none, none, none, none, none, none] [] M0
  have h1 := hv.1
  have h2 := hw.1
  refine run 40 [21] _ _ _ _ ?_
  repeat' first | intro h | refine And.intro ?_ ?_
  all_goals try simp only [Int.toNat_natCast] at *
  all_goals first | omega | rfl | trivial | skip
  rw [h1, h2]
  have := loop (nd v + nd w) 0 M0 none none (by omega) hv hw (FrM.rf _ _) (fun j hj => by omega)
  rw [cyP_0] at this
  exact this
theorem imX8_product {l : Launch} {Z : ZT} (hZ : ZOk Z) : Impl l Z yX8_product cX8_product 10 none 2 c_product := mkImpl (rt := 0) (CL := [(76, some 8, c_at), (80, some 8, c_put), (85, some 8, c_fix)]) hZ.1 hZ.2.1 (by decide +kernel) kX8_product fwX8 iwX8 lwX8 trivial (Nat.le_of_ble_eq_true rfl) (List.forall_mem_cons.mpr ⟨gX8_76 hZ (by decide), List.forall_mem_cons.mpr ⟨gX8_80 hZ (by decide), List.forall_mem_cons.mpr ⟨gX8_85 hZ (by decide), fun q h => absurd h List.not_mem_nil⟩⟩⟩) ((v_product _))
theorem gX8_108 {l : Launch} {Z : ZT} (hZ : ZOk Z) {d : Nat} (hd : 3 ≤ d) : CallI l Z RX8 d (108, some 8, c_product) := fun p e s m args below meth c Q cc nL x0 X => callOk_V X (imX8_product hZ) (by decide) rfl mlX8_108 iw_yX8_product vw_yX8_product nw_RX8 cw_yX8_product ⟨by decide +kernel, by decide +kernel, by decide +kernel⟩ ⟨hd, by decide⟩
end
section
theorem na_last : True := trivial
end
