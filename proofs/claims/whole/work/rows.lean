section
-- ===== PART A: goes FIRST, ahead of the names: the tables' words, and 'selects' of the private methods out of them =====
/-- a private method of a class that the tables say can be made, by its rows of tables_1 -/
def lw_okq (q : MethodName × Nat) : Prop := (q.1.cls ≠ "java/lang/invoke/MethodHandle" ∧ q.1.cls ≠ "java/lang/invoke/VarHandle") ∧ Cond.instantiable q.1.cls q.2 ∈ tables_1 ∧ Cond.privateMethod q.1 ∈ tables_1 ∧ Cond.instanceMethod q.1 ∈ tables_1
theorem lw_p0 : lw_okq (⟨"ToadBank$LawReader", "readRule", "(LToadBank$Tape;)Z"⟩, 1) := ⟨⟨by decide +kernel, by decide +kernel⟩, List.mem_of_getElem? (i := 107) (by decide +kernel), List.mem_of_getElem? (i := 395) (by decide +kernel), List.mem_of_getElem? (i := 396) (by decide +kernel)⟩
theorem lw_p1 : lw_okq (⟨"ToadBank$LawReader", "readSum", "(LToadBank$Tape;I)Z"⟩, 1) := ⟨⟨by decide +kernel, by decide +kernel⟩, List.mem_of_getElem? (i := 107) (by decide +kernel), List.mem_of_getElem? (i := 422) (by decide +kernel), List.mem_of_getElem? (i := 423) (by decide +kernel)⟩
theorem lw_p2 : lw_okq (⟨"ToadBank$LawReader", "readTerm", "(LToadBank$Tape;I)Z"⟩, 1) := ⟨⟨by decide +kernel, by decide +kernel⟩, List.mem_of_getElem? (i := 107) (by decide +kernel), List.mem_of_getElem? (i := 426) (by decide +kernel), List.mem_of_getElem? (i := 427) (by decide +kernel)⟩
theorem lw_p3 : lw_okq (⟨"ToadBank$LawReader", "readFactor", "(LToadBank$Tape;I)Z"⟩, 1) := ⟨⟨by decide +kernel, by decide +kernel⟩, List.mem_of_getElem? (i := 107) (by decide +kernel), List.mem_of_getElem? (i := 430) (by decide +kernel), List.mem_of_getElem? (i := 431) (by decide +kernel)⟩
theorem lw_p4 : lw_okq (⟨"ToadBank$LawReader", "isAskedLetter", "(I)Z"⟩, 1) := ⟨⟨by decide +kernel, by decide +kernel⟩, List.mem_of_getElem? (i := 107) (by decide +kernel), List.mem_of_getElem? (i := 440) (by decide +kernel), List.mem_of_getElem? (i := 441) (by decide +kernel)⟩
theorem lw_p5 : lw_okq (⟨"ToadBank$LawReader", "readCase", "(LToadBank$Tape;I)Z"⟩, 1) := ⟨⟨by decide +kernel, by decide +kernel⟩, List.mem_of_getElem? (i := 107) (by decide +kernel), List.mem_of_getElem? (i := 459) (by decide +kernel), List.mem_of_getElem? (i := 460) (by decide +kernel)⟩
theorem lw_p6 : lw_okq (⟨"ToadBank$LawReader", "readPart", "(LToadBank$Tape;I)Z"⟩, 1) := ⟨⟨by decide +kernel, by decide +kernel⟩, List.mem_of_getElem? (i := 107) (by decide +kernel), List.mem_of_getElem? (i := 463) (by decide +kernel), List.mem_of_getElem? (i := 464) (by decide +kernel)⟩
theorem lw_p7 : lw_okq (⟨"ToadBank$LawReader", "readTest", "(LToadBank$Tape;I)Z"⟩, 1) := ⟨⟨by decide +kernel, by decide +kernel⟩, List.mem_of_getElem? (i := 107) (by decide +kernel), List.mem_of_getElem? (i := 467) (by decide +kernel), List.mem_of_getElem? (i := 468) (by decide +kernel)⟩
theorem lw_p8 : lw_okq (⟨"ToadBank$LawReader", "readOpened", "(LToadBank$Tape;II)Z"⟩, 1) := ⟨⟨by decide +kernel, by decide +kernel⟩, List.mem_of_getElem? (i := 107) (by decide +kernel), List.mem_of_getElem? (i := 471) (by decide +kernel), List.mem_of_getElem? (i := 472) (by decide +kernel)⟩
theorem lw_p9 : lw_okq (⟨"ToadBank$LawReader", "startLink", "(LToadBank$Tape;I)I"⟩, 1) := ⟨⟨by decide +kernel, by decide +kernel⟩, List.mem_of_getElem? (i := 107) (by decide +kernel), List.mem_of_getElem? (i := 475) (by decide +kernel), List.mem_of_getElem? (i := 476) (by decide +kernel)⟩
theorem lw_p10 : lw_okq (⟨"ToadBank$LedgerReader", "readLine", "(LToadBank$Tape;LToadBank$Town;I)Z"⟩, 1) := ⟨⟨by decide +kernel, by decide +kernel⟩, List.mem_of_getElem? (i := 97) (by decide +kernel), List.mem_of_getElem? (i := 516) (by decide +kernel), List.mem_of_getElem? (i := 517) (by decide +kernel)⟩
theorem lw_p11 : lw_okq (⟨"ToadBank$LedgerReader", "readOther", "(LToadBank$Tape;LToadBank$Town;I)Z"⟩, 1) := ⟨⟨by decide +kernel, by decide +kernel⟩, List.mem_of_getElem? (i := 97) (by decide +kernel), List.mem_of_getElem? (i := 525) (by decide +kernel), List.mem_of_getElem? (i := 526) (by decide +kernel)⟩
theorem lw_p12 : lw_okq (⟨"ToadBank$LedgerReader", "carryOut", "(LToadBank$Town;III)Z"⟩, 1) := ⟨⟨by decide +kernel, by decide +kernel⟩, List.mem_of_getElem? (i := 97) (by decide +kernel), List.mem_of_getElem? (i := 531) (by decide +kernel), List.mem_of_getElem? (i := 532) (by decide +kernel)⟩
theorem lw_p13 : lw_okq (⟨"ToadBank$LedgerReader", "addCash", "(LToadBank$Town;II)Z"⟩, 1) := ⟨⟨by decide +kernel, by decide +kernel⟩, List.mem_of_getElem? (i := 97) (by decide +kernel), List.mem_of_getElem? (i := 535) (by decide +kernel), List.mem_of_getElem? (i := 536) (by decide +kernel)⟩
theorem lw_p14 : lw_okq (⟨"ToadBank$LedgerReader", "addDebt", "(LToadBank$Town;II)Z"⟩, 1) := ⟨⟨by decide +kernel, by decide +kernel⟩, List.mem_of_getElem? (i := 97) (by decide +kernel), List.mem_of_getElem? (i := 547) (by decide +kernel), List.mem_of_getElem? (i := 548) (by decide +kernel)⟩
theorem lw_p15 : lw_okq (⟨"ToadBank$Months", "letCashFlow", "(LToadBank$Town;LToadBank$Law;LToadBank$Asker;)V"⟩, 2) := ⟨⟨by decide +kernel, by decide +kernel⟩, List.mem_of_getElem? (i := 179) (by decide +kernel), List.mem_of_getElem? (i := 569) (by decide +kernel), List.mem_of_getElem? (i := 570) (by decide +kernel)⟩
def lw_privs_1 : List (MethodName × Nat) := [(⟨"ToadBank$LawReader", "readRule", "(LToadBank$Tape;)Z"⟩, 1), (⟨"ToadBank$LawReader", "readSum", "(LToadBank$Tape;I)Z"⟩, 1), (⟨"ToadBank$LawReader", "readTerm", "(LToadBank$Tape;I)Z"⟩, 1), (⟨"ToadBank$LawReader", "readFactor", "(LToadBank$Tape;I)Z"⟩, 1), (⟨"ToadBank$LawReader", "isAskedLetter", "(I)Z"⟩, 1), (⟨"ToadBank$LawReader", "readCase", "(LToadBank$Tape;I)Z"⟩, 1), (⟨"ToadBank$LawReader", "readPart", "(LToadBank$Tape;I)Z"⟩, 1), (⟨"ToadBank$LawReader", "readTest", "(LToadBank$Tape;I)Z"⟩, 1), (⟨"ToadBank$LawReader", "readOpened", "(LToadBank$Tape;II)Z"⟩, 1), (⟨"ToadBank$LawReader", "startLink", "(LToadBank$Tape;I)I"⟩, 1), (⟨"ToadBank$LedgerReader", "readLine", "(LToadBank$Tape;LToadBank$Town;I)Z"⟩, 1), (⟨"ToadBank$LedgerReader", "readOther", "(LToadBank$Tape;LToadBank$Town;I)Z"⟩, 1), (⟨"ToadBank$LedgerReader", "carryOut", "(LToadBank$Town;III)Z"⟩, 1), (⟨"ToadBank$LedgerReader", "addCash", "(LToadBank$Town;II)Z"⟩, 1), (⟨"ToadBank$LedgerReader", "addDebt", "(LToadBank$Town;II)Z"⟩, 1), (⟨"ToadBank$Months", "letCashFlow", "(LToadBank$Town;LToadBank$Law;LToadBank$Asker;)V"⟩, 2)]
theorem lw_r1 : ∀ q ∈ lw_privs_1, lw_okq q := List.forall_mem_cons.mpr ⟨lw_p0, List.forall_mem_cons.mpr ⟨lw_p1, List.forall_mem_cons.mpr ⟨lw_p2, List.forall_mem_cons.mpr ⟨lw_p3, List.forall_mem_cons.mpr ⟨lw_p4, List.forall_mem_cons.mpr ⟨lw_p5, List.forall_mem_cons.mpr ⟨lw_p6, List.forall_mem_cons.mpr ⟨lw_p7, List.forall_mem_cons.mpr ⟨lw_p8, List.forall_mem_cons.mpr ⟨lw_p9, List.forall_mem_cons.mpr ⟨lw_p10, List.forall_mem_cons.mpr ⟨lw_p11, List.forall_mem_cons.mpr ⟨lw_p12, List.forall_mem_cons.mpr ⟨lw_p13, List.forall_mem_cons.mpr ⟨lw_p14, List.forall_mem_cons.mpr ⟨lw_p15, fun _ h => absurd h List.not_mem_nil⟩⟩⟩⟩⟩⟩⟩⟩⟩⟩⟩⟩⟩⟩⟩⟩
theorem lw_p16 : lw_okq (⟨"ToadBank$Asker", "reckon", "(LToadBank$Law;LToadBank$Town;II)I"⟩, 6) := ⟨⟨by decide +kernel, by decide +kernel⟩, List.mem_of_getElem? (i := 154) (by decide +kernel), List.mem_of_getElem? (i := 586) (by decide +kernel), List.mem_of_getElem? (i := 587) (by decide +kernel)⟩
theorem lw_p17 : lw_okq (⟨"ToadBank$Asker", "push", "(I)V"⟩, 6) := ⟨⟨by decide +kernel, by decide +kernel⟩, List.mem_of_getElem? (i := 154) (by decide +kernel), List.mem_of_getElem? (i := 594) (by decide +kernel), List.mem_of_getElem? (i := 595) (by decide +kernel)⟩
theorem lw_p18 : lw_okq (⟨"ToadBank$Asker", "topmost", "()I"⟩, 6) := ⟨⟨by decide +kernel, by decide +kernel⟩, List.mem_of_getElem? (i := 154) (by decide +kernel), List.mem_of_getElem? (i := 598) (by decide +kernel), List.mem_of_getElem? (i := 599) (by decide +kernel)⟩
theorem lw_p19 : lw_okq (⟨"ToadBank$Asker", "pop", "()I"⟩, 6) := ⟨⟨by decide +kernel, by decide +kernel⟩, List.mem_of_getElem? (i := 154) (by decide +kernel), List.mem_of_getElem? (i := 602) (by decide +kernel), List.mem_of_getElem? (i := 603) (by decide +kernel)⟩
theorem lw_p20 : lw_okq (⟨"ToadBank$Asker", "valueOf", "(LToadBank$Town;I)I"⟩, 6) := ⟨⟨by decide +kernel, by decide +kernel⟩, List.mem_of_getElem? (i := 154) (by decide +kernel), List.mem_of_getElem? (i := 606) (by decide +kernel), List.mem_of_getElem? (i := 607) (by decide +kernel)⟩
theorem lw_p21 : lw_okq (⟨"ToadBank$Asker", "doSign", "(I)V"⟩, 6) := ⟨⟨by decide +kernel, by decide +kernel⟩, List.mem_of_getElem? (i := 154) (by decide +kernel), List.mem_of_getElem? (i := 619) (by decide +kernel), List.mem_of_getElem? (i := 620) (by decide +kernel)⟩
theorem lw_p22 : lw_okq (⟨"ToadBank$Asker", "divide", "(III)V"⟩, 6) := ⟨⟨by decide +kernel, by decide +kernel⟩, List.mem_of_getElem? (i := 154) (by decide +kernel), List.mem_of_getElem? (i := 623) (by decide +kernel), List.mem_of_getElem? (i := 624) (by decide +kernel)⟩
theorem lw_p23 : lw_okq (⟨"ToadBank$Months", "letFall", "(LToadBank$Town;I)V"⟩, 2) := ⟨⟨by decide +kernel, by decide +kernel⟩, List.mem_of_getElem? (i := 179) (by decide +kernel), List.mem_of_getElem? (i := 640) (by decide +kernel), List.mem_of_getElem? (i := 641) (by decide +kernel)⟩
theorem lw_p24 : lw_okq (⟨"ToadBank$Months", "letDebtsGrow", "(LToadBank$Town;LToadBank$Law;LToadBank$Asker;)V"⟩, 2) := ⟨⟨by decide +kernel, by decide +kernel⟩, List.mem_of_getElem? (i := 179) (by decide +kernel), List.mem_of_getElem? (i := 651) (by decide +kernel), List.mem_of_getElem? (i := 652) (by decide +kernel)⟩
theorem lw_p25 : lw_okq (⟨"ToadBank$Months", "shutByLaw", "(LToadBank$Town;LToadBank$Law;LToadBank$Asker;)V"⟩, 2) := ⟨⟨by decide +kernel, by decide +kernel⟩, List.mem_of_getElem? (i := 179) (by decide +kernel), List.mem_of_getElem? (i := 658) (by decide +kernel), List.mem_of_getElem? (i := 659) (by decide +kernel)⟩
theorem lw_p26 : lw_okq (⟨"ToadBank$Town", "sharesOfAll", "(II)I"⟩, 8) := ⟨⟨by decide +kernel, by decide +kernel⟩, List.mem_of_getElem? (i := 58) (by decide +kernel), List.mem_of_getElem? (i := 702) (by decide +kernel), List.mem_of_getElem? (i := 703) (by decide +kernel)⟩
theorem lw_p27 : lw_okq (⟨"ToadBank$Clearing", "handOut", "()V"⟩, 7) := ⟨⟨by decide +kernel, by decide +kernel⟩, List.mem_of_getElem? (i := 194) (by decide +kernel), List.mem_of_getElem? (i := 737) (by decide +kernel), List.mem_of_getElem? (i := 738) (by decide +kernel)⟩
theorem lw_p28 : lw_okq (⟨"ToadBank$Clearing", "payLess", "(I)Z"⟩, 7) := ⟨⟨by decide +kernel, by decide +kernel⟩, List.mem_of_getElem? (i := 194) (by decide +kernel), List.mem_of_getElem? (i := 741) (by decide +kernel), List.mem_of_getElem? (i := 742) (by decide +kernel)⟩
theorem lw_p29 : lw_okq (⟨"ToadBank", "fallenByBlow", "(II)I"⟩, 14) := ⟨⟨by decide +kernel, by decide +kernel⟩, List.mem_of_getElem? (i := 18) (by decide +kernel), List.mem_of_getElem? (i := 771) (by decide +kernel), List.mem_of_getElem? (i := 772) (by decide +kernel)⟩
theorem lw_p30 : lw_okq (⟨"ToadBank$Parting", "sumOfWorths", "(I)I"⟩, 4) := ⟨⟨by decide +kernel, by decide +kernel⟩, List.mem_of_getElem? (i := 233) (by decide +kernel), List.mem_of_getElem? (i := 819) (by decide +kernel), List.mem_of_getElem? (i := 820) (by decide +kernel)⟩
theorem lw_p31 : lw_okq (⟨"ToadBank$Parting", "bestWithoutOne", "(I)I"⟩, 4) := ⟨⟨by decide +kernel, by decide +kernel⟩, List.mem_of_getElem? (i := 233) (by decide +kernel), List.mem_of_getElem? (i := 823) (by decide +kernel), List.mem_of_getElem? (i := 824) (by decide +kernel)⟩
def lw_privs_2 : List (MethodName × Nat) := [(⟨"ToadBank$Asker", "reckon", "(LToadBank$Law;LToadBank$Town;II)I"⟩, 6), (⟨"ToadBank$Asker", "push", "(I)V"⟩, 6), (⟨"ToadBank$Asker", "topmost", "()I"⟩, 6), (⟨"ToadBank$Asker", "pop", "()I"⟩, 6), (⟨"ToadBank$Asker", "valueOf", "(LToadBank$Town;I)I"⟩, 6), (⟨"ToadBank$Asker", "doSign", "(I)V"⟩, 6), (⟨"ToadBank$Asker", "divide", "(III)V"⟩, 6), (⟨"ToadBank$Months", "letFall", "(LToadBank$Town;I)V"⟩, 2), (⟨"ToadBank$Months", "letDebtsGrow", "(LToadBank$Town;LToadBank$Law;LToadBank$Asker;)V"⟩, 2), (⟨"ToadBank$Months", "shutByLaw", "(LToadBank$Town;LToadBank$Law;LToadBank$Asker;)V"⟩, 2), (⟨"ToadBank$Town", "sharesOfAll", "(II)I"⟩, 8), (⟨"ToadBank$Clearing", "handOut", "()V"⟩, 7), (⟨"ToadBank$Clearing", "payLess", "(I)Z"⟩, 7), (⟨"ToadBank", "fallenByBlow", "(II)I"⟩, 14), (⟨"ToadBank$Parting", "sumOfWorths", "(I)I"⟩, 4), (⟨"ToadBank$Parting", "bestWithoutOne", "(I)I"⟩, 4)]
theorem lw_r2 : ∀ q ∈ lw_privs_2, lw_okq q := List.forall_mem_cons.mpr ⟨lw_p16, List.forall_mem_cons.mpr ⟨lw_p17, List.forall_mem_cons.mpr ⟨lw_p18, List.forall_mem_cons.mpr ⟨lw_p19, List.forall_mem_cons.mpr ⟨lw_p20, List.forall_mem_cons.mpr ⟨lw_p21, List.forall_mem_cons.mpr ⟨lw_p22, List.forall_mem_cons.mpr ⟨lw_p23, List.forall_mem_cons.mpr ⟨lw_p24, List.forall_mem_cons.mpr ⟨lw_p25, List.forall_mem_cons.mpr ⟨lw_p26, List.forall_mem_cons.mpr ⟨lw_p27, List.forall_mem_cons.mpr ⟨lw_p28, List.forall_mem_cons.mpr ⟨lw_p29, List.forall_mem_cons.mpr ⟨lw_p30, List.forall_mem_cons.mpr ⟨lw_p31, fun _ h => absurd h List.not_mem_nil⟩⟩⟩⟩⟩⟩⟩⟩⟩⟩⟩⟩⟩⟩⟩⟩
theorem lw_p32 : lw_okq (⟨"ToadBank$Roads", "widestStep", "(LToadBank$Town;II)I"⟩, 1) := ⟨⟨by decide +kernel, by decide +kernel⟩, List.mem_of_getElem? (i := 223) (by decide +kernel), List.mem_of_getElem? (i := 836) (by decide +kernel), List.mem_of_getElem? (i := 837) (by decide +kernel)⟩
theorem lw_p33 : lw_okq (⟨"ToadBank$Parting", "leastCost", "(I)I"⟩, 4) := ⟨⟨by decide +kernel, by decide +kernel⟩, List.mem_of_getElem? (i := 233) (by decide +kernel), List.mem_of_getElem? (i := 870) (by decide +kernel), List.mem_of_getElem? (i := 871) (by decide +kernel)⟩
theorem lw_p34 : lw_okq (⟨"ToadBank$Parting", "lowestOf", "(I)I"⟩, 4) := ⟨⟨by decide +kernel, by decide +kernel⟩, List.mem_of_getElem? (i := 233) (by decide +kernel), List.mem_of_getElem? (i := 874) (by decide +kernel), List.mem_of_getElem? (i := 875) (by decide +kernel)⟩
theorem lw_p35 : lw_okq (⟨"ToadBank$Parting", "costOf", "(I)I"⟩, 4) := ⟨⟨by decide +kernel, by decide +kernel⟩, List.mem_of_getElem? (i := 233) (by decide +kernel), List.mem_of_getElem? (i := 878) (by decide +kernel), List.mem_of_getElem? (i := 879) (by decide +kernel)⟩
theorem lw_p36 : lw_okq (⟨"ToadBank", "findTampered", "(I)I"⟩, 14) := ⟨⟨by decide +kernel, by decide +kernel⟩, List.mem_of_getElem? (i := 18) (by decide +kernel), List.mem_of_getElem? (i := 905) (by decide +kernel), List.mem_of_getElem? (i := 906) (by decide +kernel)⟩
theorem lw_p37 : lw_okq (⟨"ToadBank", "fewestSums", "(II)I"⟩, 14) := ⟨⟨by decide +kernel, by decide +kernel⟩, List.mem_of_getElem? (i := 18) (by decide +kernel), List.mem_of_getElem? (i := 917) (by decide +kernel), List.mem_of_getElem? (i := 918) (by decide +kernel)⟩
theorem lw_p38 : lw_okq (⟨"ToadBank", "sumOf", "(II)I"⟩, 14) := ⟨⟨by decide +kernel, by decide +kernel⟩, List.mem_of_getElem? (i := 18) (by decide +kernel), List.mem_of_getElem? (i := 921) (by decide +kernel), List.mem_of_getElem? (i := 922) (by decide +kernel)⟩
theorem lw_p39 : lw_okq (⟨"ToadBank", "readBlinks", "(II)I"⟩, 14) := ⟨⟨by decide +kernel, by decide +kernel⟩, List.mem_of_getElem? (i := 18) (by decide +kernel), List.mem_of_getElem? (i := 958) (by decide +kernel), List.mem_of_getElem? (i := 959) (by decide +kernel)⟩
theorem lw_p40 : lw_okq (⟨"ToadBank$Codes", "standsAt", "(LToadBank$Tape;III)Z"⟩, 6) := ⟨⟨by decide +kernel, by decide +kernel⟩, List.mem_of_getElem? (i := 253) (by decide +kernel), List.mem_of_getElem? (i := 968) (by decide +kernel), List.mem_of_getElem? (i := 969) (by decide +kernel)⟩
theorem lw_p41 : lw_okq (⟨"ToadBank$Codes", "blinkOf", "(II)I"⟩, 6) := ⟨⟨by decide +kernel, by decide +kernel⟩, List.mem_of_getElem? (i := 253) (by decide +kernel), List.mem_of_getElem? (i := 976) (by decide +kernel), List.mem_of_getElem? (i := 977) (by decide +kernel)⟩
theorem lw_p42 : lw_okq (⟨"ToadBank$Codes", "stepsFrom", "(I)I"⟩, 6) := ⟨⟨by decide +kernel, by decide +kernel⟩, List.mem_of_getElem? (i := 253) (by decide +kernel), List.mem_of_getElem? (i := 985) (by decide +kernel), List.mem_of_getElem? (i := 986) (by decide +kernel)⟩
theorem lw_p43 : lw_okq (⟨"ToadBank$Codes", "leastSignAt", "(LToadBank$Tape;II)I"⟩, 6) := ⟨⟨by decide +kernel, by decide +kernel⟩, List.mem_of_getElem? (i := 253) (by decide +kernel), List.mem_of_getElem? (i := 998) (by decide +kernel), List.mem_of_getElem? (i := 999) (by decide +kernel)⟩
theorem lw_p44 : lw_okq (⟨"ToadBank$Codes", "begins", "(II)Z"⟩, 6) := ⟨⟨by decide +kernel, by decide +kernel⟩, List.mem_of_getElem? (i := 253) (by decide +kernel), List.mem_of_getElem? (i := 1010) (by decide +kernel), List.mem_of_getElem? (i := 1011) (by decide +kernel)⟩
theorem lw_p45 : lw_okq (⟨"ToadBank$Codes", "moveLeastToEnd", "(I)V"⟩, 6) := ⟨⟨by decide +kernel, by decide +kernel⟩, List.mem_of_getElem? (i := 253) (by decide +kernel), List.mem_of_getElem? (i := 1026) (by decide +kernel), List.mem_of_getElem? (i := 1027) (by decide +kernel)⟩
theorem lw_p46 : lw_okq (⟨"ToadBank$Codes", "costOfSpan", "(LToadBank$Tape;II)I"⟩, 6) := ⟨⟨by decide +kernel, by decide +kernel⟩, List.mem_of_getElem? (i := 253) (by decide +kernel), List.mem_of_getElem? (i := 1038) (by decide +kernel), List.mem_of_getElem? (i := 1039) (by decide +kernel)⟩
theorem lw_p47 : lw_okq (⟨"ToadBank$Codes", "cost", "(II)I"⟩, 6) := ⟨⟨by decide +kernel, by decide +kernel⟩, List.mem_of_getElem? (i := 253) (by decide +kernel), List.mem_of_getElem? (i := 1042) (by decide +kernel), List.mem_of_getElem? (i := 1043) (by decide +kernel)⟩
def lw_privs_3 : List (MethodName × Nat) := [(⟨"ToadBank$Roads", "widestStep", "(LToadBank$Town;II)I"⟩, 1), (⟨"ToadBank$Parting", "leastCost", "(I)I"⟩, 4), (⟨"ToadBank$Parting", "lowestOf", "(I)I"⟩, 4), (⟨"ToadBank$Parting", "costOf", "(I)I"⟩, 4), (⟨"ToadBank", "findTampered", "(I)I"⟩, 14), (⟨"ToadBank", "fewestSums", "(II)I"⟩, 14), (⟨"ToadBank", "sumOf", "(II)I"⟩, 14), (⟨"ToadBank", "readBlinks", "(II)I"⟩, 14), (⟨"ToadBank$Codes", "standsAt", "(LToadBank$Tape;III)Z"⟩, 6), (⟨"ToadBank$Codes", "blinkOf", "(II)I"⟩, 6), (⟨"ToadBank$Codes", "stepsFrom", "(I)I"⟩, 6), (⟨"ToadBank$Codes", "leastSignAt", "(LToadBank$Tape;II)I"⟩, 6), (⟨"ToadBank$Codes", "begins", "(II)Z"⟩, 6), (⟨"ToadBank$Codes", "moveLeastToEnd", "(I)V"⟩, 6), (⟨"ToadBank$Codes", "costOfSpan", "(LToadBank$Tape;II)I"⟩, 6), (⟨"ToadBank$Codes", "cost", "(II)I"⟩, 6)]
theorem lw_r3 : ∀ q ∈ lw_privs_3, lw_okq q := List.forall_mem_cons.mpr ⟨lw_p32, List.forall_mem_cons.mpr ⟨lw_p33, List.forall_mem_cons.mpr ⟨lw_p34, List.forall_mem_cons.mpr ⟨lw_p35, List.forall_mem_cons.mpr ⟨lw_p36, List.forall_mem_cons.mpr ⟨lw_p37, List.forall_mem_cons.mpr ⟨lw_p38, List.forall_mem_cons.mpr ⟨lw_p39, List.forall_mem_cons.mpr ⟨lw_p40, List.forall_mem_cons.mpr ⟨lw_p41, List.forall_mem_cons.mpr ⟨lw_p42, List.forall_mem_cons.mpr ⟨lw_p43, List.forall_mem_cons.mpr ⟨lw_p44, List.forall_mem_cons.mpr ⟨lw_p45, List.forall_mem_cons.mpr ⟨lw_p46, List.forall_mem_cons.mpr ⟨lw_p47, fun _ h => absurd h List.not_mem_nil⟩⟩⟩⟩⟩⟩⟩⟩⟩⟩⟩⟩⟩⟩⟩⟩
theorem lw_p48 : lw_okq (⟨"ToadBankModel", "areOpen", "(II)Z"⟩, 50) := ⟨⟨by decide +kernel, by decide +kernel⟩, List.mem_of_getElem? (i := 1072) (by decide +kernel), List.mem_of_getElem? (i := 1241) (by decide +kernel), List.mem_of_getElem? (i := 1242) (by decide +kernel)⟩
theorem lw_p49 : lw_okq (⟨"ToadBankModel", "isOpen", "(I)Z"⟩, 50) := ⟨⟨by decide +kernel, by decide +kernel⟩, List.mem_of_getElem? (i := 1072) (by decide +kernel), List.mem_of_getElem? (i := 1245) (by decide +kernel), List.mem_of_getElem? (i := 1246) (by decide +kernel)⟩
theorem lw_p50 : lw_okq (⟨"ToadBankModel", "isBank", "(I)Z"⟩, 50) := ⟨⟨by decide +kernel, by decide +kernel⟩, List.mem_of_getElem? (i := 1072) (by decide +kernel), List.mem_of_getElem? (i := 1249) (by decide +kernel), List.mem_of_getElem? (i := 1250) (by decide +kernel)⟩
theorem lw_p51 : lw_okq (⟨"ToadBankModel", "types", "(I)V"⟩, 50) := ⟨⟨by decide +kernel, by decide +kernel⟩, List.mem_of_getElem? (i := 1072) (by decide +kernel), List.mem_of_getElem? (i := 1270) (by decide +kernel), List.mem_of_getElem? (i := 1271) (by decide +kernel)⟩
theorem lw_p52 : lw_okq (⟨"ToadBankModel", "beginsText", "(I)V"⟩, 50) := ⟨⟨by decide +kernel, by decide +kernel⟩, List.mem_of_getElem? (i := 1072) (by decide +kernel), List.mem_of_getElem? (i := 1278) (by decide +kernel), List.mem_of_getElem? (i := 1279) (by decide +kernel)⟩
theorem lw_p53 : lw_okq (⟨"ToadBankModel", "readsRule", "()Z"⟩, 50) := ⟨⟨by decide +kernel, by decide +kernel⟩, List.mem_of_getElem? (i := 1072) (by decide +kernel), List.mem_of_getElem? (i := 1282) (by decide +kernel), List.mem_of_getElem? (i := 1283) (by decide +kernel)⟩
theorem lw_p54 : lw_okq (⟨"ToadBankModel", "here", "()I"⟩, 50) := ⟨⟨by decide +kernel, by decide +kernel⟩, List.mem_of_getElem? (i := 1072) (by decide +kernel), List.mem_of_getElem? (i := 1286) (by decide +kernel), List.mem_of_getElem? (i := 1287) (by decide +kernel)⟩
theorem lw_p55 : lw_okq (⟨"ToadBankModel", "wrongAt", "(II)Z"⟩, 50) := ⟨⟨by decide +kernel, by decide +kernel⟩, List.mem_of_getElem? (i := 1072) (by decide +kernel), List.mem_of_getElem? (i := 1290) (by decide +kernel), List.mem_of_getElem? (i := 1291) (by decide +kernel)⟩
theorem lw_p56 : lw_okq (⟨"ToadBankModel", "readsSum", "()Z"⟩, 50) := ⟨⟨by decide +kernel, by decide +kernel⟩, List.mem_of_getElem? (i := 1072) (by decide +kernel), List.mem_of_getElem? (i := 1294) (by decide +kernel), List.mem_of_getElem? (i := 1295) (by decide +kernel)⟩
theorem lw_p57 : lw_okq (⟨"ToadBankModel", "readsFactor", "()Z"⟩, 50) := ⟨⟨by decide +kernel, by decide +kernel⟩, List.mem_of_getElem? (i := 1072) (by decide +kernel), List.mem_of_getElem? (i := 1298) (by decide +kernel), List.mem_of_getElem? (i := 1299) (by decide +kernel)⟩
theorem lw_p58 : lw_okq (⟨"ToadBankModel", "opens", "(I)Z"⟩, 50) := ⟨⟨by decide +kernel, by decide +kernel⟩, List.mem_of_getElem? (i := 1072) (by decide +kernel), List.mem_of_getElem? (i := 1302) (by decide +kernel), List.mem_of_getElem? (i := 1303) (by decide +kernel)⟩
theorem lw_p59 : lw_okq (⟨"ToadBankModel", "isDigit", "()Z"⟩, 50) := ⟨⟨by decide +kernel, by decide +kernel⟩, List.mem_of_getElem? (i := 1072) (by decide +kernel), List.mem_of_getElem? (i := 1307) (by decide +kernel), List.mem_of_getElem? (i := 1308) (by decide +kernel)⟩
theorem lw_p60 : lw_okq (⟨"ToadBankModel", "readsNumber", "()Z"⟩, 50) := ⟨⟨by decide +kernel, by decide +kernel⟩, List.mem_of_getElem? (i := 1072) (by decide +kernel), List.mem_of_getElem? (i := 1311) (by decide +kernel), List.mem_of_getElem? (i := 1312) (by decide +kernel)⟩
theorem lw_p61 : lw_okq (⟨"ToadBankModel", "notes", "(II)V"⟩, 50) := ⟨⟨by decide +kernel, by decide +kernel⟩, List.mem_of_getElem? (i := 1072) (by decide +kernel), List.mem_of_getElem? (i := 1315) (by decide +kernel), List.mem_of_getElem? (i := 1316) (by decide +kernel)⟩
theorem lw_p62 : lw_okq (⟨"ToadBankModel", "closesSums", "(Z)V"⟩, 50) := ⟨⟨by decide +kernel, by decide +kernel⟩, List.mem_of_getElem? (i := 1072) (by decide +kernel), List.mem_of_getElem? (i := 1325) (by decide +kernel), List.mem_of_getElem? (i := 1326) (by decide +kernel)⟩
theorem lw_p63 : lw_okq (⟨"ToadBankModel", "waitTop", "()I"⟩, 50) := ⟨⟨by decide +kernel, by decide +kernel⟩, List.mem_of_getElem? (i := 1072) (by decide +kernel), List.mem_of_getElem? (i := 1329) (by decide +kernel), List.mem_of_getElem? (i := 1330) (by decide +kernel)⟩
def lw_privs_4 : List (MethodName × Nat) := [(⟨"ToadBankModel", "areOpen", "(II)Z"⟩, 50), (⟨"ToadBankModel", "isOpen", "(I)Z"⟩, 50), (⟨"ToadBankModel", "isBank", "(I)Z"⟩, 50), (⟨"ToadBankModel", "types", "(I)V"⟩, 50), (⟨"ToadBankModel", "beginsText", "(I)V"⟩, 50), (⟨"ToadBankModel", "readsRule", "()Z"⟩, 50), (⟨"ToadBankModel", "here", "()I"⟩, 50), (⟨"ToadBankModel", "wrongAt", "(II)Z"⟩, 50), (⟨"ToadBankModel", "readsSum", "()Z"⟩, 50), (⟨"ToadBankModel", "readsFactor", "()Z"⟩, 50), (⟨"ToadBankModel", "opens", "(I)Z"⟩, 50), (⟨"ToadBankModel", "isDigit", "()Z"⟩, 50), (⟨"ToadBankModel", "readsNumber", "()Z"⟩, 50), (⟨"ToadBankModel", "notes", "(II)V"⟩, 50), (⟨"ToadBankModel", "closesSums", "(Z)V"⟩, 50), (⟨"ToadBankModel", "waitTop", "()I"⟩, 50)]
theorem lw_r4 : ∀ q ∈ lw_privs_4, lw_okq q := List.forall_mem_cons.mpr ⟨lw_p48, List.forall_mem_cons.mpr ⟨lw_p49, List.forall_mem_cons.mpr ⟨lw_p50, List.forall_mem_cons.mpr ⟨lw_p51, List.forall_mem_cons.mpr ⟨lw_p52, List.forall_mem_cons.mpr ⟨lw_p53, List.forall_mem_cons.mpr ⟨lw_p54, List.forall_mem_cons.mpr ⟨lw_p55, List.forall_mem_cons.mpr ⟨lw_p56, List.forall_mem_cons.mpr ⟨lw_p57, List.forall_mem_cons.mpr ⟨lw_p58, List.forall_mem_cons.mpr ⟨lw_p59, List.forall_mem_cons.mpr ⟨lw_p60, List.forall_mem_cons.mpr ⟨lw_p61, List.forall_mem_cons.mpr ⟨lw_p62, List.forall_mem_cons.mpr ⟨lw_p63, fun _ h => absurd h List.not_mem_nil⟩⟩⟩⟩⟩⟩⟩⟩⟩⟩⟩⟩⟩⟩⟩⟩
theorem lw_p64 : lw_okq (⟨"ToadBankModel", "hasOpenSum", "(I)Z"⟩, 50) := ⟨⟨by decide +kernel, by decide +kernel⟩, List.mem_of_getElem? (i := 1072) (by decide +kernel), List.mem_of_getElem? (i := 1333) (by decide +kernel), List.mem_of_getElem? (i := 1334) (by decide +kernel)⟩
theorem lw_p65 : lw_okq (⟨"ToadBankModel", "readsCondition", "()Z"⟩, 50) := ⟨⟨by decide +kernel, by decide +kernel⟩, List.mem_of_getElem? (i := 1072) (by decide +kernel), List.mem_of_getElem? (i := 1337) (by decide +kernel), List.mem_of_getElem? (i := 1338) (by decide +kernel)⟩
theorem lw_p66 : lw_okq (⟨"ToadBankModel", "readsCompared", "()Z"⟩, 50) := ⟨⟨by decide +kernel, by decide +kernel⟩, List.mem_of_getElem? (i := 1072) (by decide +kernel), List.mem_of_getElem? (i := 1341) (by decide +kernel), List.mem_of_getElem? (i := 1342) (by decide +kernel)⟩
theorem lw_p67 : lw_okq (⟨"ToadBankModel", "endsPiece", "()V"⟩, 50) := ⟨⟨by decide +kernel, by decide +kernel⟩, List.mem_of_getElem? (i := 1072) (by decide +kernel), List.mem_of_getElem? (i := 1345) (by decide +kernel), List.mem_of_getElem? (i := 1346) (by decide +kernel)⟩
theorem lw_p68 : lw_okq (⟨"ToadBankModel", "lands", "(Z)V"⟩, 50) := ⟨⟨by decide +kernel, by decide +kernel⟩, List.mem_of_getElem? (i := 1072) (by decide +kernel), List.mem_of_getElem? (i := 1349) (by decide +kernel), List.mem_of_getElem? (i := 1350) (by decide +kernel)⟩
theorem lw_p69 : lw_okq (⟨"ToadBankModel", "jumps", "(I)V"⟩, 50) := ⟨⟨by decide +kernel, by decide +kernel⟩, List.mem_of_getElem? (i := 1072) (by decide +kernel), List.mem_of_getElem? (i := 1353) (by decide +kernel), List.mem_of_getElem? (i := 1354) (by decide +kernel)⟩
theorem lw_p70 : lw_okq (⟨"ToadBankModel", "takes", "(I)Z"⟩, 50) := ⟨⟨by decide +kernel, by decide +kernel⟩, List.mem_of_getElem? (i := 1072) (by decide +kernel), List.mem_of_getElem? (i := 1357) (by decide +kernel), List.mem_of_getElem? (i := 1358) (by decide +kernel)⟩
theorem lw_p71 : lw_okq (⟨"ToadBankModel", "readsLine", "()Z"⟩, 50) := ⟨⟨by decide +kernel, by decide +kernel⟩, List.mem_of_getElem? (i := 1072) (by decide +kernel), List.mem_of_getElem? (i := 1368) (by decide +kernel), List.mem_of_getElem? (i := 1369) (by decide +kernel)⟩
theorem lw_p72 : lw_okq (⟨"ToadBankModel", "readsBank", "()Z"⟩, 50) := ⟨⟨by decide +kernel, by decide +kernel⟩, List.mem_of_getElem? (i := 1072) (by decide +kernel), List.mem_of_getElem? (i := 1372) (by decide +kernel), List.mem_of_getElem? (i := 1373) (by decide +kernel)⟩
theorem lw_p73 : lw_okq (⟨"ToadBankModel", "readsAmount", "()Z"⟩, 50) := ⟨⟨by decide +kernel, by decide +kernel⟩, List.mem_of_getElem? (i := 1072) (by decide +kernel), List.mem_of_getElem? (i := 1376) (by decide +kernel), List.mem_of_getElem? (i := 1377) (by decide +kernel)⟩
theorem lw_p74 : lw_okq (⟨"ToadBankModel", "books", "(III)Z"⟩, 50) := ⟨⟨by decide +kernel, by decide +kernel⟩, List.mem_of_getElem? (i := 1072) (by decide +kernel), List.mem_of_getElem? (i := 1380) (by decide +kernel), List.mem_of_getElem? (i := 1381) (by decide +kernel)⟩
theorem lw_p75 : lw_okq (⟨"ToadBankModel", "monthsGo", "(I)V"⟩, 50) := ⟨⟨by decide +kernel, by decide +kernel⟩, List.mem_of_getElem? (i := 1072) (by decide +kernel), List.mem_of_getElem? (i := 1388) (by decide +kernel), List.mem_of_getElem? (i := 1389) (by decide +kernel)⟩
theorem lw_p76 : lw_okq (⟨"ToadBankModel", "monthGoes", "()V"⟩, 50) := ⟨⟨by decide +kernel, by decide +kernel⟩, List.mem_of_getElem? (i := 1072) (by decide +kernel), List.mem_of_getElem? (i := 1392) (by decide +kernel), List.mem_of_getElem? (i := 1393) (by decide +kernel)⟩
theorem lw_p77 : lw_okq (⟨"ToadBankModel", "earns", "(I)V"⟩, 50) := ⟨⟨by decide +kernel, by decide +kernel⟩, List.mem_of_getElem? (i := 1072) (by decide +kernel), List.mem_of_getElem? (i := 1396) (by decide +kernel), List.mem_of_getElem? (i := 1397) (by decide +kernel)⟩
theorem lw_p78 : lw_okq (⟨"ToadBankModel", "feels", "(I)V"⟩, 50) := ⟨⟨by decide +kernel, by decide +kernel⟩, List.mem_of_getElem? (i := 1072) (by decide +kernel), List.mem_of_getElem? (i := 1400) (by decide +kernel), List.mem_of_getElem? (i := 1401) (by decide +kernel)⟩
theorem lw_p79 : lw_okq (⟨"ToadBankModel", "owesAll", "(I)I"⟩, 50) := ⟨⟨by decide +kernel, by decide +kernel⟩, List.mem_of_getElem? (i := 1072) (by decide +kernel), List.mem_of_getElem? (i := 1404) (by decide +kernel), List.mem_of_getElem? (i := 1405) (by decide +kernel)⟩
def lw_privs_5 : List (MethodName × Nat) := [(⟨"ToadBankModel", "hasOpenSum", "(I)Z"⟩, 50), (⟨"ToadBankModel", "readsCondition", "()Z"⟩, 50), (⟨"ToadBankModel", "readsCompared", "()Z"⟩, 50), (⟨"ToadBankModel", "endsPiece", "()V"⟩, 50), (⟨"ToadBankModel", "lands", "(Z)V"⟩, 50), (⟨"ToadBankModel", "jumps", "(I)V"⟩, 50), (⟨"ToadBankModel", "takes", "(I)Z"⟩, 50), (⟨"ToadBankModel", "readsLine", "()Z"⟩, 50), (⟨"ToadBankModel", "readsBank", "()Z"⟩, 50), (⟨"ToadBankModel", "readsAmount", "()Z"⟩, 50), (⟨"ToadBankModel", "books", "(III)Z"⟩, 50), (⟨"ToadBankModel", "monthsGo", "(I)V"⟩, 50), (⟨"ToadBankModel", "monthGoes", "()V"⟩, 50), (⟨"ToadBankModel", "earns", "(I)V"⟩, 50), (⟨"ToadBankModel", "feels", "(I)V"⟩, 50), (⟨"ToadBankModel", "owesAll", "(I)I"⟩, 50)]
theorem lw_r5 : ∀ q ∈ lw_privs_5, lw_okq q := List.forall_mem_cons.mpr ⟨lw_p64, List.forall_mem_cons.mpr ⟨lw_p65, List.forall_mem_cons.mpr ⟨lw_p66, List.forall_mem_cons.mpr ⟨lw_p67, List.forall_mem_cons.mpr ⟨lw_p68, List.forall_mem_cons.mpr ⟨lw_p69, List.forall_mem_cons.mpr ⟨lw_p70, List.forall_mem_cons.mpr ⟨lw_p71, List.forall_mem_cons.mpr ⟨lw_p72, List.forall_mem_cons.mpr ⟨lw_p73, List.forall_mem_cons.mpr ⟨lw_p74, List.forall_mem_cons.mpr ⟨lw_p75, List.forall_mem_cons.mpr ⟨lw_p76, List.forall_mem_cons.mpr ⟨lw_p77, List.forall_mem_cons.mpr ⟨lw_p78, List.forall_mem_cons.mpr ⟨lw_p79, fun _ h => absurd h List.not_mem_nil⟩⟩⟩⟩⟩⟩⟩⟩⟩⟩⟩⟩⟩⟩⟩⟩
theorem lw_p80 : lw_okq (⟨"ToadBankModel", "getsAll", "(I)I"⟩, 50) := ⟨⟨by decide +kernel, by decide +kernel⟩, List.mem_of_getElem? (i := 1072) (by decide +kernel), List.mem_of_getElem? (i := 1408) (by decide +kernel), List.mem_of_getElem? (i := 1409) (by decide +kernel)⟩
theorem lw_p81 : lw_okq (⟨"ToadBankModel", "byLaw", "(II)I"⟩, 50) := ⟨⟨by decide +kernel, by decide +kernel⟩, List.mem_of_getElem? (i := 1072) (by decide +kernel), List.mem_of_getElem? (i := 1412) (by decide +kernel), List.mem_of_getElem? (i := 1413) (by decide +kernel)⟩
theorem lw_p82 : lw_okq (⟨"ToadBankModel", "comesTo", "(II)I"⟩, 50) := ⟨⟨by decide +kernel, by decide +kernel⟩, List.mem_of_getElem? (i := 1072) (by decide +kernel), List.mem_of_getElem? (i := 1416) (by decide +kernel), List.mem_of_getElem? (i := 1417) (by decide +kernel)⟩
theorem lw_p83 : lw_okq (⟨"ToadBankModel", "shuts", "(I)V"⟩, 50) := ⟨⟨by decide +kernel, by decide +kernel⟩, List.mem_of_getElem? (i := 1072) (by decide +kernel), List.mem_of_getElem? (i := 1427) (by decide +kernel), List.mem_of_getElem? (i := 1428) (by decide +kernel)⟩
theorem lw_p84 : lw_okq (⟨"ToadBankModel", "parts", "(I)V"⟩, 50) := ⟨⟨by decide +kernel, by decide +kernel⟩, List.mem_of_getElem? (i := 1072) (by decide +kernel), List.mem_of_getElem? (i := 1431) (by decide +kernel), List.mem_of_getElem? (i := 1432) (by decide +kernel)⟩
theorem lw_p85 : lw_okq (⟨"ToadBankModel", "grows", "(II)V"⟩, 50) := ⟨⟨by decide +kernel, by decide +kernel⟩, List.mem_of_getElem? (i := 1072) (by decide +kernel), List.mem_of_getElem? (i := 1435) (by decide +kernel), List.mem_of_getElem? (i := 1436) (by decide +kernel)⟩
theorem lw_p86 : lw_okq (⟨"ToadBankModel", "holdsAny", "(I)Z"⟩, 50) := ⟨⟨by decide +kernel, by decide +kernel⟩, List.mem_of_getElem? (i := 1072) (by decide +kernel), List.mem_of_getElem? (i := 1439) (by decide +kernel), List.mem_of_getElem? (i := 1440) (by decide +kernel)⟩
theorem lw_p87 : lw_okq (⟨"ToadBankModel", "allCash", "()I"⟩, 50) := ⟨⟨by decide +kernel, by decide +kernel⟩, List.mem_of_getElem? (i := 1072) (by decide +kernel), List.mem_of_getElem? (i := 1447) (by decide +kernel), List.mem_of_getElem? (i := 1448) (by decide +kernel)⟩
theorem lw_p88 : lw_okq (⟨"ToadBankModel", "allDebts", "()I"⟩, 50) := ⟨⟨by decide +kernel, by decide +kernel⟩, List.mem_of_getElem? (i := 1072) (by decide +kernel), List.mem_of_getElem? (i := 1451) (by decide +kernel), List.mem_of_getElem? (i := 1452) (by decide +kernel)⟩
theorem lw_p89 : lw_okq (⟨"ToadBankModel", "worthOf", "(I)I"⟩, 50) := ⟨⟨by decide +kernel, by decide +kernel⟩, List.mem_of_getElem? (i := 1072) (by decide +kernel), List.mem_of_getElem? (i := 1459) (by decide +kernel), List.mem_of_getElem? (i := 1460) (by decide +kernel)⟩
theorem lw_p90 : lw_okq (⟨"ToadBankModel", "controls", "(I)I"⟩, 50) := ⟨⟨by decide +kernel, by decide +kernel⟩, List.mem_of_getElem? (i := 1072) (by decide +kernel), List.mem_of_getElem? (i := 1464) (by decide +kernel), List.mem_of_getElem? (i := 1465) (by decide +kernel)⟩
theorem lw_p91 : lw_okq (⟨"ToadBankModel", "clears", "(II)I"⟩, 50) := ⟨⟨by decide +kernel, by decide +kernel⟩, List.mem_of_getElem? (i := 1072) (by decide +kernel), List.mem_of_getElem? (i := 1480) (by decide +kernel), List.mem_of_getElem? (i := 1481) (by decide +kernel)⟩
theorem lw_p92 : lw_okq (⟨"ToadBankModel", "paysLess", "()Z"⟩, 50) := ⟨⟨by decide +kernel, by decide +kernel⟩, List.mem_of_getElem? (i := 1072) (by decide +kernel), List.mem_of_getElem? (i := 1487) (by decide +kernel), List.mem_of_getElem? (i := 1488) (by decide +kernel)⟩
theorem lw_p93 : lw_okq (⟨"ToadBankModel", "laysGets", "()V"⟩, 50) := ⟨⟨by decide +kernel, by decide +kernel⟩, List.mem_of_getElem? (i := 1072) (by decide +kernel), List.mem_of_getElem? (i := 1491) (by decide +kernel), List.mem_of_getElem? (i := 1492) (by decide +kernel)⟩
theorem lw_p94 : lw_okq (⟨"ToadBankModel", "beginsAt", "(I)V"⟩, 50) := ⟨⟨by decide +kernel, by decide +kernel⟩, List.mem_of_getElem? (i := 1072) (by decide +kernel), List.mem_of_getElem? (i := 1526) (by decide +kernel), List.mem_of_getElem? (i := 1527) (by decide +kernel)⟩
theorem lw_p95 : lw_okq (⟨"ToadBankModel", "widens", "(I)V"⟩, 50) := ⟨⟨by decide +kernel, by decide +kernel⟩, List.mem_of_getElem? (i := 1072) (by decide +kernel), List.mem_of_getElem? (i := 1531) (by decide +kernel), List.mem_of_getElem? (i := 1532) (by decide +kernel)⟩
def lw_privs_6 : List (MethodName × Nat) := [(⟨"ToadBankModel", "getsAll", "(I)I"⟩, 50), (⟨"ToadBankModel", "byLaw", "(II)I"⟩, 50), (⟨"ToadBankModel", "comesTo", "(II)I"⟩, 50), (⟨"ToadBankModel", "shuts", "(I)V"⟩, 50), (⟨"ToadBankModel", "parts", "(I)V"⟩, 50), (⟨"ToadBankModel", "grows", "(II)V"⟩, 50), (⟨"ToadBankModel", "holdsAny", "(I)Z"⟩, 50), (⟨"ToadBankModel", "allCash", "()I"⟩, 50), (⟨"ToadBankModel", "allDebts", "()I"⟩, 50), (⟨"ToadBankModel", "worthOf", "(I)I"⟩, 50), (⟨"ToadBankModel", "controls", "(I)I"⟩, 50), (⟨"ToadBankModel", "clears", "(II)I"⟩, 50), (⟨"ToadBankModel", "paysLess", "()Z"⟩, 50), (⟨"ToadBankModel", "laysGets", "()V"⟩, 50), (⟨"ToadBankModel", "beginsAt", "(I)V"⟩, 50), (⟨"ToadBankModel", "widens", "(I)V"⟩, 50)]
theorem lw_r6 : ∀ q ∈ lw_privs_6, lw_okq q := List.forall_mem_cons.mpr ⟨lw_p80, List.forall_mem_cons.mpr ⟨lw_p81, List.forall_mem_cons.mpr ⟨lw_p82, List.forall_mem_cons.mpr ⟨lw_p83, List.forall_mem_cons.mpr ⟨lw_p84, List.forall_mem_cons.mpr ⟨lw_p85, List.forall_mem_cons.mpr ⟨lw_p86, List.forall_mem_cons.mpr ⟨lw_p87, List.forall_mem_cons.mpr ⟨lw_p88, List.forall_mem_cons.mpr ⟨lw_p89, List.forall_mem_cons.mpr ⟨lw_p90, List.forall_mem_cons.mpr ⟨lw_p91, List.forall_mem_cons.mpr ⟨lw_p92, List.forall_mem_cons.mpr ⟨lw_p93, List.forall_mem_cons.mpr ⟨lw_p94, List.forall_mem_cons.mpr ⟨lw_p95, fun _ h => absurd h List.not_mem_nil⟩⟩⟩⟩⟩⟩⟩⟩⟩⟩⟩⟩⟩⟩⟩⟩
theorem lw_p96 : lw_okq (⟨"ToadBankModel", "laysGroups", "()V"⟩, 50) := ⟨⟨by decide +kernel, by decide +kernel⟩, List.mem_of_getElem? (i := 1072) (by decide +kernel), List.mem_of_getElem? (i := 1547) (by decide +kernel), List.mem_of_getElem? (i := 1548) (by decide +kernel)⟩
theorem lw_p97 : lw_okq (⟨"ToadBankModel", "told", "(I)I"⟩, 50) := ⟨⟨by decide +kernel, by decide +kernel⟩, List.mem_of_getElem? (i := 1072) (by decide +kernel), List.mem_of_getElem? (i := 1559) (by decide +kernel), List.mem_of_getElem? (i := 1560) (by decide +kernel)⟩
theorem lw_p98 : lw_okq (⟨"ToadBankModel", "octet", "(I)I"⟩, 50) := ⟨⟨by decide +kernel, by decide +kernel⟩, List.mem_of_getElem? (i := 1072) (by decide +kernel), List.mem_of_getElem? (i := 1563) (by decide +kernel), List.mem_of_getElem? (i := 1564) (by decide +kernel)⟩
theorem lw_p99 : lw_okq (⟨"ToadBankModel", "noBlink", "(I)I"⟩, 50) := ⟨⟨by decide +kernel, by decide +kernel⟩, List.mem_of_getElem? (i := 1072) (by decide +kernel), List.mem_of_getElem? (i := 1586) (by decide +kernel), List.mem_of_getElem? (i := 1587) (by decide +kernel)⟩
theorem lw_p100 : lw_okq (⟨"ToadBankModel", "bitsAt", "(II)I"⟩, 50) := ⟨⟨by decide +kernel, by decide +kernel⟩, List.mem_of_getElem? (i := 1072) (by decide +kernel), List.mem_of_getElem? (i := 1590) (by decide +kernel), List.mem_of_getElem? (i := 1591) (by decide +kernel)⟩
theorem lw_p101 : lw_okq (⟨"ToadBankModel", "laysBlinks", "(I)V"⟩, 50) := ⟨⟨by decide +kernel, by decide +kernel⟩, List.mem_of_getElem? (i := 1072) (by decide +kernel), List.mem_of_getElem? (i := 1598) (by decide +kernel), List.mem_of_getElem? (i := 1599) (by decide +kernel)⟩
theorem lw_p102 : lw_okq (⟨"ToadBankModel", "beginsWith", "(II)Z"⟩, 50) := ⟨⟨by decide +kernel, by decide +kernel⟩, List.mem_of_getElem? (i := 1072) (by decide +kernel), List.mem_of_getElem? (i := 1607) (by decide +kernel), List.mem_of_getElem? (i := 1608) (by decide +kernel)⟩
theorem lw_p103 : lw_okq (⟨"ToadBankModel", "leastOf", "(II)I"⟩, 50) := ⟨⟨by decide +kernel, by decide +kernel⟩, List.mem_of_getElem? (i := 1072) (by decide +kernel), List.mem_of_getElem? (i := 1615) (by decide +kernel), List.mem_of_getElem? (i := 1616) (by decide +kernel)⟩
theorem lw_p104 : lw_okq (⟨"ToadBankModel", "sumBetween", "(II)I"⟩, 50) := ⟨⟨by decide +kernel, by decide +kernel⟩, List.mem_of_getElem? (i := 1072) (by decide +kernel), List.mem_of_getElem? (i := 1623) (by decide +kernel), List.mem_of_getElem? (i := 1624) (by decide +kernel)⟩
def lw_privs_7 : List (MethodName × Nat) := [(⟨"ToadBankModel", "laysGroups", "()V"⟩, 50), (⟨"ToadBankModel", "told", "(I)I"⟩, 50), (⟨"ToadBankModel", "octet", "(I)I"⟩, 50), (⟨"ToadBankModel", "noBlink", "(I)I"⟩, 50), (⟨"ToadBankModel", "bitsAt", "(II)I"⟩, 50), (⟨"ToadBankModel", "laysBlinks", "(I)V"⟩, 50), (⟨"ToadBankModel", "beginsWith", "(II)Z"⟩, 50), (⟨"ToadBankModel", "leastOf", "(II)I"⟩, 50), (⟨"ToadBankModel", "sumBetween", "(II)I"⟩, 50)]
theorem lw_r7 : ∀ q ∈ lw_privs_7, lw_okq q := List.forall_mem_cons.mpr ⟨lw_p96, List.forall_mem_cons.mpr ⟨lw_p97, List.forall_mem_cons.mpr ⟨lw_p98, List.forall_mem_cons.mpr ⟨lw_p99, List.forall_mem_cons.mpr ⟨lw_p100, List.forall_mem_cons.mpr ⟨lw_p101, List.forall_mem_cons.mpr ⟨lw_p102, List.forall_mem_cons.mpr ⟨lw_p103, List.forall_mem_cons.mpr ⟨lw_p104, fun _ h => absurd h List.not_mem_nil⟩⟩⟩⟩⟩⟩⟩⟩⟩
def lw_privs : List (MethodName × Nat) := lw_privs_1 ++ (lw_privs_2 ++ (lw_privs_3 ++ (lw_privs_4 ++ (lw_privs_5 ++ (lw_privs_6 ++ (lw_privs_7))))))
def lw_tbl : List Cond := k2_sels lw_privs ++ tables_1
theorem lw_privs_ok : ∀ q ∈ lw_privs, lw_okq q := by
  show ∀ q ∈ lw_privs_1 ++ (lw_privs_2 ++ (lw_privs_3 ++ (lw_privs_4 ++ (lw_privs_5 ++ (lw_privs_6 ++ (lw_privs_7)))))), lw_okq q
  exact List.forall_mem_append.mpr ⟨lw_r1, List.forall_mem_append.mpr ⟨lw_r2, List.forall_mem_append.mpr ⟨lw_r3, List.forall_mem_append.mpr ⟨lw_r4, List.forall_mem_append.mpr ⟨lw_r5, List.forall_mem_append.mpr ⟨lw_r6, lw_r7⟩⟩⟩⟩⟩⟩
end
section
def RX0 : String := "ToadBank$Asker"
def TX0 : u_T := fun k => match k with
  | 0 => ("ToadBank$Asker", "stack", "[I", true)
  | 1 => ("ToadBank$Asker", "top", "I", false)
  | 2 => ("ToadBank$Asker", "refused", "Z", false)
  | 3 => ("ToadBank$Asker", "b", "I", false)
  | 4 => ("ToadBank$Asker", "to", "I", false)
  | _ => ("ToadBank$Asker", "debt", "I", false)
def tyX0 : Nat → FieldType := fun k => match k with
  | 0 => .array .int
  | 1 => .int
  | 2 => .boolean
  | 3 => .int
  | 4 => .int
  | _ => .int
theorem nmX0 : ∀ a, a < 6 → ∀ b, b < 6 → a ≠ b → (TX0 a).2.1 ≠ (TX0 b).2.1 := by decide +kernel
theorem tyX0_ok : ∀ k, k < 6 → parseFieldDescriptor (TX0 k).2.2.1 = some (tyX0 k) := by decide +kernel
abbrev cX0_init : ByteArray := prog_2_method_1_code
def yX0_init : MethodName := ⟨RX0, "<init>", "()V"⟩
abbrev cX0_askOfBank : ByteArray := prog_2_method_2_code
def yX0_askOfBank : MethodName := ⟨RX0, "askOfBank", "(I)V"⟩
abbrev cX0_askOfDebt : ByteArray := prog_2_method_3_code
def yX0_askOfDebt : MethodName := ⟨RX0, "askOfDebt", "(III)V"⟩
abbrev cX0_amount : ByteArray := prog_2_method_4_code
def yX0_amount : MethodName := ⟨RX0, "amount", "(LToadBank$Law;LToadBank$Town;II)I"⟩
abbrev cX0_anyHolds : ByteArray := prog_2_method_5_code
def yX0_anyHolds : MethodName := ⟨RX0, "anyHolds", "(LToadBank$Law;LToadBank$Town;I)Z"⟩
abbrev cX0_reckon : ByteArray := prog_2_method_6_code
def yX0_reckon : MethodName := ⟨RX0, "reckon", "(LToadBank$Law;LToadBank$Town;II)I"⟩
abbrev cX0_push : ByteArray := prog_2_method_7_code
def yX0_push : MethodName := ⟨RX0, "push", "(I)V"⟩
abbrev cX0_topmost : ByteArray := prog_2_method_8_code
def yX0_topmost : MethodName := ⟨RX0, "topmost", "()I"⟩
abbrev cX0_pop : ByteArray := prog_2_method_9_code
def yX0_pop : MethodName := ⟨RX0, "pop", "()I"⟩
abbrev cX0_valueOf : ByteArray := prog_2_method_10_code
def yX0_valueOf : MethodName := ⟨RX0, "valueOf", "(LToadBank$Town;I)I"⟩
abbrev cX0_doSign : ByteArray := prog_2_method_11_code
def yX0_doSign : MethodName := ⟨RX0, "doSign", "(I)V"⟩
abbrev cX0_divide : ByteArray := prog_2_method_12_code
def yX0_divide : MethodName := ⟨RX0, "divide", "(III)V"⟩
def RX1 : String := "ToadBank$Clearing"
def TX1 : u_T := fun k => match k with
  | 0 => ("ToadBank$Clearing", "debts", "[I", true)
  | 1 => ("ToadBank$Clearing", "cash", "[I", true)
  | 2 => ("ToadBank$Clearing", "owed", "[I", true)
  | 3 => ("ToadBank$Clearing", "paid", "[I", true)
  | 4 => ("ToadBank$Clearing", "gotten", "[I", true)
  | 5 => ("ToadBank$Clearing", "falls", "[I", true)
  | _ => ("ToadBank$Clearing", "rounds", "I", false)
def tyX1 : Nat → FieldType := fun k => match k with
  | 0 => .array .int
  | 1 => .array .int
  | 2 => .array .int
  | 3 => .array .int
  | 4 => .array .int
  | 5 => .array .int
  | _ => .int
theorem nmX1 : ∀ a, a < 7 → ∀ b, b < 7 → a ≠ b → (TX1 a).2.1 ≠ (TX1 b).2.1 := by decide +kernel
theorem tyX1_ok : ∀ k, k < 7 → parseFieldDescriptor (TX1 k).2.2.1 = some (tyX1 k) := by decide +kernel
abbrev cX1_init : ByteArray := prog_3_method_1_code
def yX1_init : MethodName := ⟨RX1, "<init>", "()V"⟩
abbrev cX1_takeIn : ByteArray := prog_3_method_2_code
def yX1_takeIn : MethodName := ⟨RX1, "takeIn", "(LToadBank$Town;)V"⟩
abbrev cX1_strike : ByteArray := prog_3_method_3_code
def yX1_strike : MethodName := ⟨RX1, "strike", "(II)V"⟩
abbrev cX1_payAtOnce : ByteArray := prog_3_method_4_code
def yX1_payAtOnce : MethodName := ⟨RX1, "payAtOnce", "()V"⟩
abbrev cX1_handOut : ByteArray := prog_3_method_5_code
def yX1_handOut : MethodName := ⟨RX1, "handOut", "()V"⟩
abbrev cX1_payLess : ByteArray := prog_3_method_6_code
def yX1_payLess : MethodName := ⟨RX1, "payLess", "(I)Z"⟩
abbrev cX1_paidBy : ByteArray := prog_3_method_7_code
def yX1_paidBy : MethodName := ⟨RX1, "paidBy", "(I)I"⟩
abbrev cX1_gottenBy : ByteArray := prog_3_method_8_code
def yX1_gottenBy : MethodName := ⟨RX1, "gottenBy", "(I)I"⟩
abbrev cX1_roundOfFall : ByteArray := prog_3_method_9_code
def yX1_roundOfFall : MethodName := ⟨RX1, "roundOfFall", "(I)I"⟩
abbrev cX1_fallen : ByteArray := prog_3_method_10_code
def yX1_fallen : MethodName := ⟨RX1, "fallen", "()I"⟩
def RX2 : String := "ToadBank$Codes"
def TX2 : u_T := fun k => match k with
  | 0 => ("ToadBank$Codes", "lengths", "[I", true)
  | 1 => ("ToadBank$Codes", "blinksOfSigns", "[I", true)
  | 2 => ("ToadBank$Codes", "ways", "[I", true)
  | 3 => ("ToadBank$Codes", "fewest", "[I", true)
  | 4 => ("ToadBank$Codes", "weights", "[I", true)
  | _ => ("ToadBank$Codes", "costs", "[I", true)
def tyX2 : Nat → FieldType := fun k => match k with
  | 0 => .array .int
  | 1 => .array .int
  | 2 => .array .int
  | 3 => .array .int
  | 4 => .array .int
  | _ => .array .int
theorem nmX2 : ∀ a, a < 6 → ∀ b, b < 6 → a ≠ b → (TX2 a).2.1 ≠ (TX2 b).2.1 := by decide +kernel
theorem tyX2_ok : ∀ k, k < 6 → parseFieldDescriptor (TX2 k).2.2.1 = some (tyX2 k) := by decide +kernel
abbrev cX2_init : ByteArray := prog_4_method_1_code
def yX2_init : MethodName := ⟨RX2, "<init>", "()V"⟩
abbrev cX2_tell : ByteArray := prog_4_method_2_code
def yX2_tell : MethodName := ⟨RX2, "tell", "(ILToadBank$Tape;I)V"⟩
abbrev cX2_lengthOf : ByteArray := prog_4_method_3_code
def yX2_lengthOf : MethodName := ⟨RX2, "lengthOf", "(I)I"⟩
abbrev cX2_blinkOf : ByteArray := prog_4_method_4_code
def yX2_blinkOf : MethodName := ⟨RX2, "blinkOf", "(II)I"⟩
abbrev cX2_toldBits : ByteArray := prog_4_method_5_code
def yX2_toldBits : MethodName := ⟨RX2, "toldBits", "()I"⟩
abbrev cX2_readAll : ByteArray := prog_4_method_6_code
def yX2_readAll : MethodName := ⟨RX2, "readAll", "(LToadBank$Tape;I)V"⟩
abbrev cX2_standsAt : ByteArray := prog_4_method_7_code
def yX2_standsAt : MethodName := ⟨RX2, "standsAt", "(LToadBank$Tape;III)Z"⟩
abbrev cX2_waysFrom : ByteArray := prog_4_method_8_code
def yX2_waysFrom : MethodName := ⟨RX2, "waysFrom", "(I)I"⟩
abbrev cX2_stepsFrom : ByteArray := prog_4_method_9_code
def yX2_stepsFrom : MethodName := ⟨RX2, "stepsFrom", "(I)I"⟩
abbrev cX2_fewestFrom : ByteArray := prog_4_method_10_code
def yX2_fewestFrom : MethodName := ⟨RX2, "fewestFrom", "(I)I"⟩
abbrev cX2_signAtPlace : ByteArray := prog_4_method_11_code
def yX2_signAtPlace : MethodName := ⟨RX2, "signAtPlace", "(LToadBank$Tape;II)I"⟩
abbrev cX2_leastSignAt : ByteArray := prog_4_method_12_code
def yX2_leastSignAt : MethodName := ⟨RX2, "leastSignAt", "(LToadBank$Tape;II)I"⟩
abbrev cX2_areReadAtOnce : ByteArray := prog_4_method_13_code
def yX2_areReadAtOnce : MethodName := ⟨RX2, "areReadAtOnce", "()Z"⟩
abbrev cX2_begins : ByteArray := prog_4_method_14_code
def yX2_begins : MethodName := ⟨RX2, "begins", "(II)Z"⟩
abbrev cX2_shortestOf : ByteArray := prog_4_method_15_code
def yX2_shortestOf : MethodName := ⟨RX2, "shortestOf", "(LToadBank$Tape;I)I"⟩
abbrev cX2_moveLeastToEnd : ByteArray := prog_4_method_16_code
def yX2_moveLeastToEnd : MethodName := ⟨RX2, "moveLeastToEnd", "(I)V"⟩
abbrev cX2_shortestInOrder : ByteArray := prog_4_method_17_code
def yX2_shortestInOrder : MethodName := ⟨RX2, "shortestInOrder", "(LToadBank$Tape;I)I"⟩
abbrev cX2_costOfSpan : ByteArray := prog_4_method_18_code
def yX2_costOfSpan : MethodName := ⟨RX2, "costOfSpan", "(LToadBank$Tape;II)I"⟩
abbrev cX2_cost : ByteArray := prog_4_method_19_code
def yX2_cost : MethodName := ⟨RX2, "cost", "(II)I"⟩
def RX3 : String := "ToadBank$Law"
def TX3 : u_T := fun k => match k with
  | 0 => ("ToadBank$Law", "letters", "[I", true)
  | 1 => ("ToadBank$Law", "amountStarts", "[I", true)
  | 2 => ("ToadBank$Law", "caseStarts", "[I", true)
  | 3 => ("ToadBank$Law", "ends", "[I", true)
  | 4 => ("ToadBank$Law", "signs", "[I", true)
  | 5 => ("ToadBank$Law", "rules", "I", false)
  | _ => ("ToadBank$Law", "size", "I", false)
def tyX3 : Nat → FieldType := fun k => match k with
  | 0 => .array .int
  | 1 => .array .int
  | 2 => .array .int
  | 3 => .array .int
  | 4 => .array .int
  | 5 => .int
  | _ => .int
theorem nmX3 : ∀ a, a < 7 → ∀ b, b < 7 → a ≠ b → (TX3 a).2.1 ≠ (TX3 b).2.1 := by decide +kernel
theorem tyX3_ok : ∀ k, k < 7 → parseFieldDescriptor (TX3 k).2.2.1 = some (tyX3 k) := by decide +kernel
abbrev cX3_init : ByteArray := prog_5_method_1_code
def yX3_init : MethodName := ⟨RX3, "<init>", "()V"⟩
abbrev cX3_clear : ByteArray := prog_5_method_2_code
def yX3_clear : MethodName := ⟨RX3, "clear", "()V"⟩
abbrev cX3_copyFrom : ByteArray := prog_5_method_3_code
def yX3_copyFrom : MethodName := ⟨RX3, "copyFrom", "(LToadBank$Law;)V"⟩
abbrev cX3_startRule : ByteArray := prog_5_method_4_code
def yX3_startRule : MethodName := ⟨RX3, "startRule", "(I)V"⟩
abbrev cX3_startCase : ByteArray := prog_5_method_5_code
def yX3_startCase : MethodName := ⟨RX3, "startCase", "()V"⟩
abbrev cX3_endRule : ByteArray := prog_5_method_6_code
def yX3_endRule : MethodName := ⟨RX3, "endRule", "()V"⟩
abbrev cX3_add : ByteArray := prog_5_method_7_code
def yX3_add : MethodName := ⟨RX3, "add", "(I)V"⟩
abbrev cX3_set : ByteArray := prog_5_method_8_code
def yX3_set : MethodName := ⟨RX3, "set", "(II)V"⟩
abbrev cX3_sign : ByteArray := prog_5_method_9_code
def yX3_sign : MethodName := ⟨RX3, "sign", "(I)I"⟩
def RX4 : String := "ToadBank$LawReader"
def TX4 : u_T := fun k => match k with
  | _ => ("ToadBank$LawReader", "draft", "LToadBank$Law;", true)
def tyX4 : Nat → FieldType := fun k => match k with
  | _ => .object "ToadBank$Law"
theorem nmX4 : ∀ a, a < 1 → ∀ b, b < 1 → a ≠ b → (TX4 a).2.1 ≠ (TX4 b).2.1 := by decide +kernel
theorem tyX4_ok : ∀ k, k < 1 → parseFieldDescriptor (TX4 k).2.2.1 = some (tyX4 k) := by decide +kernel
abbrev cX4_init : ByteArray := prog_6_method_1_code
def yX4_init : MethodName := ⟨RX4, "<init>", "()V"⟩
abbrev cX4_read : ByteArray := prog_6_method_2_code
def yX4_read : MethodName := ⟨RX4, "read", "(LToadBank$Tape;I)I"⟩
abbrev cX4_readRule : ByteArray := prog_6_method_3_code
def yX4_readRule : MethodName := ⟨RX4, "readRule", "(LToadBank$Tape;)Z"⟩
abbrev cX4_readCase : ByteArray := prog_6_method_4_code
def yX4_readCase : MethodName := ⟨RX4, "readCase", "(LToadBank$Tape;I)Z"⟩
abbrev cX4_readPart : ByteArray := prog_6_method_5_code
def yX4_readPart : MethodName := ⟨RX4, "readPart", "(LToadBank$Tape;I)Z"⟩
abbrev cX4_startLink : ByteArray := prog_6_method_6_code
def yX4_startLink : MethodName := ⟨RX4, "startLink", "(LToadBank$Tape;I)I"⟩
abbrev cX4_readTest : ByteArray := prog_6_method_7_code
def yX4_readTest : MethodName := ⟨RX4, "readTest", "(LToadBank$Tape;I)Z"⟩
abbrev cX4_readOpened : ByteArray := prog_6_method_8_code
def yX4_readOpened : MethodName := ⟨RX4, "readOpened", "(LToadBank$Tape;II)Z"⟩
abbrev cX4_readSum : ByteArray := prog_6_method_9_code
def yX4_readSum : MethodName := ⟨RX4, "readSum", "(LToadBank$Tape;I)Z"⟩
abbrev cX4_readTerm : ByteArray := prog_6_method_10_code
def yX4_readTerm : MethodName := ⟨RX4, "readTerm", "(LToadBank$Tape;I)Z"⟩
abbrev cX4_readFactor : ByteArray := prog_6_method_11_code
def yX4_readFactor : MethodName := ⟨RX4, "readFactor", "(LToadBank$Tape;I)Z"⟩
abbrev cX4_isAskedLetter : ByteArray := prog_6_method_12_code
def yX4_isAskedLetter : MethodName := ⟨RX4, "isAskedLetter", "(I)Z"⟩
def RX5 : String := "ToadBank$LedgerReader"
def TX5 : u_T := fun k => match k with
  | _ => ("ToadBank$LedgerReader", "other", "I", false)
def tyX5 : Nat → FieldType := fun k => match k with
  | _ => .int
theorem nmX5 : ∀ a, a < 1 → ∀ b, b < 1 → a ≠ b → (TX5 a).2.1 ≠ (TX5 b).2.1 := by decide +kernel
theorem tyX5_ok : ∀ k, k < 1 → parseFieldDescriptor (TX5 k).2.2.1 = some (tyX5 k) := by decide +kernel
abbrev cX5_init : ByteArray := prog_7_method_1_code
def yX5_init : MethodName := ⟨RX5, "<init>", "()V"⟩
abbrev cX5_read : ByteArray := prog_7_method_2_code
def yX5_read : MethodName := ⟨RX5, "read", "(LToadBank$Tape;ILToadBank$Town;)I"⟩
abbrev cX5_readLine : ByteArray := prog_7_method_3_code
def yX5_readLine : MethodName := ⟨RX5, "readLine", "(LToadBank$Tape;LToadBank$Town;I)Z"⟩
abbrev cX5_readOther : ByteArray := prog_7_method_4_code
def yX5_readOther : MethodName := ⟨RX5, "readOther", "(LToadBank$Tape;LToadBank$Town;I)Z"⟩
abbrev cX5_carryOut : ByteArray := prog_7_method_5_code
def yX5_carryOut : MethodName := ⟨RX5, "carryOut", "(LToadBank$Town;III)Z"⟩
abbrev cX5_addCash : ByteArray := prog_7_method_6_code
def yX5_addCash : MethodName := ⟨RX5, "addCash", "(LToadBank$Town;II)Z"⟩
abbrev cX5_addDebt : ByteArray := prog_7_method_7_code
def yX5_addDebt : MethodName := ⟨RX5, "addDebt", "(LToadBank$Town;II)Z"⟩
def RX6 : String := "ToadBank$Months"
def TX6 : u_T := fun k => match k with
  | 0 => ("ToadBank$Months", "shut", "I", false)
  | _ => ("ToadBank$Months", "runs", "I", false)
def tyX6 : Nat → FieldType := fun k => match k with
  | 0 => .int
  | _ => .int
theorem nmX6 : ∀ a, a < 2 → ∀ b, b < 2 → a ≠ b → (TX6 a).2.1 ≠ (TX6 b).2.1 := by decide +kernel
theorem tyX6_ok : ∀ k, k < 2 → parseFieldDescriptor (TX6 k).2.2.1 = some (tyX6 k) := by decide +kernel
abbrev cX6_init : ByteArray := prog_8_method_1_code
def yX6_init : MethodName := ⟨RX6, "<init>", "()V"⟩
abbrev cX6_run : ByteArray := prog_8_method_2_code
def yX6_run : MethodName := ⟨RX6, "run", "(LToadBank$Town;LToadBank$Law;LToadBank$Asker;I)V"⟩
abbrev cX6_letCashFlow : ByteArray := prog_8_method_3_code
def yX6_letCashFlow : MethodName := ⟨RX6, "letCashFlow", "(LToadBank$Town;LToadBank$Law;LToadBank$Asker;)V"⟩
abbrev cX6_letDebtsGrow : ByteArray := prog_8_method_4_code
def yX6_letDebtsGrow : MethodName := ⟨RX6, "letDebtsGrow", "(LToadBank$Town;LToadBank$Law;LToadBank$Asker;)V"⟩
abbrev cX6_shutByLaw : ByteArray := prog_8_method_5_code
def yX6_shutByLaw : MethodName := ⟨RX6, "shutByLaw", "(LToadBank$Town;LToadBank$Law;LToadBank$Asker;)V"⟩
abbrev cX6_letFall : ByteArray := prog_8_method_6_code
def yX6_letFall : MethodName := ⟨RX6, "letFall", "(LToadBank$Town;I)V"⟩
def RX7 : String := "ToadBank$Parting"
def TX7 : u_T := fun k => match k with
  | 0 => ("ToadBank$Parting", "worths", "[I", true)
  | 1 => ("ToadBank$Parting", "sums", "[I", true)
  | 2 => ("ToadBank$Parting", "best", "[I", true)
  | _ => ("ToadBank$Parting", "unsettled", "I", false)
def tyX7 : Nat → FieldType := fun k => match k with
  | 0 => .array .int
  | 1 => .array .int
  | 2 => .array .int
  | _ => .int
theorem nmX7 : ∀ a, a < 4 → ∀ b, b < 4 → a ≠ b → (TX7 a).2.1 ≠ (TX7 b).2.1 := by decide +kernel
theorem tyX7_ok : ∀ k, k < 4 → parseFieldDescriptor (TX7 k).2.2.1 = some (tyX7 k) := by decide +kernel
abbrev cX7_init : ByteArray := prog_9_method_1_code
def yX7_init : MethodName := ⟨RX7, "<init>", "()V"⟩
abbrev cX7_groupsOf : ByteArray := prog_9_method_2_code
def yX7_groupsOf : MethodName := ⟨RX7, "groupsOf", "(LToadBank$Town;)I"⟩
abbrev cX7_sumOfWorths : ByteArray := prog_9_method_3_code
def yX7_sumOfWorths : MethodName := ⟨RX7, "sumOfWorths", "(I)I"⟩
abbrev cX7_bestWithoutOne : ByteArray := prog_9_method_4_code
def yX7_bestWithoutOne : MethodName := ⟨RX7, "bestWithoutOne", "(I)I"⟩
abbrev cX7_pairUp : ByteArray := prog_9_method_5_code
def yX7_pairUp : MethodName := ⟨RX7, "pairUp", "(LToadBank$Town;I)V"⟩
abbrev cX7_leastCost : ByteArray := prog_9_method_6_code
def yX7_leastCost : MethodName := ⟨RX7, "leastCost", "(I)I"⟩
abbrev cX7_lowestOf : ByteArray := prog_9_method_7_code
def yX7_lowestOf : MethodName := ⟨RX7, "lowestOf", "(I)I"⟩
abbrev cX7_costOf : ByteArray := prog_9_method_8_code
def yX7_costOf : MethodName := ⟨RX7, "costOf", "(I)I"⟩
abbrev cX7_badOf : ByteArray := prog_9_method_9_code
def yX7_badOf : MethodName := ⟨RX7, "badOf", "(I)I"⟩
abbrev cX7_twosOf : ByteArray := prog_9_method_10_code
def yX7_twosOf : MethodName := ⟨RX7, "twosOf", "(I)I"⟩
def RX8 : String := "ToadBank$Roads"
def TX8 : u_T := fun k => match k with
  | _ => ("ToadBank$Roads", "widths", "[I", true)
def tyX8 : Nat → FieldType := fun k => match k with
  | _ => .array .int
theorem nmX8 : ∀ a, a < 1 → ∀ b, b < 1 → a ≠ b → (TX8 a).2.1 ≠ (TX8 b).2.1 := by decide +kernel
theorem tyX8_ok : ∀ k, k < 1 → parseFieldDescriptor (TX8 k).2.2.1 = some (tyX8 k) := by decide +kernel
abbrev cX8_init : ByteArray := prog_10_method_1_code
def yX8_init : MethodName := ⟨RX8, "<init>", "()V"⟩
abbrev cX8_walkFrom : ByteArray := prog_10_method_2_code
def yX8_walkFrom : MethodName := ⟨RX8, "walkFrom", "(LToadBank$Town;I)V"⟩
abbrev cX8_widestStep : ByteArray := prog_10_method_3_code
def yX8_widestStep : MethodName := ⟨RX8, "widestStep", "(LToadBank$Town;II)I"⟩
abbrev cX8_width : ByteArray := prog_10_method_4_code
def yX8_width : MethodName := ⟨RX8, "width", "(II)I"⟩
abbrev cX8_fewestStepsTo : ByteArray := prog_10_method_5_code
def yX8_fewestStepsTo : MethodName := ⟨RX8, "fewestStepsTo", "(I)I"⟩
abbrev cX8_stepsOfWidestTo : ByteArray := prog_10_method_6_code
def yX8_stepsOfWidestTo : MethodName := ⟨RX8, "stepsOfWidestTo", "(I)I"⟩
def RX9 : String := "ToadBank$Tape"
def TX9 : u_T := fun k => match k with
  | 0 => ("ToadBank$Tape", "bytes", "[I", true)
  | 1 => ("ToadBank$Tape", "size", "I", false)
  | 2 => ("ToadBank$Tape", "textEnd", "I", false)
  | 3 => ("ToadBank$Tape", "place", "I", false)
  | 4 => ("ToadBank$Tape", "number", "I", false)
  | _ => ("ToadBank$Tape", "found", "I", false)
def tyX9 : Nat → FieldType := fun k => match k with
  | 0 => .array .int
  | 1 => .int
  | 2 => .int
  | 3 => .int
  | 4 => .int
  | _ => .int
theorem nmX9 : ∀ a, a < 6 → ∀ b, b < 6 → a ≠ b → (TX9 a).2.1 ≠ (TX9 b).2.1 := by decide +kernel
theorem tyX9_ok : ∀ k, k < 6 → parseFieldDescriptor (TX9 k).2.2.1 = some (tyX9 k) := by decide +kernel
abbrev cX9_init : ByteArray := prog_11_method_1_code
def yX9_init : MethodName := ⟨RX9, "<init>", "()V"⟩
abbrev cX9_hasRoomForFeed : ByteArray := prog_11_method_2_code
def yX9_hasRoomForFeed : MethodName := ⟨RX9, "hasRoomForFeed", "()Z"⟩
abbrev cX9_append : ByteArray := prog_11_method_3_code
def yX9_append : MethodName := ⟨RX9, "append", "(I)V"⟩
abbrev cX9_clear : ByteArray := prog_11_method_4_code
def yX9_clear : MethodName := ⟨RX9, "clear", "()V"⟩
abbrev cX9_at : ByteArray := prog_11_method_5_code
def yX9_at : MethodName := ⟨RX9, "at", "(I)I"⟩
abbrev cX9_twoBytesAt : ByteArray := prog_11_method_6_code
def yX9_twoBytesAt : MethodName := ⟨RX9, "twoBytesAt", "(I)I"⟩
abbrev cX9_firstNoBlink : ByteArray := prog_11_method_7_code
def yX9_firstNoBlink : MethodName := ⟨RX9, "firstNoBlink", "(I)I"⟩
abbrev cX9_hasZeroAmong : ByteArray := prog_11_method_8_code
def yX9_hasZeroAmong : MethodName := ⟨RX9, "hasZeroAmong", "(I)Z"⟩
abbrev cX9_startText : ByteArray := prog_11_method_9_code
def yX9_startText : MethodName := ⟨RX9, "startText", "(I)V"⟩
abbrev cX9_isRead : ByteArray := prog_11_method_10_code
def yX9_isRead : MethodName := ⟨RX9, "isRead", "()Z"⟩
abbrev cX9_sign : ByteArray := prog_11_method_11_code
def yX9_sign : MethodName := ⟨RX9, "sign", "()I"⟩
abbrev cX9_step : ByteArray := prog_11_method_12_code
def yX9_step : MethodName := ⟨RX9, "step", "()V"⟩
abbrev cX9_fail : ByteArray := prog_11_method_13_code
def yX9_fail : MethodName := ⟨RX9, "fail", "(I)Z"⟩
abbrev cX9_failAt : ByteArray := prog_11_method_14_code
def yX9_failAt : MethodName := ⟨RX9, "failAt", "(II)Z"⟩
abbrev cX9_expect : ByteArray := prog_11_method_15_code
def yX9_expect : MethodName := ⟨RX9, "expect", "(I)Z"⟩
abbrev cX9_readNumber : ByteArray := prog_11_method_16_code
def yX9_readNumber : MethodName := ⟨RX9, "readNumber", "(I)Z"⟩
def RX10 : String := "ToadBank$Town"
def TX10 : u_T := fun k => match k with
  | 0 => ("ToadBank$Town", "cash", "[I", true)
  | 1 => ("ToadBank$Town", "debts", "[I", true)
  | 2 => ("ToadBank$Town", "shares", "[I", true)
  | 3 => ("ToadBank$Town", "toldBits", "I", false)
  | 4 => ("ToadBank$Town", "openBits", "I", false)
  | 5 => ("ToadBank$Town", "month", "I", false)
  | 6 => ("ToadBank$Town", "fallen", "I", false)
  | _ => ("ToadBank$Town", "x", "I", false)
def tyX10 : Nat → FieldType := fun k => match k with
  | 0 => .array .int
  | 1 => .array .int
  | 2 => .array .int
  | 3 => .int
  | 4 => .int
  | 5 => .int
  | 6 => .int
  | _ => .int
theorem nmX10 : ∀ a, a < 8 → ∀ b, b < 8 → a ≠ b → (TX10 a).2.1 ≠ (TX10 b).2.1 := by decide +kernel
theorem tyX10_ok : ∀ k, k < 8 → parseFieldDescriptor (TX10 k).2.2.1 = some (tyX10 k) := by decide +kernel
abbrev cX10_init : ByteArray := prog_12_method_1_code
def yX10_init : MethodName := ⟨RX10, "<init>", "()V"⟩
abbrev cX10_copyFrom : ByteArray := prog_12_method_2_code
def yX10_copyFrom : MethodName := ⟨RX10, "copyFrom", "(LToadBank$Town;)V"⟩
abbrev cX10_isTold : ByteArray := prog_12_method_3_code
def yX10_isTold : MethodName := ⟨RX10, "isTold", "(I)Z"⟩
abbrev cX10_isOpen : ByteArray := prog_12_method_4_code
def yX10_isOpen : MethodName := ⟨RX10, "isOpen", "(I)Z"⟩
abbrev cX10_areTold : ByteArray := prog_12_method_5_code
def yX10_areTold : MethodName := ⟨RX10, "areTold", "(II)Z"⟩
abbrev cX10_areOpen : ByteArray := prog_12_method_6_code
def yX10_areOpen : MethodName := ⟨RX10, "areOpen", "(II)Z"⟩
abbrev cX10_open : ByteArray := prog_12_method_7_code
def yX10_open : MethodName := ⟨RX10, "open", "(II)V"⟩
abbrev cX10_cashOf : ByteArray := prog_12_method_8_code
def yX10_cashOf : MethodName := ⟨RX10, "cashOf", "(I)I"⟩
abbrev cX10_setCash : ByteArray := prog_12_method_9_code
def yX10_setCash : MethodName := ⟨RX10, "setCash", "(II)V"⟩
abbrev cX10_debt : ByteArray := prog_12_method_10_code
def yX10_debt : MethodName := ⟨RX10, "debt", "(II)I"⟩
abbrev cX10_setDebt : ByteArray := prog_12_method_11_code
def yX10_setDebt : MethodName := ⟨RX10, "setDebt", "(III)V"⟩
abbrev cX10_share : ByteArray := prog_12_method_12_code
def yX10_share : MethodName := ⟨RX10, "share", "(II)I"⟩
abbrev cX10_setShare : ByteArray := prog_12_method_13_code
def yX10_setShare : MethodName := ⟨RX10, "setShare", "(III)V"⟩
abbrev cX10_sharesOutside : ByteArray := prog_12_method_14_code
def yX10_sharesOutside : MethodName := ⟨RX10, "sharesOutside", "(II)I"⟩
abbrev cX10_owesInAll : ByteArray := prog_12_method_15_code
def yX10_owesInAll : MethodName := ⟨RX10, "owesInAll", "(I)I"⟩
abbrev cX10_isOwedInAll : ByteArray := prog_12_method_16_code
def yX10_isOwedInAll : MethodName := ⟨RX10, "isOwedInAll", "(I)I"⟩
abbrev cX10_worth : ByteArray := prog_12_method_17_code
def yX10_worth : MethodName := ⟨RX10, "worth", "(I)I"⟩
abbrev cX10_allCash : ByteArray := prog_12_method_18_code
def yX10_allCash : MethodName := ⟨RX10, "allCash", "()I"⟩
abbrev cX10_allDebts : ByteArray := prog_12_method_19_code
def yX10_allDebts : MethodName := ⟨RX10, "allDebts", "()I"⟩
abbrev cX10_debtsToSetOff : ByteArray := prog_12_method_20_code
def yX10_debtsToSetOff : MethodName := ⟨RX10, "debtsToSetOff", "()I"⟩
abbrev cX10_controlledBy : ByteArray := prog_12_method_21_code
def yX10_controlledBy : MethodName := ⟨RX10, "controlledBy", "(I)I"⟩
abbrev cX10_sharesOfAll : ByteArray := prog_12_method_22_code
def yX10_sharesOfAll : MethodName := ⟨RX10, "sharesOfAll", "(II)I"⟩
abbrev cX10_shutDown : ByteArray := prog_12_method_23_code
def yX10_shutDown : MethodName := ⟨RX10, "shutDown", "(I)V"⟩
abbrev cX10_join : ByteArray := prog_12_method_24_code
def yX10_join : MethodName := ⟨RX10, "join", "(II)V"⟩
abbrev cX10_draw : ByteArray := prog_12_method_25_code
def yX10_draw : MethodName := ⟨RX10, "draw", "()I"⟩
def RX11 : String := "ToadBank"
def TX11 : u_T := fun k => match k with
  | 0 => ("ToadBank", "tape", "LToadBank$Tape;", true)
  | 1 => ("ToadBank", "town", "LToadBank$Town;", true)
  | 2 => ("ToadBank", "kept", "LToadBank$Town;", true)
  | 3 => ("ToadBank", "spare", "LToadBank$Town;", true)
  | 4 => ("ToadBank", "ledgerReader", "LToadBank$LedgerReader;", true)
  | 5 => ("ToadBank", "lawReader", "LToadBank$LawReader;", true)
  | 6 => ("ToadBank", "asker", "LToadBank$Asker;", true)
  | 7 => ("ToadBank", "monthRun", "LToadBank$Months;", true)
  | 8 => ("ToadBank", "clearing", "LToadBank$Clearing;", true)
  | 9 => ("ToadBank", "roads", "LToadBank$Roads;", true)
  | 10 => ("ToadBank", "parting", "LToadBank$Parting;", true)
  | 11 => ("ToadBank", "codes", "LToadBank$Codes;", true)
  | 12 => ("ToadBank", "lawInForce", "LToadBank$Law;", true)
  | _ => ("ToadBank", "everKept", "Z", false)
def tyX11 : Nat → FieldType := fun k => match k with
  | 0 => .object "ToadBank$Tape"
  | 1 => .object "ToadBank$Town"
  | 2 => .object "ToadBank$Town"
  | 3 => .object "ToadBank$Town"
  | 4 => .object "ToadBank$LedgerReader"
  | 5 => .object "ToadBank$LawReader"
  | 6 => .object "ToadBank$Asker"
  | 7 => .object "ToadBank$Months"
  | 8 => .object "ToadBank$Clearing"
  | 9 => .object "ToadBank$Roads"
  | 10 => .object "ToadBank$Parting"
  | 11 => .object "ToadBank$Codes"
  | 12 => .object "ToadBank$Law"
  | _ => .boolean
theorem nmX11 : ∀ a, a < 14 → ∀ b, b < 14 → a ≠ b → (TX11 a).2.1 ≠ (TX11 b).2.1 := by decide +kernel
theorem tyX11_ok : ∀ k, k < 14 → parseFieldDescriptor (TX11 k).2.2.1 = some (tyX11 k) := by decide +kernel
abbrev cX11_init : ByteArray := prog_1_method_1_code
def yX11_init : MethodName := ⟨RX11, "<init>", "()V"⟩
abbrev cX11_bank : ByteArray := prog_1_method_2_code
def yX11_bank : MethodName := ⟨RX11, "bank", "(II)Z"⟩
abbrev cX11_owe : ByteArray := prog_1_method_3_code
def yX11_owe : MethodName := ⟨RX11, "owe", "(III)Z"⟩
abbrev cX11_hold : ByteArray := prog_1_method_4_code
def yX11_hold : MethodName := ⟨RX11, "hold", "(III)Z"⟩
abbrev cX11_feed : ByteArray := prog_1_method_5_code
def yX11_feed : MethodName := ⟨RX11, "feed", "(IIIII)I"⟩
abbrev cX11_law : ByteArray := prog_1_method_6_code
def yX11_law : MethodName := ⟨RX11, "law", "(I)I"⟩
abbrev cX11_ledger : ByteArray := prog_1_method_7_code
def yX11_ledger : MethodName := ⟨RX11, "ledger", "(I)I"⟩
abbrev cX11_months : ByteArray := prog_1_method_8_code
def yX11_months : MethodName := ⟨RX11, "months", "(I)I"⟩
abbrev cX11_tried : ByteArray := prog_1_method_9_code
def yX11_tried : MethodName := ⟨RX11, "tried", "(II)I"⟩
abbrev cX11_bankIs : ByteArray := prog_1_method_10_code
def yX11_bankIs : MethodName := ⟨RX11, "bankIs", "(II)I"⟩
abbrev cX11_owes : ByteArray := prog_1_method_11_code
def yX11_owes : MethodName := ⟨RX11, "owes", "(II)I"⟩
abbrev cX11_holds : ByteArray := prog_1_method_12_code
def yX11_holds : MethodName := ⟨RX11, "holds", "(II)I"⟩
abbrev cX11_cleared : ByteArray := prog_1_method_13_code
def yX11_cleared : MethodName := ⟨RX11, "cleared", "(I)I"⟩
abbrev cX11_falls : ByteArray := prog_1_method_14_code
def yX11_falls : MethodName := ⟨RX11, "falls", "(I)I"⟩
abbrev cX11_keystone : ByteArray := prog_1_method_15_code
def yX11_keystone : MethodName := ⟨RX11, "keystone", "(I)I"⟩
abbrev cX11_blow : ByteArray := prog_1_method_16_code
def yX11_blow : MethodName := ⟨RX11, "blow", "(II)I"⟩
abbrev cX11_fallenByBlow : ByteArray := prog_1_method_17_code
def yX11_fallenByBlow : MethodName := ⟨RX11, "fallenByBlow", "(II)I"⟩
abbrev cX11_leastBlow : ByteArray := prog_1_method_18_code
def yX11_leastBlow : MethodName := ⟨RX11, "leastBlow", "(II)I"⟩
abbrev cX11_help : ByteArray := prog_1_method_19_code
def yX11_help : MethodName := ⟨RX11, "help", "(I)I"⟩
abbrev cX11_setOff : ByteArray := prog_1_method_20_code
def yX11_setOff : MethodName := ⟨RX11, "setOff", "()I"⟩
abbrev cX11_settled : ByteArray := prog_1_method_21_code
def yX11_settled : MethodName := ⟨RX11, "settled", "(I)I"⟩
abbrev cX11_ring : ByteArray := prog_1_method_22_code
def yX11_ring : MethodName := ⟨RX11, "ring", "(II)I"⟩
abbrev cX11_road : ByteArray := prog_1_method_23_code
def yX11_road : MethodName := ⟨RX11, "road", "(III)I"⟩
abbrev cX11_mergers : ByteArray := prog_1_method_24_code
def yX11_mergers : MethodName := ⟨RX11, "mergers", "(II)I"⟩
abbrev cX11_merge : ByteArray := prog_1_method_25_code
def yX11_merge : MethodName := ⟨RX11, "merge", "(II)Z"⟩
abbrev cX11_tampered : ByteArray := prog_1_method_26_code
def yX11_tampered : MethodName := ⟨RX11, "tampered", "(I)I"⟩
abbrev cX11_findTampered : ByteArray := prog_1_method_27_code
def yX11_findTampered : MethodName := ⟨RX11, "findTampered", "(I)I"⟩
abbrev cX11_taken : ByteArray := prog_1_method_28_code
def yX11_taken : MethodName := ⟨RX11, "taken", "(III)I"⟩
abbrev cX11_fewestSums : ByteArray := prog_1_method_29_code
def yX11_fewestSums : MethodName := ⟨RX11, "fewestSums", "(II)I"⟩
abbrev cX11_sumOf : ByteArray := prog_1_method_30_code
def yX11_sumOf : MethodName := ⟨RX11, "sumOf", "(II)I"⟩
abbrev cX11_loan : ByteArray := prog_1_method_31_code
def yX11_loan : MethodName := ⟨RX11, "loan", "(III)I"⟩
abbrev cX11_isLoan : ByteArray := prog_1_method_32_code
def yX11_isLoan : MethodName := ⟨RX11, "isLoan", "(II)Z"⟩
abbrev cX11_monthsToPayOff : ByteArray := prog_1_method_33_code
def yX11_monthsToPayOff : MethodName := ⟨RX11, "monthsToPayOff", "(III)I"⟩
abbrev cX11_payment : ByteArray := prog_1_method_34_code
def yX11_payment : MethodName := ⟨RX11, "payment", "(III)I"⟩
abbrev cX11_code : ByteArray := prog_1_method_35_code
def yX11_code : MethodName := ⟨RX11, "code", "(II)I"⟩
abbrev cX11_blinks : ByteArray := prog_1_method_36_code
def yX11_blinks : MethodName := ⟨RX11, "blinks", "(II)I"⟩
abbrev cX11_readBlinks : ByteArray := prog_1_method_37_code
def yX11_readBlinks : MethodName := ⟨RX11, "readBlinks", "(II)I"⟩
abbrev cX11_atOnce : ByteArray := prog_1_method_38_code
def yX11_atOnce : MethodName := ⟨RX11, "atOnce", "()I"⟩
abbrev cX11_shortest : ByteArray := prog_1_method_39_code
def yX11_shortest : MethodName := ⟨RX11, "shortest", "(I)I"⟩
abbrev cX11_inOrder : ByteArray := prog_1_method_40_code
def yX11_inOrder : MethodName := ⟨RX11, "inOrder", "(I)I"⟩
abbrev cX11_seed : ByteArray := prog_1_method_41_code
def yX11_seed : MethodName := ⟨RX11, "seed", "(I)Z"⟩
abbrev cX11_keep : ByteArray := prog_1_method_42_code
def yX11_keep : MethodName := ⟨RX11, "keep", "()I"⟩
abbrev cX11_undo : ByteArray := prog_1_method_43_code
def yX11_undo : MethodName := ⟨RX11, "undo", "()Z"⟩
abbrev cX11_check : ByteArray := prog_1_method_44_code
def yX11_check : MethodName := ⟨RX11, "check", "(I)I"⟩
abbrev cX11_count : ByteArray := prog_1_method_45_code
def yX11_count : MethodName := ⟨RX11, "count", "(I)I"⟩
abbrev cX11_isBank : ByteArray := prog_1_method_46_code
def yX11_isBank : MethodName := ⟨RX11, "isBank", "(I)Z"⟩
abbrev cX11_isDigit : ByteArray := prog_1_method_47_code
def yX11_isDigit : MethodName := ⟨RX11, "isDigit", "(I)Z"⟩
abbrev cX11_fault : ByteArray := prog_1_method_48_code
def yX11_fault : MethodName := ⟨RX11, "fault", "(II)I"⟩
def RX12 : String := "ToadBankModel"
def TX12 : u_T := fun k => match k with
  | 0 => ("ToadBankModel", "now", "[I", true)
  | 1 => ("ToadBankModel", "aside", "[I", true)
  | 2 => ("ToadBankModel", "kept", "[I", true)
  | 3 => ("ToadBankModel", "tape", "[B", true)
  | 4 => ("ToadBankModel", "taped", "I", false)
  | 5 => ("ToadBankModel", "place0", "I", false)
  | 6 => ("ToadBankModel", "length0", "I", false)
  | 7 => ("ToadBankModel", "fault", "I", false)
  | 8 => ("ToadBankModel", "number0", "I", false)
  | 9 => ("ToadBankModel", "open", "I", false)
  | 10 => ("ToadBankModel", "codeMany", "I", false)
  | 11 => ("ToadBankModel", "waiting", "I", false)
  | 12 => ("ToadBankModel", "saidMany", "I", false)
  | 13 => ("ToadBankModel", "clauses", "I", false)
  | 14 => ("ToadBankModel", "said", "[I", true)
  | 15 => ("ToadBankModel", "waitsAt", "[I", true)
  | 16 => ("ToadBankModel", "saidLetter", "[I", true)
  | 17 => ("ToadBankModel", "saidFrom", "[I", true)
  | 18 => ("ToadBankModel", "saidHalf", "[I", true)
  | 19 => ("ToadBankModel", "saidTo", "[I", true)
  | 20 => ("ToadBankModel", "codes", "[I", true)
  | 21 => ("ToadBankModel", "clauseOf", "[I", true)
  | 22 => ("ToadBankModel", "codeFrom", "[I", true)
  | 23 => ("ToadBankModel", "codeHalf", "[I", true)
  | 24 => ("ToadBankModel", "codeTo", "[I", true)
  | 25 => ("ToadBankModel", "stack", "[I", true)
  | 26 => ("ToadBankModel", "facts", "[I", true)
  | 27 => ("ToadBankModel", "booked", "[I", true)
  | 28 => ("ToadBankModel", "lines", "I", false)
  | 29 => ("ToadBankModel", "shutNow", "I", false)
  | 30 => ("ToadBankModel", "runs", "I", false)
  | 31 => ("ToadBankModel", "pays", "[I", true)
  | 32 => ("ToadBankModel", "gets", "[I", true)
  | 33 => ("ToadBankModel", "owed", "[I", true)
  | 34 => ("ToadBankModel", "whenLess", "[I", true)
  | 35 => ("ToadBankModel", "cashNow", "[I", true)
  | 36 => ("ToadBankModel", "rounds", "I", false)
  | 37 => ("ToadBankModel", "wide", "[I", true)
  | 38 => ("ToadBankModel", "wideNext", "[I", true)
  | 39 => ("ToadBankModel", "badBy", "[I", true)
  | 40 => ("ToadBankModel", "comesBy", "[I", true)
  | 41 => ("ToadBankModel", "groupsBy", "[I", true)
  | 42 => ("ToadBankModel", "codeLong", "[I", true)
  | 43 => ("ToadBankModel", "codeBits", "[I", true)
  | 44 => ("ToadBankModel", "waysFrom", "[I", true)
  | 45 => ("ToadBankModel", "signsFrom", "[I", true)
  | 46 => ("ToadBankModel", "signFrom", "[I", true)
  | 47 => ("ToadBankModel", "oftenOf", "[I", true)
  | 48 => ("ToadBankModel", "leastBy", "[I", true)
  | _ => ("ToadBankModel", "isKept", "Z", false)
def tyX12 : Nat → FieldType := fun k => match k with
  | 0 => .array .int
  | 1 => .array .int
  | 2 => .array .int
  | 3 => .array .byte
  | 4 => .int
  | 5 => .int
  | 6 => .int
  | 7 => .int
  | 8 => .int
  | 9 => .int
  | 10 => .int
  | 11 => .int
  | 12 => .int
  | 13 => .int
  | 14 => .array .int
  | 15 => .array .int
  | 16 => .array .int
  | 17 => .array .int
  | 18 => .array .int
  | 19 => .array .int
  | 20 => .array .int
  | 21 => .array .int
  | 22 => .array .int
  | 23 => .array .int
  | 24 => .array .int
  | 25 => .array .int
  | 26 => .array .int
  | 27 => .array .int
  | 28 => .int
  | 29 => .int
  | 30 => .int
  | 31 => .array .int
  | 32 => .array .int
  | 33 => .array .int
  | 34 => .array .int
  | 35 => .array .int
  | 36 => .int
  | 37 => .array .int
  | 38 => .array .int
  | 39 => .array .int
  | 40 => .array .int
  | 41 => .array .int
  | 42 => .array .int
  | 43 => .array .int
  | 44 => .array .int
  | 45 => .array .int
  | 46 => .array .int
  | 47 => .array .int
  | 48 => .array .int
  | _ => .boolean
theorem nmX12 : ∀ a, a < 50 → ∀ b, b < 50 → a ≠ b → (TX12 a).2.1 ≠ (TX12 b).2.1 := by decide +kernel
theorem tyX12_ok : ∀ k, k < 50 → parseFieldDescriptor (TX12 k).2.2.1 = some (tyX12 k) := by decide +kernel
abbrev cX12_init : ByteArray := prog_14_method_1_code
def yX12_init : MethodName := ⟨RX12, "<init>", "()V"⟩
abbrev cX12_in : ByteArray := prog_14_method_2_code
def yX12_in : MethodName := ⟨RX12, "in", "(III)Z"⟩
abbrev cX12_min : ByteArray := prog_14_method_3_code
def yX12_min : MethodName := ⟨RX12, "min", "(II)I"⟩
abbrev cX12_max : ByteArray := prog_14_method_4_code
def yX12_max : MethodName := ⟨RX12, "max", "(II)I"⟩
abbrev cX12_has : ByteArray := prog_14_method_5_code
def yX12_has : MethodName := ⟨RX12, "has", "(II)Z"⟩
abbrev cX12_bits : ByteArray := prog_14_method_6_code
def yX12_bits : MethodName := ⟨RX12, "bits", "(I)I"⟩
abbrev cX12_copies : ByteArray := prog_14_method_7_code
def yX12_copies : MethodName := ⟨RX12, "copies", "([I[I)V"⟩
abbrev cX12_isBank : ByteArray := prog_14_method_8_code
def yX12_isBank : MethodName := ⟨RX12, "isBank", "(I)Z"⟩
abbrev cX12_isOpen : ByteArray := prog_14_method_9_code
def yX12_isOpen : MethodName := ⟨RX12, "isOpen", "(I)Z"⟩
abbrev cX12_areOpen : ByteArray := prog_14_method_10_code
def yX12_areOpen : MethodName := ⟨RX12, "areOpen", "(II)Z"⟩
abbrev cX12_debt : ByteArray := prog_14_method_11_code
def yX12_debt : MethodName := ⟨RX12, "debt", "(II)I"⟩
abbrev cX12_share : ByteArray := prog_14_method_12_code
def yX12_share : MethodName := ⟨RX12, "share", "(II)I"⟩
abbrev cX12_owesAll : ByteArray := prog_14_method_13_code
def yX12_owesAll : MethodName := ⟨RX12, "owesAll", "(I)I"⟩
abbrev cX12_getsAll : ByteArray := prog_14_method_14_code
def yX12_getsAll : MethodName := ⟨RX12, "getsAll", "(I)I"⟩
abbrev cX12_allDebts : ByteArray := prog_14_method_15_code
def yX12_allDebts : MethodName := ⟨RX12, "allDebts", "()I"⟩
abbrev cX12_worthOf : ByteArray := prog_14_method_16_code
def yX12_worthOf : MethodName := ⟨RX12, "worthOf", "(I)I"⟩
abbrev cX12_bank : ByteArray := prog_14_method_17_code
def yX12_bank : MethodName := ⟨RX12, "bank", "(II)Z"⟩
abbrev cX12_owe : ByteArray := prog_14_method_18_code
def yX12_owe : MethodName := ⟨RX12, "owe", "(III)Z"⟩
abbrev cX12_hold : ByteArray := prog_14_method_19_code
def yX12_hold : MethodName := ⟨RX12, "hold", "(III)Z"⟩
abbrev cX12_types : ByteArray := prog_14_method_20_code
def yX12_types : MethodName := ⟨RX12, "types", "(I)V"⟩
abbrev cX12_feed : ByteArray := prog_14_method_21_code
def yX12_feed : MethodName := ⟨RX12, "feed", "(IIIII)I"⟩
abbrev cX12_octet : ByteArray := prog_14_method_22_code
def yX12_octet : MethodName := ⟨RX12, "octet", "(I)I"⟩
abbrev cX12_here : ByteArray := prog_14_method_23_code
def yX12_here : MethodName := ⟨RX12, "here", "()I"⟩
abbrev cX12_isDigit : ByteArray := prog_14_method_24_code
def yX12_isDigit : MethodName := ⟨RX12, "isDigit", "()Z"⟩
abbrev cX12_wrongAt : ByteArray := prog_14_method_25_code
def yX12_wrongAt : MethodName := ⟨RX12, "wrongAt", "(II)Z"⟩
abbrev cX12_takes : ByteArray := prog_14_method_26_code
def yX12_takes : MethodName := ⟨RX12, "takes", "(I)Z"⟩
abbrev cX12_readsNumber : ByteArray := prog_14_method_27_code
def yX12_readsNumber : MethodName := ⟨RX12, "readsNumber", "()Z"⟩
abbrev cX12_notes : ByteArray := prog_14_method_28_code
def yX12_notes : MethodName := ⟨RX12, "notes", "(II)V"⟩
abbrev cX12_opens : ByteArray := prog_14_method_29_code
def yX12_opens : MethodName := ⟨RX12, "opens", "(I)Z"⟩
abbrev cX12_waitTop : ByteArray := prog_14_method_30_code
def yX12_waitTop : MethodName := ⟨RX12, "waitTop", "()I"⟩
abbrev cX12_factOf : ByteArray := prog_14_method_31_code
def yX12_factOf : MethodName := ⟨RX12, "factOf", "(I)I"⟩
abbrev cX12_sumSign : ByteArray := prog_14_method_32_code
def yX12_sumSign : MethodName := ⟨RX12, "sumSign", "(I)I"⟩
abbrev cX12_closesSums : ByteArray := prog_14_method_33_code
def yX12_closesSums : MethodName := ⟨RX12, "closesSums", "(Z)V"⟩
abbrev cX12_readsFactor : ByteArray := prog_14_method_34_code
def yX12_readsFactor : MethodName := ⟨RX12, "readsFactor", "()Z"⟩
abbrev cX12_hasOpenSum : ByteArray := prog_14_method_35_code
def yX12_hasOpenSum : MethodName := ⟨RX12, "hasOpenSum", "(I)Z"⟩
abbrev cX12_readsSum : ByteArray := prog_14_method_36_code
def yX12_readsSum : MethodName := ⟨RX12, "readsSum", "()Z"⟩
abbrev cX12_endsPiece : ByteArray := prog_14_method_37_code
def yX12_endsPiece : MethodName := ⟨RX12, "endsPiece", "()V"⟩
abbrev cX12_lands : ByteArray := prog_14_method_38_code
def yX12_lands : MethodName := ⟨RX12, "lands", "(Z)V"⟩
abbrev cX12_jumps : ByteArray := prog_14_method_39_code
def yX12_jumps : MethodName := ⟨RX12, "jumps", "(I)V"⟩
abbrev cX12_readsCompared : ByteArray := prog_14_method_40_code
def yX12_readsCompared : MethodName := ⟨RX12, "readsCompared", "()Z"⟩
abbrev cX12_readsCondition : ByteArray := prog_14_method_41_code
def yX12_readsCondition : MethodName := ⟨RX12, "readsCondition", "()Z"⟩
abbrev cX12_readsRule : ByteArray := prog_14_method_42_code
def yX12_readsRule : MethodName := ⟨RX12, "readsRule", "()Z"⟩
abbrev cX12_beginsText : ByteArray := prog_14_method_43_code
def yX12_beginsText : MethodName := ⟨RX12, "beginsText", "(I)V"⟩
abbrev cX12_law : ByteArray := prog_14_method_44_code
def yX12_law : MethodName := ⟨RX12, "law", "(I)I"⟩
abbrev cX12_reckon : ByteArray := prog_14_method_45_code
def yX12_reckon : MethodName := ⟨RX12, "reckon", "(III)I"⟩
abbrev cX12_comesTo : ByteArray := prog_14_method_46_code
def yX12_comesTo : MethodName := ⟨RX12, "comesTo", "(II)I"⟩
abbrev cX12_byLaw : ByteArray := prog_14_method_47_code
def yX12_byLaw : MethodName := ⟨RX12, "byLaw", "(II)I"⟩
abbrev cX12_holdsAny : ByteArray := prog_14_method_48_code
def yX12_holdsAny : MethodName := ⟨RX12, "holdsAny", "(I)Z"⟩
abbrev cX12_feels : ByteArray := prog_14_method_49_code
def yX12_feels : MethodName := ⟨RX12, "feels", "(I)V"⟩
abbrev cX12_readsBank : ByteArray := prog_14_method_50_code
def yX12_readsBank : MethodName := ⟨RX12, "readsBank", "()Z"⟩
abbrev cX12_readsAmount : ByteArray := prog_14_method_51_code
def yX12_readsAmount : MethodName := ⟨RX12, "readsAmount", "()Z"⟩
abbrev cX12_books : ByteArray := prog_14_method_52_code
def yX12_books : MethodName := ⟨RX12, "books", "(III)Z"⟩
abbrev cX12_readsLine : ByteArray := prog_14_method_53_code
def yX12_readsLine : MethodName := ⟨RX12, "readsLine", "()Z"⟩
abbrev cX12_ledger : ByteArray := prog_14_method_54_code
def yX12_ledger : MethodName := ⟨RX12, "ledger", "(I)I"⟩
abbrev cX12_parts : ByteArray := prog_14_method_55_code
def yX12_parts : MethodName := ⟨RX12, "parts", "(I)V"⟩
abbrev cX12_shuts : ByteArray := prog_14_method_56_code
def yX12_shuts : MethodName := ⟨RX12, "shuts", "(I)V"⟩
abbrev cX12_earns : ByteArray := prog_14_method_57_code
def yX12_earns : MethodName := ⟨RX12, "earns", "(I)V"⟩
abbrev cX12_grows : ByteArray := prog_14_method_58_code
def yX12_grows : MethodName := ⟨RX12, "grows", "(II)V"⟩
abbrev cX12_monthGoes : ByteArray := prog_14_method_59_code
def yX12_monthGoes : MethodName := ⟨RX12, "monthGoes", "()V"⟩
abbrev cX12_monthsGo : ByteArray := prog_14_method_60_code
def yX12_monthsGo : MethodName := ⟨RX12, "monthsGo", "(I)V"⟩
abbrev cX12_months : ByteArray := prog_14_method_61_code
def yX12_months : MethodName := ⟨RX12, "months", "(I)I"⟩
abbrev cX12_allCash : ByteArray := prog_14_method_62_code
def yX12_allCash : MethodName := ⟨RX12, "allCash", "()I"⟩
abbrev cX12_tried : ByteArray := prog_14_method_63_code
def yX12_tried : MethodName := ⟨RX12, "tried", "(II)I"⟩
abbrev cX12_controls : ByteArray := prog_14_method_64_code
def yX12_controls : MethodName := ⟨RX12, "controls", "(I)I"⟩
abbrev cX12_bankIs : ByteArray := prog_14_method_65_code
def yX12_bankIs : MethodName := ⟨RX12, "bankIs", "(II)I"⟩
abbrev cX12_owes : ByteArray := prog_14_method_66_code
def yX12_owes : MethodName := ⟨RX12, "owes", "(II)I"⟩
abbrev cX12_holds : ByteArray := prog_14_method_67_code
def yX12_holds : MethodName := ⟨RX12, "holds", "(II)I"⟩
abbrev cX12_laysGets : ByteArray := prog_14_method_68_code
def yX12_laysGets : MethodName := ⟨RX12, "laysGets", "()V"⟩
abbrev cX12_paysLess : ByteArray := prog_14_method_69_code
def yX12_paysLess : MethodName := ⟨RX12, "paysLess", "()Z"⟩
abbrev cX12_clears : ByteArray := prog_14_method_70_code
def yX12_clears : MethodName := ⟨RX12, "clears", "(II)I"⟩
abbrev cX12_cleared : ByteArray := prog_14_method_71_code
def yX12_cleared : MethodName := ⟨RX12, "cleared", "(I)I"⟩
abbrev cX12_falls : ByteArray := prog_14_method_72_code
def yX12_falls : MethodName := ⟨RX12, "falls", "(I)I"⟩
abbrev cX12_keystone : ByteArray := prog_14_method_73_code
def yX12_keystone : MethodName := ⟨RX12, "keystone", "(I)I"⟩
abbrev cX12_blow : ByteArray := prog_14_method_74_code
def yX12_blow : MethodName := ⟨RX12, "blow", "(II)I"⟩
abbrev cX12_leastBlow : ByteArray := prog_14_method_75_code
def yX12_leastBlow : MethodName := ⟨RX12, "leastBlow", "(II)I"⟩
abbrev cX12_help : ByteArray := prog_14_method_76_code
def yX12_help : MethodName := ⟨RX12, "help", "(I)I"⟩
abbrev cX12_setOff : ByteArray := prog_14_method_77_code
def yX12_setOff : MethodName := ⟨RX12, "setOff", "()I"⟩
abbrev cX12_widens : ByteArray := prog_14_method_78_code
def yX12_widens : MethodName := ⟨RX12, "widens", "(I)V"⟩
abbrev cX12_beginsAt : ByteArray := prog_14_method_79_code
def yX12_beginsAt : MethodName := ⟨RX12, "beginsAt", "(I)V"⟩
abbrev cX12_ring : ByteArray := prog_14_method_80_code
def yX12_ring : MethodName := ⟨RX12, "ring", "(II)I"⟩
abbrev cX12_road : ByteArray := prog_14_method_81_code
def yX12_road : MethodName := ⟨RX12, "road", "(III)I"⟩
abbrev cX12_mergers : ByteArray := prog_14_method_82_code
def yX12_mergers : MethodName := ⟨RX12, "mergers", "(II)I"⟩
abbrev cX12_laysGroups : ByteArray := prog_14_method_83_code
def yX12_laysGroups : MethodName := ⟨RX12, "laysGroups", "()V"⟩
abbrev cX12_settled : ByteArray := prog_14_method_84_code
def yX12_settled : MethodName := ⟨RX12, "settled", "(I)I"⟩
abbrev cX12_merge : ByteArray := prog_14_method_85_code
def yX12_merge : MethodName := ⟨RX12, "merge", "(II)Z"⟩
abbrev cX12_told : ByteArray := prog_14_method_86_code
def yX12_told : MethodName := ⟨RX12, "told", "(I)I"⟩
abbrev cX12_tampered : ByteArray := prog_14_method_87_code
def yX12_tampered : MethodName := ⟨RX12, "tampered", "(I)I"⟩
abbrev cX12_taken : ByteArray := prog_14_method_88_code
def yX12_taken : MethodName := ⟨RX12, "taken", "(III)I"⟩
abbrev cX12_monthsOf : ByteArray := prog_14_method_89_code
def yX12_monthsOf : MethodName := ⟨RX12, "monthsOf", "(III)I"⟩
abbrev cX12_loan : ByteArray := prog_14_method_90_code
def yX12_loan : MethodName := ⟨RX12, "loan", "(III)I"⟩
abbrev cX12_payment : ByteArray := prog_14_method_91_code
def yX12_payment : MethodName := ⟨RX12, "payment", "(III)I"⟩
abbrev cX12_noBlink : ByteArray := prog_14_method_92_code
def yX12_noBlink : MethodName := ⟨RX12, "noBlink", "(I)I"⟩
abbrev cX12_bitsAt : ByteArray := prog_14_method_93_code
def yX12_bitsAt : MethodName := ⟨RX12, "bitsAt", "(II)I"⟩
abbrev cX12_code : ByteArray := prog_14_method_94_code
def yX12_code : MethodName := ⟨RX12, "code", "(II)I"⟩
abbrev cX12_laysBlinks : ByteArray := prog_14_method_95_code
def yX12_laysBlinks : MethodName := ⟨RX12, "laysBlinks", "(I)V"⟩
abbrev cX12_blinks : ByteArray := prog_14_method_96_code
def yX12_blinks : MethodName := ⟨RX12, "blinks", "(II)I"⟩
abbrev cX12_beginsWith : ByteArray := prog_14_method_97_code
def yX12_beginsWith : MethodName := ⟨RX12, "beginsWith", "(II)Z"⟩
abbrev cX12_atOnce : ByteArray := prog_14_method_98_code
def yX12_atOnce : MethodName := ⟨RX12, "atOnce", "()I"⟩
abbrev cX12_leastOf : ByteArray := prog_14_method_99_code
def yX12_leastOf : MethodName := ⟨RX12, "leastOf", "(II)I"⟩
abbrev cX12_shortest : ByteArray := prog_14_method_100_code
def yX12_shortest : MethodName := ⟨RX12, "shortest", "(I)I"⟩
abbrev cX12_sumBetween : ByteArray := prog_14_method_101_code
def yX12_sumBetween : MethodName := ⟨RX12, "sumBetween", "(II)I"⟩
abbrev cX12_inOrder : ByteArray := prog_14_method_102_code
def yX12_inOrder : MethodName := ⟨RX12, "inOrder", "(I)I"⟩
abbrev cX12_seed : ByteArray := prog_14_method_103_code
def yX12_seed : MethodName := ⟨RX12, "seed", "(I)Z"⟩
abbrev cX12_keep : ByteArray := prog_14_method_104_code
def yX12_keep : MethodName := ⟨RX12, "keep", "()I"⟩
abbrev cX12_undo : ByteArray := prog_14_method_105_code
def yX12_undo : MethodName := ⟨RX12, "undo", "()Z"⟩
abbrev cX12_check : ByteArray := prog_14_method_106_code
def yX12_check : MethodName := ⟨RX12, "check", "(I)I"⟩
abbrev cX12_count : ByteArray := prog_14_method_107_code
def yX12_count : MethodName := ⟨RX12, "count", "(I)I"⟩
def RJ6 : String := "java/lang/Integer"
def TJ6 : u_T := fun k => match k with
  | _ => ("", "", "", false)
def tyJ6 : Nat → FieldType := fun k => match k with
  | _ => .int
theorem nmJ6 : ∀ a, a < 0 → ∀ b, b < 0 → a ≠ b → (TJ6 a).2.1 ≠ (TJ6 b).2.1 := by decide +kernel
theorem tyJ6_ok : ∀ k, k < 0 → parseFieldDescriptor (TJ6 k).2.2.1 = some (tyJ6 k) := by decide +kernel
abbrev cJ6_bitCount_0f7a4 : ByteArray := prog_15_method_49_code
def yJ6_bitCount_0f7a4 : MethodName := ⟨RJ6, "bitCount", "(I)I"⟩
def RJ9 : String := "java/lang/Math"
def TJ9 : u_T := fun k => match k with
  | _ => ("", "", "", false)
def tyJ9 : Nat → FieldType := fun k => match k with
  | _ => .int
theorem nmJ9 : ∀ a, a < 0 → ∀ b, b < 0 → a ≠ b → (TJ9 a).2.1 ≠ (TJ9 b).2.1 := by decide +kernel
theorem tyJ9_ok : ∀ k, k < 0 → parseFieldDescriptor (TJ9 k).2.2.1 = some (tyJ9 k) := by decide +kernel
abbrev cJ9_max_7cf53 : ByteArray := prog_16_method_65_code
def yJ9_max_7cf53 : MethodName := ⟨RJ9, "max", "(II)I"⟩
abbrev cJ9_min_7cf53 : ByteArray := prog_16_method_69_code
def yJ9_min_7cf53 : MethodName := ⟨RJ9, "min", "(II)I"⟩
def RJ10 : String := "java/lang/System"
def TJ10 : u_T := fun k => match k with
  | _ => ("", "", "", false)
def tyJ10 : Nat → FieldType := fun k => match k with
  | _ => .int
theorem nmJ10 : ∀ a, a < 0 → ∀ b, b < 0 → a ≠ b → (TJ10 a).2.1 ≠ (TJ10 b).2.1 := by decide +kernel
theorem tyJ10_ok : ∀ k, k < 0 → parseFieldDescriptor (TJ10 k).2.2.1 = some (tyJ10 k) := by decide +kernel
def RL : String := "ToadBankLaw"
abbrev cL_law : ByteArray := code
def yL_law : MethodName := ⟨RL, "law", "([I)Z"⟩
abbrev vwCl : List vw_C := [(RX0, TX0, 6), (RX1, TX1, 7), (RX2, TX2, 6), (RX3, TX3, 7), (RX4, TX4, 1), (RX5, TX5, 1), (RX6, TX6, 2), (RX7, TX7, 4), (RX8, TX8, 1), (RX9, TX9, 6), (RX10, TX10, 8), (RX11, TX11, 14), (RX12, TX12, 50)]
abbrev aV : Type := Int ⊕ Option Nat
abbrev aK : Type := (Nat × List (Option Nat)) ⊕ (Nat × Nat)
abbrev aM : Type := Nat → Nat → Int
abbrev aP : Type := Nat × Nat × Nat × Int
/-- the cells: the script, then all that the two constructors make, in the order in which they make it -/
def lay0 : List aK := [.inr (2, 0), .inl (11, [some 2, some 4, some 8, some 12, some 16, some 17, some 24, some 26, some 27, some 34, some 36, some 40, some 47, none]), .inl (9, [some 3, none, none, none, none, none]), .inr (0, 260), .inl (10, [some 5, some 6, some 7, none, none, none, none, none]), .inr (0, 8), .inr (0, 64), .inr (0, 64), .inl (10, [some 9, some 10, some 11, none, none, none, none, none]), .inr (0, 8), .inr (0, 64), .inr (0, 64), .inl (10, [some 13, some 14, some 15, none, none, none, none, none]), .inr (0, 8), .inr (0, 64), .inr (0, 64), .inl (5, [none]), .inl (4, [some 18]), .inl (3, [some 19, some 20, some 21, some 22, some 23, none, none]), .inr (0, 16), .inr (0, 16), .inr (0, 16), .inr (0, 16), .inr (0, 480), .inl (0, [some 25, none, none, none, none, none]), .inr (0, 32), .inl (6, [none, none]), .inl (1, [some 28, some 29, some 30, some 31, some 32, some 33, none]), .inr (0, 64), .inr (0, 8), .inr (0, 8), .inr (0, 8), .inr (0, 8), .inr (0, 8), .inl (8, [some 35]), .inr (0, 72), .inl (7, [some 37, some 38, some 39, none]), .inr (0, 8), .inr (0, 256), .inr (0, 256), .inl (2, [some 41, some 42, some 43, some 44, some 45, some 46]), .inr (0, 8), .inr (0, 48), .inr (0, 61), .inr (0, 61), .inr (0, 8), .inr (0, 64), .inl (3, [some 48, some 49, some 50, some 51, some 52, none, none]), .inr (0, 16), .inr (0, 16), .inr (0, 16), .inr (0, 16), .inr (0, 480), .inl (12, [some 54, some 55, some 56, some 57, none, none, none, none, none, none, none, none, none, none, some 58, some 59, some 60, some 61, some 62, some 63, some 64, some 65, some 66, some 67, some 68, some 69, some 70, some 71, none, none, none, some 72, some 73, some 74, some 75, some 76, none, some 77, some 78, some 79, some 80, some 81, some 82, some 83, some 84, some 85, some 86, some 87, some 88, none]), .inr (0, 141), .inr (0, 141), .inr (0, 141), .inr (1, 260), .inr (0, 260), .inr (0, 260), .inr (0, 16), .inr (0, 16), .inr (0, 16), .inr (0, 16), .inr (0, 260), .inr (0, 16), .inr (0, 16), .inr (0, 16), .inr (0, 16), .inr (0, 260), .inr (0, 7), .inr (0, 141), .inr (0, 8), .inr (0, 8), .inr (0, 8), .inr (0, 8), .inr (0, 8), .inr (0, 8), .inr (0, 8), .inr (0, 256), .inr (0, 256), .inr (0, 256), .inr (0, 8), .inr (0, 8), .inr (0, 61), .inr (0, 61), .inr (0, 61), .inr (0, 8), .inr (0, 64)]
/-- the classes by their numbers -/
def aCls : List String := [RX0, RX1, RX2, RX3, RX4, RX5, RX6, RX7, RX8, RX9, RX10, RX11, RX12, RL, RJ6, RJ9, RJ10]
/-- the methods by their numbers: code, name, class, locals, arguments (with this), what is returned, static -/
def mTab_0 : List (ByteArray × MethodName × Nat × Nat × Nat × Option FieldType × Bool) := [(cX0_init, yX0_init, 0, 1, 1, none, false), (cX0_askOfBank, yX0_askOfBank, 0, 2, 2, none, false), (cX0_askOfDebt, yX0_askOfDebt, 0, 4, 4, none, false), (cX0_amount, yX0_amount, 0, 7, 5, some .int, false), (cX0_anyHolds, yX0_anyHolds, 0, 5, 4, some .boolean, false), (cX0_reckon, yX0_reckon, 0, 9, 5, some .int, false), (cX0_push, yX0_push, 0, 2, 2, none, false), (cX0_topmost, yX0_topmost, 0, 1, 1, some .int, false), (cX0_pop, yX0_pop, 0, 2, 1, some .int, false), (cX0_valueOf, yX0_valueOf, 0, 3, 3, some .int, false), (cX0_doSign, yX0_doSign, 0, 4, 2, none, false), (cX0_divide, yX0_divide, 0, 4, 4, none, false), (cX1_init, yX1_init, 1, 1, 1, none, false), (cX1_takeIn, yX1_takeIn, 1, 4, 2, none, false), (cX1_strike, yX1_strike, 1, 3, 3, none, false), (cX1_payAtOnce, yX1_payAtOnce, 1, 2, 1, none, false), (cX1_handOut, yX1_handOut, 1, 3, 1, none, false), (cX1_payLess, yX1_payLess, 1, 5, 2, some .boolean, false), (cX1_paidBy, yX1_paidBy, 1, 2, 2, some .int, false), (cX1_gottenBy, yX1_gottenBy, 1, 2, 2, some .int, false), (cX1_roundOfFall, yX1_roundOfFall, 1, 2, 2, some .int, false), (cX1_fallen, yX1_fallen, 1, 3, 1, some .int, false), (cX2_init, yX2_init, 2, 1, 1, none, false), (cX2_tell, yX2_tell, 2, 5, 4, none, false), (cX2_lengthOf, yX2_lengthOf, 2, 2, 2, some .int, false), (cX2_blinkOf, yX2_blinkOf, 2, 4, 3, some .int, false), (cX2_toldBits, yX2_toldBits, 2, 3, 1, some .int, false), (cX2_readAll, yX2_readAll, 2, 7, 3, none, false), (cX2_standsAt, yX2_standsAt, 2, 7, 5, some .boolean, false), (cX2_waysFrom, yX2_waysFrom, 2, 2, 2, some .int, false), (cX2_stepsFrom, yX2_stepsFrom, 2, 2, 2, some .int, false), (cX2_fewestFrom, yX2_fewestFrom, 2, 3, 2, some .int, false), (cX2_signAtPlace, yX2_signAtPlace, 2, 7, 4, some .int, false), (cX2_leastSignAt, yX2_leastSignAt, 2, 5, 4, some .int, false), (cX2_areReadAtOnce, yX2_areReadAtOnce, 2, 3, 1, some .boolean, false), (cX2_begins, yX2_begins, 2, 5, 3, some .boolean, false), (cX2_shortestOf, yX2_shortestOf, 2, 7, 3, some .int, false), (cX2_moveLeastToEnd, yX2_moveLeastToEnd, 2, 4, 2, none, false), (cX2_shortestInOrder, yX2_shortestInOrder, 2, 7, 3, some .int, false), (cX2_costOfSpan, yX2_costOfSpan, 2, 7, 4, some .int, false), (cX2_cost, yX2_cost, 2, 4, 3, some .int, false), (cX3_init, yX3_init, 3, 1, 1, none, false), (cX3_clear, yX3_clear, 3, 1, 1, none, false), (cX3_copyFrom, yX3_copyFrom, 3, 2, 2, none, false), (cX3_startRule, yX3_startRule, 3, 2, 2, none, false), (cX3_startCase, yX3_startCase, 3, 1, 1, none, false), (cX3_endRule, yX3_endRule, 3, 1, 1, none, false), (cX3_add, yX3_add, 3, 2, 2, none, false), (cX3_set, yX3_set, 3, 3, 3, none, false), (cX3_sign, yX3_sign, 3, 2, 2, some .int, false), (cX4_init, yX4_init, 4, 1, 1, none, false), (cX4_read, yX4_read, 4, 4, 3, some .int, false), (cX4_readRule, yX4_readRule, 4, 3, 2, some .boolean, false), (cX4_readCase, yX4_readCase, 4, 5, 3, some .boolean, false), (cX4_readPart, yX4_readPart, 4, 5, 3, some .boolean, false), (cX4_startLink, yX4_startLink, 4, 3, 3, some .int, false), (cX4_readTest, yX4_readTest, 4, 5, 3, some .boolean, false), (cX4_readOpened, yX4_readOpened, 4, 4, 4, some .boolean, false), (cX4_readSum, yX4_readSum, 4, 5, 3, some .boolean, false), (cX4_readTerm, yX4_readTerm, 4, 5, 3, some .boolean, false)]
def mTab_1 : List (ByteArray × MethodName × Nat × Nat × Nat × Option FieldType × Bool) := [(cX4_readFactor, yX4_readFactor, 4, 4, 3, some .boolean, false), (cX4_isAskedLetter, yX4_isAskedLetter, 4, 2, 2, some .boolean, false), (cX5_init, yX5_init, 5, 1, 1, none, false), (cX5_read, yX5_read, 5, 5, 4, some .int, false), (cX5_readLine, yX5_readLine, 5, 8, 4, some .boolean, false), (cX5_readOther, yX5_readOther, 5, 4, 4, some .boolean, false), (cX5_carryOut, yX5_carryOut, 5, 5, 5, some .boolean, false), (cX5_addCash, yX5_addCash, 5, 5, 4, some .boolean, false), (cX5_addDebt, yX5_addDebt, 5, 5, 4, some .boolean, false), (cX6_init, yX6_init, 6, 1, 1, none, false), (cX6_run, yX6_run, 6, 6, 5, none, false), (cX6_letCashFlow, yX6_letCashFlow, 6, 9, 4, none, false), (cX6_letDebtsGrow, yX6_letDebtsGrow, 6, 8, 4, none, false), (cX6_shutByLaw, yX6_shutByLaw, 6, 5, 4, none, false), (cX6_letFall, yX6_letFall, 6, 3, 3, none, false), (cX7_init, yX7_init, 7, 1, 1, none, false), (cX7_groupsOf, yX7_groupsOf, 7, 4, 2, some .int, false), (cX7_sumOfWorths, yX7_sumOfWorths, 7, 4, 2, some .int, false), (cX7_bestWithoutOne, yX7_bestWithoutOne, 7, 4, 2, some .int, false), (cX7_pairUp, yX7_pairUp, 7, 4, 3, none, false), (cX7_leastCost, yX7_leastCost, 7, 7, 2, some .int, false), (cX7_lowestOf, yX7_lowestOf, 7, 3, 2, some .int, false), (cX7_costOf, yX7_costOf, 7, 2, 2, some .int, false), (cX7_badOf, yX7_badOf, 7, 2, 2, some .int, false), (cX7_twosOf, yX7_twosOf, 7, 2, 2, some .int, false), (cX8_init, yX8_init, 8, 1, 1, none, false), (cX8_walkFrom, yX8_walkFrom, 8, 5, 3, none, false), (cX8_widestStep, yX8_widestStep, 8, 6, 4, some .int, false), (cX8_width, yX8_width, 8, 3, 3, some .int, false), (cX8_fewestStepsTo, yX8_fewestStepsTo, 8, 3, 2, some .int, false), (cX8_stepsOfWidestTo, yX8_stepsOfWidestTo, 8, 5, 2, some .int, false), (cX9_init, yX9_init, 9, 1, 1, none, false), (cX9_hasRoomForFeed, yX9_hasRoomForFeed, 9, 1, 1, some .boolean, false), (cX9_append, yX9_append, 9, 3, 2, none, false), (cX9_clear, yX9_clear, 9, 1, 1, none, false), (cX9_at, yX9_at, 9, 2, 2, some .int, false), (cX9_twoBytesAt, yX9_twoBytesAt, 9, 2, 2, some .int, false), (cX9_firstNoBlink, yX9_firstNoBlink, 9, 4, 2, some .int, false), (cX9_hasZeroAmong, yX9_hasZeroAmong, 9, 3, 2, some .boolean, false), (cX9_startText, yX9_startText, 9, 2, 2, none, false), (cX9_isRead, yX9_isRead, 9, 1, 1, some .boolean, false), (cX9_sign, yX9_sign, 9, 1, 1, some .int, false), (cX9_step, yX9_step, 9, 1, 1, none, false), (cX9_fail, yX9_fail, 9, 2, 2, some .boolean, false), (cX9_failAt, yX9_failAt, 9, 3, 3, some .boolean, false), (cX9_expect, yX9_expect, 9, 2, 2, some .boolean, false), (cX9_readNumber, yX9_readNumber, 9, 4, 2, some .boolean, false), (cX10_init, yX10_init, 10, 1, 1, none, false), (cX10_copyFrom, yX10_copyFrom, 10, 2, 2, none, false), (cX10_isTold, yX10_isTold, 10, 2, 2, some .boolean, false), (cX10_isOpen, yX10_isOpen, 10, 2, 2, some .boolean, false), (cX10_areTold, yX10_areTold, 10, 3, 3, some .boolean, false), (cX10_areOpen, yX10_areOpen, 10, 3, 3, some .boolean, false), (cX10_open, yX10_open, 10, 3, 3, none, false), (cX10_cashOf, yX10_cashOf, 10, 2, 2, some .int, false), (cX10_setCash, yX10_setCash, 10, 3, 3, none, false), (cX10_debt, yX10_debt, 10, 3, 3, some .int, false), (cX10_setDebt, yX10_setDebt, 10, 4, 4, none, false), (cX10_share, yX10_share, 10, 3, 3, some .int, false), (cX10_setShare, yX10_setShare, 10, 4, 4, none, false)]
def mTab_2 : List (ByteArray × MethodName × Nat × Nat × Nat × Option FieldType × Bool) := [(cX10_sharesOutside, yX10_sharesOutside, 10, 5, 3, some .int, false), (cX10_owesInAll, yX10_owesInAll, 10, 4, 2, some .int, false), (cX10_isOwedInAll, yX10_isOwedInAll, 10, 4, 2, some .int, false), (cX10_worth, yX10_worth, 10, 2, 2, some .int, false), (cX10_allCash, yX10_allCash, 10, 3, 1, some .int, false), (cX10_allDebts, yX10_allDebts, 10, 3, 1, some .int, false), (cX10_debtsToSetOff, yX10_debtsToSetOff, 10, 4, 1, some .int, false), (cX10_controlledBy, yX10_controlledBy, 10, 5, 2, some .int, false), (cX10_sharesOfAll, yX10_sharesOfAll, 10, 5, 3, some .int, false), (cX10_shutDown, yX10_shutDown, 10, 3, 2, none, false), (cX10_join, yX10_join, 10, 4, 3, none, false), (cX10_draw, yX10_draw, 10, 1, 1, some .int, false), (cX11_init, yX11_init, 11, 1, 1, none, false), (cX11_bank, yX11_bank, 11, 3, 3, some .boolean, false), (cX11_owe, yX11_owe, 11, 4, 4, some .boolean, false), (cX11_hold, yX11_hold, 11, 4, 4, some .boolean, false), (cX11_feed, yX11_feed, 11, 6, 6, some .int, false), (cX11_law, yX11_law, 11, 3, 2, some .int, false), (cX11_ledger, yX11_ledger, 11, 3, 2, some .int, false), (cX11_months, yX11_months, 11, 2, 2, some .int, false), (cX11_tried, yX11_tried, 11, 4, 3, some .int, false), (cX11_bankIs, yX11_bankIs, 11, 3, 3, some .int, false), (cX11_owes, yX11_owes, 11, 3, 3, some .int, false), (cX11_holds, yX11_holds, 11, 3, 3, some .int, false), (cX11_cleared, yX11_cleared, 11, 4, 2, some .int, false), (cX11_falls, yX11_falls, 11, 3, 2, some .int, false), (cX11_keystone, yX11_keystone, 11, 6, 2, some .int, false), (cX11_blow, yX11_blow, 11, 3, 3, some .int, false), (cX11_fallenByBlow, yX11_fallenByBlow, 11, 3, 3, some .int, false), (cX11_leastBlow, yX11_leastBlow, 11, 7, 3, some .int, false), (cX11_help, yX11_help, 11, 3, 2, some .int, false), (cX11_setOff, yX11_setOff, 11, 1, 1, some .int, false), (cX11_settled, yX11_settled, 11, 3, 2, some .int, false), (cX11_ring, yX11_ring, 11, 4, 3, some .int, false), (cX11_road, yX11_road, 11, 5, 4, some .int, false), (cX11_mergers, yX11_mergers, 11, 4, 3, some .int, false), (cX11_merge, yX11_merge, 11, 3, 3, some .boolean, false), (cX11_tampered, yX11_tampered, 11, 3, 2, some .int, false), (cX11_findTampered, yX11_findTampered, 11, 11, 2, some .int, false), (cX11_taken, yX11_taken, 11, 5, 4, some .int, false), (cX11_fewestSums, yX11_fewestSums, 11, 7, 3, some .int, false), (cX11_sumOf, yX11_sumOf, 11, 5, 3, some .int, false), (cX11_loan, yX11_loan, 11, 4, 4, some .int, false), (cX11_isLoan, yX11_isLoan, 11, 2, 2, some .boolean, true), (cX11_monthsToPayOff, yX11_monthsToPayOff, 11, 6, 3, some .int, true), (cX11_payment, yX11_payment, 11, 8, 4, some .int, false), (cX11_code, yX11_code, 11, 4, 3, some .int, false), (cX11_blinks, yX11_blinks, 11, 5, 3, some .int, false), (cX11_readBlinks, yX11_readBlinks, 11, 5, 3, some .int, false), (cX11_atOnce, yX11_atOnce, 11, 1, 1, some .int, false), (cX11_shortest, yX11_shortest, 11, 3, 2, some .int, false), (cX11_inOrder, yX11_inOrder, 11, 3, 2, some .int, false), (cX11_seed, yX11_seed, 11, 2, 2, some .boolean, false), (cX11_keep, yX11_keep, 11, 1, 1, some .int, false), (cX11_undo, yX11_undo, 11, 1, 1, some .boolean, false), (cX11_check, yX11_check, 11, 4, 2, some .int, false), (cX11_count, yX11_count, 11, 3, 2, some .int, false), (cX11_isBank, yX11_isBank, 11, 1, 1, some .boolean, true), (cX11_isDigit, yX11_isDigit, 11, 1, 1, some .boolean, true), (cX11_fault, yX11_fault, 11, 2, 2, some .int, true)]
def mTab_3 : List (ByteArray × MethodName × Nat × Nat × Nat × Option FieldType × Bool) := [(cX12_init, yX12_init, 12, 1, 1, none, false), (cX12_in, yX12_in, 12, 3, 3, some .boolean, true), (cX12_min, yX12_min, 12, 2, 2, some .int, true), (cX12_max, yX12_max, 12, 2, 2, some .int, true), (cX12_has, yX12_has, 12, 2, 2, some .boolean, true), (cX12_bits, yX12_bits, 12, 3, 1, some .int, true), (cX12_copies, yX12_copies, 12, 3, 2, none, true), (cX12_isBank, yX12_isBank, 12, 2, 2, some .boolean, false), (cX12_isOpen, yX12_isOpen, 12, 2, 2, some .boolean, false), (cX12_areOpen, yX12_areOpen, 12, 3, 3, some .boolean, false), (cX12_debt, yX12_debt, 12, 2, 2, some .int, true), (cX12_share, yX12_share, 12, 2, 2, some .int, true), (cX12_owesAll, yX12_owesAll, 12, 4, 2, some .int, false), (cX12_getsAll, yX12_getsAll, 12, 4, 2, some .int, false), (cX12_allDebts, yX12_allDebts, 12, 3, 1, some .int, false), (cX12_worthOf, yX12_worthOf, 12, 2, 2, some .int, false), (cX12_bank, yX12_bank, 12, 3, 3, some .boolean, false), (cX12_owe, yX12_owe, 12, 4, 4, some .boolean, false), (cX12_hold, yX12_hold, 12, 6, 4, some .boolean, false), (cX12_types, yX12_types, 12, 3, 2, none, false), (cX12_feed, yX12_feed, 12, 6, 6, some .int, false), (cX12_octet, yX12_octet, 12, 2, 2, some .int, false), (cX12_here, yX12_here, 12, 1, 1, some .int, false), (cX12_isDigit, yX12_isDigit, 12, 1, 1, some .boolean, false), (cX12_wrongAt, yX12_wrongAt, 12, 3, 3, some .boolean, false), (cX12_takes, yX12_takes, 12, 2, 2, some .boolean, false), (cX12_readsNumber, yX12_readsNumber, 12, 2, 1, some .boolean, false), (cX12_notes, yX12_notes, 12, 3, 3, none, false), (cX12_opens, yX12_opens, 12, 2, 2, some .boolean, false), (cX12_waitTop, yX12_waitTop, 12, 1, 1, some .int, false), (cX12_factOf, yX12_factOf, 12, 1, 1, some .int, true), (cX12_sumSign, yX12_sumSign, 12, 1, 1, some .int, true), (cX12_closesSums, yX12_closesSums, 12, 2, 2, none, false), (cX12_readsFactor, yX12_readsFactor, 12, 2, 1, some .boolean, false), (cX12_hasOpenSum, yX12_hasOpenSum, 12, 3, 2, some .boolean, false), (cX12_readsSum, yX12_readsSum, 12, 3, 1, some .boolean, false), (cX12_endsPiece, yX12_endsPiece, 12, 1, 1, none, false), (cX12_lands, yX12_lands, 12, 3, 2, none, false), (cX12_jumps, yX12_jumps, 12, 2, 2, none, false), (cX12_readsCompared, yX12_readsCompared, 12, 2, 1, some .boolean, false), (cX12_readsCondition, yX12_readsCondition, 12, 1, 1, some .boolean, false), (cX12_readsRule, yX12_readsRule, 12, 2, 1, some .boolean, false), (cX12_beginsText, yX12_beginsText, 12, 2, 2, none, false), (cX12_law, yX12_law, 12, 4, 2, some .int, false), (cX12_reckon, yX12_reckon, 12, 3, 3, some .int, true), (cX12_comesTo, yX12_comesTo, 12, 8, 3, some .int, false), (cX12_byLaw, yX12_byLaw, 12, 5, 3, some .int, false), (cX12_holdsAny, yX12_holdsAny, 12, 3, 2, some .boolean, false), (cX12_feels, yX12_feels, 12, 2, 2, none, false), (cX12_readsBank, yX12_readsBank, 12, 2, 1, some .boolean, false), (cX12_readsAmount, yX12_readsAmount, 12, 2, 1, some .boolean, false), (cX12_books, yX12_books, 12, 4, 4, some .boolean, false), (cX12_readsLine, yX12_readsLine, 12, 6, 1, some .boolean, false), (cX12_ledger, yX12_ledger, 12, 3, 2, some .int, false), (cX12_parts, yX12_parts, 12, 3, 2, none, false), (cX12_shuts, yX12_shuts, 12, 2, 2, none, false), (cX12_earns, yX12_earns, 12, 7, 2, none, false), (cX12_grows, yX12_grows, 12, 3, 3, none, false), (cX12_monthGoes, yX12_monthGoes, 12, 3, 1, none, false), (cX12_monthsGo, yX12_monthsGo, 12, 3, 2, none, false)]
def mTab_4 : List (ByteArray × MethodName × Nat × Nat × Nat × Option FieldType × Bool) := [(cX12_months, yX12_months, 12, 2, 2, some .int, false), (cX12_allCash, yX12_allCash, 12, 3, 1, some .int, false), (cX12_tried, yX12_tried, 12, 4, 3, some .int, false), (cX12_controls, yX12_controls, 12, 7, 2, some .int, false), (cX12_bankIs, yX12_bankIs, 12, 3, 3, some .int, false), (cX12_owes, yX12_owes, 12, 3, 3, some .int, false), (cX12_holds, yX12_holds, 12, 3, 3, some .int, false), (cX12_laysGets, yX12_laysGets, 12, 3, 1, none, false), (cX12_paysLess, yX12_paysLess, 12, 4, 1, some .boolean, false), (cX12_clears, yX12_clears, 12, 5, 3, some .int, false), (cX12_cleared, yX12_cleared, 12, 3, 2, some .int, false), (cX12_falls, yX12_falls, 12, 2, 2, some .int, false), (cX12_keystone, yX12_keystone, 12, 6, 2, some .int, false), (cX12_blow, yX12_blow, 12, 3, 3, some .int, false), (cX12_leastBlow, yX12_leastBlow, 12, 6, 3, some .int, false), (cX12_help, yX12_help, 12, 5, 2, some .int, false), (cX12_setOff, yX12_setOff, 12, 4, 1, some .int, false), (cX12_widens, yX12_widens, 12, 5, 2, none, false), (cX12_beginsAt, yX12_beginsAt, 12, 3, 2, none, false), (cX12_ring, yX12_ring, 12, 4, 3, some .int, false), (cX12_road, yX12_road, 12, 7, 4, some .int, false), (cX12_mergers, yX12_mergers, 12, 8, 3, some .int, false), (cX12_laysGroups, yX12_laysGroups, 12, 3, 1, none, false), (cX12_settled, yX12_settled, 12, 4, 2, some .int, false), (cX12_merge, yX12_merge, 12, 4, 3, some .boolean, false), (cX12_told, yX12_told, 12, 2, 2, some .int, false), (cX12_tampered, yX12_tampered, 12, 7, 2, some .int, false), (cX12_taken, yX12_taken, 12, 8, 4, some .int, false), (cX12_monthsOf, yX12_monthsOf, 12, 7, 3, some .int, true), (cX12_loan, yX12_loan, 12, 4, 4, some .int, false), (cX12_payment, yX12_payment, 12, 8, 4, some .int, false), (cX12_noBlink, yX12_noBlink, 12, 3, 2, some .int, false), (cX12_bitsAt, yX12_bitsAt, 12, 5, 3, some .int, false), (cX12_code, yX12_code, 12, 3, 3, some .int, false), (cX12_laysBlinks, yX12_laysBlinks, 12, 5, 2, none, false), (cX12_blinks, yX12_blinks, 12, 5, 3, some .int, false), (cX12_beginsWith, yX12_beginsWith, 12, 3, 3, some .boolean, false), (cX12_atOnce, yX12_atOnce, 12, 3, 1, some .int, false), (cX12_leastOf, yX12_leastOf, 12, 5, 3, some .int, false), (cX12_shortest, yX12_shortest, 12, 7, 2, some .int, false), (cX12_sumBetween, yX12_sumBetween, 12, 5, 3, some .int, false), (cX12_inOrder, yX12_inOrder, 12, 8, 2, some .int, false), (cX12_seed, yX12_seed, 12, 2, 2, some .boolean, false), (cX12_keep, yX12_keep, 12, 1, 1, some .int, false), (cX12_undo, yX12_undo, 12, 1, 1, some .boolean, false), (cX12_check, yX12_check, 12, 3, 2, some .int, false), (cX12_count, yX12_count, 12, 4, 2, some .int, false), (cJ6_bitCount_0f7a4, yJ6_bitCount_0f7a4, 14, 1, 1, some .int, true), (cJ9_max_7cf53, yJ9_max_7cf53, 15, 2, 2, some .int, true), (cJ9_min_7cf53, yJ9_min_7cf53, 15, 2, 2, some .int, true), (cL_law, yL_law, 13, 4, 1, some .boolean, true)]
def mTab : List (ByteArray × MethodName × Nat × Nat × Nat × Option FieldType × Bool) := mTab_0 ++ (mTab_1 ++ (mTab_2 ++ (mTab_3 ++ (mTab_4))))
/-- the constant pools, as far as used: place, what is there: a field (class, slot, kind 0 int 1 boolean 2 reference), a method (number, arguments with this, 0 static 1 virtual), a constant (4, 4, 4, value); reached as a nest mate; the place of its word in the tables -/
def aPl_0 : List (Nat × aP × Bool × Nat) := [(9, (0, 0, 2, 0), false, 264), (13, (0, 1, 0, 0), false, 265), (17, (0, 2, 1, 0), false, 266), (21, (0, 3, 0, 0), false, 267), (24, (0, 4, 0, 0), false, 268), (27, (0, 5, 0, 0), false, 269), (30, (2, 4, 1, 0), false, 682), (36, (3, 5, 0, 0), true, 234), (39, (3, 0, 2, 0), true, 224), (42, (3, 2, 2, 0), true, 228), (45, (3, 3, 2, 0), true, 230), (48, (5, 5, 1, 0), false, 690), (52, (3, 1, 2, 0), true, 226), (55, (289, 2, 0, 0), false, 731), (61, (288, 2, 0, 0), false, 734), (64, (49, 2, 1, 0), false, 694), (68, (6, 2, 1, 0), false, 698), (72, (7, 1, 1, 0), false, 702), (76, (8, 1, 1, 0), false, 706), (79, (9, 3, 1, 0), false, 710), (83, (10, 2, 1, 0), false, 723), (86, (114, 2, 1, 0), false, 714), (91, (121, 2, 1, 0), false, 715), (94, (122, 2, 1, 0), false, 719), (97, (10, 5, 0, 0), true, 177), (100, (11, 4, 1, 0), false, 727)]
def aPl_1 : List (Nat × aP × Bool × Nat) := [(9, (1, 0, 2, 0), false, 304), (15, (1, 1, 2, 0), false, 305), (18, (1, 2, 2, 0), false, 306), (21, (1, 3, 2, 0), false, 307), (24, (1, 4, 2, 0), false, 308), (27, (1, 5, 2, 0), false, 309), (30, (1, 6, 0, 0), false, 310), (34, (114, 2, 1, 0), false, 833), (40, (121, 2, 1, 0), false, 834), (43, (116, 3, 1, 0), false, 835), (47, (177, 1, 0, 0), true, 854), (51, (288, 2, 0, 0), false, 883), (56, (4, 4, 4, 1000000), false, 840), (57, (16, 1, 1, 0), false, 841), (60, (17, 2, 1, 0), false, 845), (63, (289, 2, 0, 0), false, 849)]
def aPl_2 : List (Nat × aP × Bool × Nat) := [(9, (2, 0, 2, 0), false, 363), (15, (2, 1, 2, 0), false, 364), (18, (2, 2, 2, 0), false, 365), (21, (2, 3, 2, 0), false, 366), (24, (2, 4, 2, 0), false, 367), (27, (2, 5, 2, 0), false, 368), (30, (95, 2, 1, 0), false, 1057), (36, (289, 2, 0, 0), false, 1070), (42, (4, 4, 4, 1000000), false, 1071), (43, (28, 5, 1, 0), false, 1072), (47, (24, 2, 1, 0), false, 1076), (50, (4, 4, 4, 1000000000), false, 1084), (51, (29, 2, 1, 0), false, 1085), (54, (30, 2, 1, 0), false, 1089), (57, (25, 3, 1, 0), false, 1080), (60, (33, 4, 1, 0), false, 1102), (64, (35, 3, 1, 0), false, 1114), (68, (37, 2, 1, 0), false, 1130), (72, (39, 4, 1, 0), false, 1142), (75, (40, 3, 1, 0), false, 1146)]
def aPl_3 : List (Nat × aP × Bool × Nat) := [(11, (3, 0, 2, 0), false, 223), (15, (3, 1, 2, 0), false, 225), (18, (3, 2, 2, 0), false, 227), (21, (3, 3, 2, 0), false, 229), (24, (3, 4, 2, 0), false, 231), (27, (3, 5, 0, 0), false, 232), (31, (3, 6, 0, 0), false, 236), (34, (1000, 5, 0, 0), false, 603)]
def aPl_4 : List (Nat × aP × Bool × Nat) := [(12, (4, 0, 2, 0), false, 253), (18, (99, 2, 1, 0), false, 491), (24, (42, 1, 1, 0), false, 495), (27, (52, 2, 1, 0), false, 499), (31, (9, 5, 0, 0), true, 147), (35, (100, 1, 1, 0), false, 591), (39, (3, 5, 0, 0), true, 233), (42, (105, 2, 1, 0), false, 538), (46, (101, 1, 1, 0), false, 503), (50, (103, 2, 1, 0), false, 511), (53, (102, 1, 1, 0), false, 518), (56, (44, 2, 1, 0), false, 522), (59, (58, 3, 1, 0), false, 526), (63, (45, 1, 1, 0), false, 559), (66, (53, 3, 1, 0), false, 563), (69, (46, 1, 1, 0), false, 587), (72, (54, 3, 1, 0), false, 567), (75, (55, 3, 1, 0), false, 579), (79, (3, 6, 0, 0), true, 237), (82, (48, 3, 1, 0), false, 583), (86, (56, 3, 1, 0), false, 571), (89, (47, 2, 1, 0), false, 548), (92, (57, 4, 1, 0), false, 575), (96, (59, 3, 1, 0), false, 530), (99, (60, 3, 1, 0), false, 534), (102, (61, 2, 1, 0), false, 544), (105, (106, 2, 1, 0), false, 552), (108, (9, 4, 0, 0), true, 144)]
def aPl_5 : List (Nat × aP × Bool × Nat) := [(9, (5, 0, 0, 0), false, 207), (15, (99, 2, 1, 0), false, 619), (21, (64, 4, 1, 0), false, 620), (25, (9, 5, 0, 0), true, 146), (28, (100, 1, 1, 0), false, 664), (32, (105, 2, 1, 0), false, 633), (36, (9, 3, 0, 0), true, 141), (39, (101, 1, 1, 0), false, 624), (43, (177, 1, 0, 0), true, 625), (46, (103, 2, 1, 0), false, 626), (49, (110, 2, 1, 0), false, 627), (54, (102, 1, 1, 0), false, 628), (57, (65, 4, 1, 0), false, 629), (60, (106, 2, 1, 0), false, 634), (63, (9, 4, 0, 0), true, 143), (66, (66, 5, 1, 0), false, 635), (70, (104, 3, 1, 0), false, 660), (74, (67, 4, 1, 0), false, 639), (78, (68, 4, 1, 0), false, 651), (81, (114, 2, 1, 0), false, 643), (85, (115, 3, 1, 0), false, 647), (89, (116, 3, 1, 0), false, 655), (93, (117, 4, 1, 0), false, 659)]
def aPl_6 : List (Nat × aP × Bool × Nat) := [(9, (6, 0, 0, 0), false, 289), (15, (6, 1, 0, 0), false, 291), (18, (10, 5, 0, 0), true, 176), (23, (71, 4, 1, 0), false, 673), (27, (72, 4, 1, 0), false, 755), (30, (73, 4, 1, 0), false, 762), (33, (110, 2, 1, 0), false, 677), (37, (1, 2, 1, 0), false, 678), (43, (3, 5, 1, 0), false, 686), (47, (131, 1, 1, 0), false, 737), (51, (114, 2, 1, 0), false, 742), (55, (289, 2, 0, 0), false, 743), (61, (74, 3, 1, 0), false, 744), (65, (115, 3, 1, 0), false, 754), (69, (116, 3, 1, 0), false, 759), (72, (2, 4, 1, 0), false, 760), (76, (117, 4, 1, 0), false, 761), (79, (4, 4, 1, 0), false, 766), (83, (129, 2, 1, 0), false, 748), (86, (10, 6, 0, 0), true, 180)]
def aPl_7 : List (Nat × aP × Bool × Nat) := [(9, (7, 0, 2, 0), false, 343), (15, (7, 1, 2, 0), false, 344), (18, (7, 2, 2, 0), false, 345), (21, (7, 3, 0, 0), false, 346), (25, (122, 2, 1, 0), false, 921), (31, (121, 2, 1, 0), false, 922), (34, (77, 2, 1, 0), false, 923), (37, (78, 2, 1, 0), false, 927), (40, (288, 2, 0, 0), false, 931), (46, (123, 2, 1, 0), false, 973), (49, (80, 2, 1, 0), false, 974), (52, (81, 2, 1, 0), false, 978), (55, (82, 2, 1, 0), false, 982), (58, (289, 2, 0, 0), false, 986)]
def aPl_8 : List (Nat × aP × Bool × Nat) := [(9, (8, 0, 2, 0), false, 333), (15, (87, 4, 1, 0), false, 940), (19, (88, 3, 1, 0), false, 944), (23, (116, 3, 1, 0), false, 949), (28, (289, 2, 0, 0), false, 950), (33, (288, 2, 0, 0), false, 951), (36, (177, 1, 0, 0), true, 948)]
def aPl_9 : List (Nat × aP × Bool × Nat) := [(11, (9, 0, 2, 0), false, 136), (15, (9, 1, 0, 0), false, 137), (19, (9, 2, 0, 0), false, 139), (22, (9, 3, 0, 0), false, 140), (25, (9, 4, 0, 0), false, 142), (28, (9, 5, 0, 0), false, 145), (31, (95, 2, 1, 0), false, 507), (35, (179, 2, 0, 0), true, 515), (39, (101, 1, 1, 0), false, 542), (43, (103, 2, 1, 0), false, 543), (47, (178, 1, 0, 0), true, 556)]
def aPl_10 : List (Nat × aP × Bool × Nat) := [(9, (10, 0, 2, 0), false, 168), (15, (10, 1, 2, 0), false, 169), (18, (10, 2, 2, 0), false, 170), (21, (10, 3, 0, 0), false, 171), (25, (10, 4, 0, 0), false, 173), (28, (10, 5, 0, 0), false, 175), (31, (10, 6, 0, 0), false, 179), (34, (10, 7, 0, 0), false, 182), (37, (1000, 5, 0, 0), false, 614), (43, (177, 1, 0, 0), true, 438), (47, (109, 2, 1, 0), false, 818), (50, (110, 2, 1, 0), false, 447), (53, (118, 3, 1, 0), false, 463), (57, (114, 2, 1, 0), false, 782), (61, (122, 2, 1, 0), false, 801), (64, (121, 2, 1, 0), false, 787), (67, (116, 3, 1, 0), false, 911), (70, (289, 2, 0, 0), false, 912), (75, (128, 3, 1, 0), false, 806), (78, (117, 4, 1, 0), false, 752), (82, (119, 4, 1, 0), false, 753), (85, (115, 3, 1, 0), false, 1003), (89, (129, 2, 1, 0), false, 1004), (93, (4, 4, 4, 65536), false, 741)]
def aPl_11 : List (Nat × aP × Bool × Nat) := [(10, (11, 0, 2, 0), false, 384), (19, (11, 1, 2, 0), false, 385), (23, (11, 2, 2, 0), false, 386), (26, (11, 3, 2, 0), false, 387), (32, (11, 4, 2, 0), false, 388), (39, (11, 5, 2, 0), false, 389), (46, (11, 6, 2, 0), false, 390), (53, (11, 7, 2, 0), false, 391), (60, (11, 8, 2, 0), false, 392), (67, (11, 9, 2, 0), false, 393), (74, (11, 10, 2, 0), false, 394), (81, (11, 11, 2, 0), false, 395), (88, (11, 12, 2, 0), false, 396), (92, (11, 13, 1, 0), false, 397), (96, (177, 1, 0, 0), false, 431), (100, (113, 3, 1, 0), false, 434), (104, (112, 3, 1, 0), false, 443), (108, (117, 4, 1, 0), false, 451), (112, (120, 3, 1, 0), false, 459), (116, (119, 4, 1, 0), false, 467), (119, (92, 1, 1, 0), false, 475), (123, (93, 2, 1, 0), false, 479), (127, (9, 1, 0, 0), true, 138), (131, (51, 3, 1, 0), false, 487), (135, (94, 1, 1, 0), false, 595), (138, (4, 0, 2, 0), true, 254), (141, (43, 2, 1, 0), false, 599), (145, (108, 2, 1, 0), false, 610), (148, (63, 4, 1, 0), false, 615), (151, (70, 5, 1, 0), false, 669), (155, (6, 0, 0, 0), true, 290), (158, (109, 2, 1, 0), false, 774), (161, (6, 1, 0, 0), true, 292), (164, (124, 1, 1, 0), false, 778), (168, (125, 1, 1, 0), false, 783), (171, (114, 2, 1, 0), false, 788), (175, (4, 4, 4, (-1000000)), false, 793), (176, (110, 2, 1, 0), false, 794), (179, (121, 2, 1, 0), false, 795), (182, (122, 2, 1, 0), false, 796), (185, (123, 2, 1, 0), false, 797), (188, (127, 2, 1, 0), false, 802), (191, (111, 3, 1, 0), false, 814), (194, (116, 3, 1, 0), false, 819), (197, (118, 3, 1, 0), false, 824), (200, (13, 2, 1, 0), false, 829), (203, (15, 1, 1, 0), false, 836), (206, (18, 2, 1, 0), false, 850), (209, (19, 2, 1, 0), false, 855), (212, (21, 1, 1, 0), false, 859), (215, (1, 6, 0, 0), true, 311), (218, (20, 2, 1, 0), false, 867), (221, (148, 3, 1, 0), false, 875), (224, (287, 1, 0, 0), false, 884), (229, (14, 3, 1, 0), false, 879), (232, (288, 2, 0, 0), false, 902), (237, (126, 1, 1, 0), false, 907), (240, (76, 2, 1, 0), false, 917), (244, (7, 3, 0, 0), true, 347), (247, (86, 3, 1, 0), false, 936), (251, (89, 2, 1, 0), false, 952), (254, (88, 3, 1, 0), false, 956), (257, (90, 2, 1, 0), false, 961), (260, (10, 4, 0, 0), true, 174), (263, (79, 3, 1, 0), false, 969), (266, (83, 2, 1, 0), false, 987), (269, (84, 2, 1, 0), false, 991), (272, (130, 3, 1, 0), false, 999), (275, (158, 2, 1, 0), false, 1009), (278, (96, 2, 1, 0), false, 1013), (281, (160, 3, 1, 0), false, 1021), (284, (161, 3, 1, 0), false, 1025), (287, (95, 2, 1, 0), false, 1029), (290, (163, 2, 0, 0), false, 1034), (293, (164, 3, 0, 0), false, 1037), (297, (97, 2, 1, 0), false, 1048), (300, (179, 2, 0, 0), false, 1052), (303, (23, 4, 1, 0), false, 1053), (307, (168, 3, 1, 0), false, 1062), (310, (27, 3, 1, 0), false, 1066), (314, (29, 2, 1, 0), false, 1093), (317, (31, 2, 1, 0), false, 1094), (320, (32, 4, 1, 0), false, 1098), (324, (34, 1, 1, 0), false, 1110), (327, (98, 2, 1, 0), false, 1122), (330, (36, 3, 1, 0), false, 1126), (333, (38, 3, 1, 0), false, 1138), (336, (4, 4, 4, 65535), false, 1154), (337, (10, 7, 0, 0), true, 183), (340, (10, 5, 0, 0), true, 178), (343, (10, 6, 0, 0), true, 181), (345, (10, 3, 0, 0), true, 172), (348, (26, 1, 1, 0), false, 1171), (350, (3, 5, 0, 0), true, 235), (353, (24, 2, 1, 0), false, 1175)]
def aPl_12 : List (Nat × aP × Bool × Nat) := [(7, (12, 0, 2, 0), false, 1182), (13, (12, 1, 2, 0), false, 1183), (16, (12, 2, 2, 0), false, 1184), (19, (12, 3, 2, 0), false, 1185), (23, (12, 14, 2, 0), false, 1196), (26, (12, 15, 2, 0), false, 1197), (29, (12, 16, 2, 0), false, 1198), (32, (12, 17, 2, 0), false, 1199), (35, (12, 18, 2, 0), false, 1200), (38, (12, 19, 2, 0), false, 1201), (41, (12, 20, 2, 0), false, 1202), (44, (12, 21, 2, 0), false, 1203), (47, (12, 22, 2, 0), false, 1204), (50, (12, 23, 2, 0), false, 1205), (53, (12, 24, 2, 0), false, 1206), (56, (12, 25, 2, 0), false, 1207), (59, (12, 26, 2, 0), false, 1208), (62, (12, 27, 2, 0), false, 1209), (65, (12, 31, 2, 0), false, 1213), (68, (12, 32, 2, 0), false, 1214), (71, (12, 33, 2, 0), false, 1215), (74, (12, 34, 2, 0), false, 1216), (77, (12, 35, 2, 0), false, 1217), (80, (12, 37, 2, 0), false, 1219), (83, (12, 38, 2, 0), false, 1220), (86, (12, 39, 2, 0), false, 1221), (89, (12, 40, 2, 0), false, 1222), (92, (12, 41, 2, 0), false, 1223), (95, (12, 42, 2, 0), false, 1224), (98, (12, 43, 2, 0), false, 1225), (101, (12, 44, 2, 0), false, 1226), (104, (12, 45, 2, 0), false, 1227), (107, (12, 46, 2, 0), false, 1228), (110, (12, 47, 2, 0), false, 1229), (113, (12, 48, 2, 0), false, 1230), (116, (181, 3, 0, 0), false, 1338), (120, (184, 2, 0, 0), false, 1357), (124, (187, 2, 1, 0), false, 1353), (128, (188, 2, 1, 0), false, 1349), (131, (190, 2, 0, 0), false, 1360), (135, (192, 2, 1, 0), false, 1508), (139, (193, 2, 1, 0), false, 1512), (142, (189, 3, 1, 0), false, 1345), (145, (191, 2, 0, 0), false, 1367), (148, (12, 4, 0, 0), false, 1186), (152, (199, 2, 1, 0), false, 1374), (156, (12, 5, 0, 0), false, 1187), (159, (12, 6, 0, 0), false, 1188), (162, (202, 1, 1, 0), false, 1390), (166, (12, 7, 0, 0), false, 1189), (169, (204, 3, 1, 0), false, 1394), (172, (12, 8, 0, 0), false, 1190), (175, (203, 1, 1, 0), false, 1411), (179, (12, 10, 0, 0), false, 1192), (182, (4, 4, 4, 1048576), false, 1410), (183, (12, 9, 0, 0), false, 1191), (186, (12, 11, 0, 0), false, 1193), (189, (209, 1, 1, 0), false, 1433), (192, (207, 3, 1, 0), false, 1419), (196, (208, 2, 1, 0), false, 1406), (199, (206, 1, 1, 0), false, 1415), (202, (210, 1, 0, 0), false, 1423), (205, (213, 1, 1, 0), false, 1402), (208, (211, 1, 0, 0), false, 1426), (211, (212, 2, 1, 0), false, 1429), (215, (214, 2, 1, 0), false, 1437), (218, (215, 1, 1, 0), false, 1398), (221, (216, 1, 1, 0), false, 1449), (224, (219, 1, 1, 0), false, 1445), (227, (217, 2, 1, 0), false, 1453), (230, (218, 2, 1, 0), false, 1457), (233, (12, 12, 0, 0), false, 1194), (236, (220, 1, 1, 0), false, 1441), (239, (222, 2, 1, 0), false, 1382), (242, (221, 1, 1, 0), false, 1386), (245, (205, 2, 1, 0), false, 1461), (248, (12, 13, 0, 0), false, 1195), (251, (224, 3, 0, 0), false, 1524), (255, (225, 3, 1, 0), false, 1520), (258, (229, 1, 1, 0), false, 1476), (261, (12, 28, 0, 0), false, 1210), (264, (230, 1, 1, 0), false, 1480), (267, (231, 4, 1, 0), false, 1484), (270, (186, 2, 0, 0), false, 1469), (274, (232, 1, 1, 0), false, 1472), (277, (234, 2, 1, 0), false, 1535), (280, (12, 29, 0, 0), false, 1211), (283, (228, 2, 1, 0), false, 1504), (286, (226, 3, 1, 0), false, 1516), (289, (4, 4, 4, 65536), false, 1527), (290, (12, 30, 0, 0), false, 1212), (293, (182, 2, 0, 0), false, 1528), (296, (235, 2, 1, 0), false, 1531), (299, (236, 2, 1, 0), false, 1500), (302, (237, 3, 1, 0), false, 1539), (305, (227, 2, 1, 0), false, 1543), (308, (238, 1, 1, 0), false, 1496), (311, (239, 2, 1, 0), false, 1492), (314, (241, 1, 1, 0), false, 1551), (317, (194, 1, 1, 0), false, 1555), (320, (195, 2, 1, 0), false, 1563), (323, (4, 4, 4, (-1000000)), false, 1567), (324, (243, 2, 1, 0), false, 1568), (327, (247, 1, 1, 0), false, 1595), (330, (12, 36, 0, 0), false, 1218), (333, (183, 2, 0, 0), false, 1588), (336, (248, 1, 1, 0), false, 1591), (339, (249, 3, 1, 0), false, 1584), (342, (185, 1, 0, 0), false, 1607), (345, (4, 4, 4, 100000000), false, 1634), (346, (258, 2, 1, 0), false, 1630), (349, (257, 2, 1, 0), false, 1635), (352, (262, 1, 1, 0), false, 1651), (355, (201, 2, 1, 0), false, 1667), (358, (265, 2, 1, 0), false, 1663), (361, (268, 3, 0, 0), false, 1679), (364, (271, 2, 1, 0), false, 1690), (367, (272, 3, 1, 0), false, 1694), (370, (4, 4, 4, 1000000000), false, 1706), (371, (274, 2, 1, 0), false, 1702), (374, (276, 3, 1, 0), false, 1711), (377, (278, 3, 1, 0), false, 1719), (380, (280, 3, 1, 0), false, 1727), (383, (4, 4, 4, 65535), false, 1735), (384, (12, 49, 1, 0), false, 1231)]
def aPl_13 : List (Nat × aP × Bool × Nat) := [(13, (133, 3, 1, 0), false, 427), (17, (196, 3, 1, 0), false, 1334), (18, (134, 4, 1, 0), false, 439), (22, (197, 4, 1, 0), false, 1341), (23, (135, 4, 1, 0), false, 455), (26, (198, 4, 1, 0), false, 1363), (27, (136, 6, 1, 0), false, 471), (31, (200, 6, 1, 0), false, 1370), (32, (137, 2, 1, 0), false, 483), (36, (223, 2, 1, 0), false, 1378), (37, (138, 2, 1, 0), false, 606), (40, (233, 2, 1, 0), false, 1465), (41, (139, 2, 1, 0), false, 665), (44, (240, 2, 1, 0), false, 1488), (45, (140, 3, 1, 0), false, 770), (49, (242, 3, 1, 0), false, 1547), (50, (141, 3, 1, 0), false, 789), (53, (244, 3, 1, 0), false, 1559), (54, (142, 3, 1, 0), false, 810), (57, (245, 3, 1, 0), false, 1572), (58, (143, 3, 1, 0), false, 820), (61, (246, 3, 1, 0), false, 1576), (62, (144, 2, 1, 0), false, 825), (65, (250, 2, 1, 0), false, 1580), (66, (145, 2, 1, 0), false, 863), (69, (251, 2, 1, 0), false, 1599), (70, (146, 2, 1, 0), false, 871), (73, (252, 2, 1, 0), false, 1603), (74, (147, 3, 1, 0), false, 890), (77, (253, 3, 1, 0), false, 1610), (78, (149, 3, 1, 0), false, 894), (81, (254, 3, 1, 0), false, 1614), (82, (150, 2, 1, 0), false, 898), (85, (255, 2, 1, 0), false, 1618), (86, (151, 1, 1, 0), false, 903), (90, (256, 1, 1, 0), false, 1622), (91, (152, 2, 1, 0), false, 913), (94, (263, 2, 1, 0), false, 1647), (95, (153, 3, 1, 0), false, 932), (98, (259, 3, 1, 0), false, 1626), (99, (154, 4, 1, 0), false, 957), (103, (260, 4, 1, 0), false, 1639), (104, (155, 3, 1, 0), false, 965), (107, (261, 3, 1, 0), false, 1643), (108, (156, 3, 1, 0), false, 995), (111, (264, 3, 1, 0), false, 1655), (112, (157, 2, 1, 0), false, 1005), (115, (266, 2, 1, 0), false, 1659), (116, (159, 4, 1, 0), false, 1017), (119, (267, 4, 1, 0), false, 1671), (120, (162, 4, 1, 0), false, 1030), (123, (269, 4, 1, 0), false, 1675), (124, (165, 4, 1, 0), false, 1040), (127, (270, 4, 1, 0), false, 1682), (128, (166, 3, 1, 0), false, 1044), (131, (273, 3, 1, 0), false, 1686), (132, (167, 3, 1, 0), false, 1058), (135, (275, 3, 1, 0), false, 1698), (136, (169, 1, 1, 0), false, 1106), (139, (277, 1, 1, 0), false, 1707), (140, (170, 2, 1, 0), false, 1118), (143, (279, 2, 1, 0), false, 1715), (144, (171, 2, 1, 0), false, 1134), (147, (281, 2, 1, 0), false, 1723), (148, (172, 2, 1, 0), false, 1150), (152, (282, 2, 1, 0), false, 1731), (153, (173, 1, 1, 0), false, 1155), (156, (283, 1, 1, 0), false, 1736), (157, (174, 1, 1, 0), false, 1159), (161, (284, 1, 1, 0), false, 1740), (162, (175, 2, 1, 0), false, 1163), (165, (285, 2, 1, 0), false, 1744), (166, (176, 2, 1, 0), false, 1167), (169, (286, 2, 1, 0), false, 1748)]
def aPl_14 : List (Nat × aP × Bool × Nat) := [(265, (4, 4, 4, 1431655765), false, 887), (266, (4, 4, 4, 858993459), false, 888), (267, (4, 4, 4, 252645135), false, 889)]
def aPl_15 : List (Nat × aP × Bool × Nat) := []
def aPl_16 : List (Nat × aP × Bool × Nat) := []
def aPl : List (List (Nat × aP × Bool × Nat)) := [aPl_0, aPl_1, aPl_2, aPl_3, aPl_4, aPl_5, aPl_6, aPl_7, aPl_8, aPl_9, aPl_10, aPl_11, aPl_12, aPl_13, aPl_14, aPl_15, aPl_16]
/-- a rank for each method, above those that it calls; those that call one another: less by 8 for each level that is open -/
def mRk : List Nat := [0, 1, 0, 4, 4, 3, 0, 0, 1, 2, 2, 1, 0, 2, 1, 2, 0, 1, 1, 1, 1, 0, 0, 1, 0, 0, 0, 2, 1, 0, 0, 1, 3, 2, 2, 1, 1, 0, 2, 1, 0, 0, 0, 0, 0, 0, 0, 0, 0, 0, 1, 67, 66, 9, 8, 1, 7, 6, 5, 4, 3, 0, 0, 5, 4, 3, 3, 2, 2, 0, 6, 5, 5, 5, 3, 0, 2, 0, 1, 3, 1, 0, 0, 0, 0, 0, 3, 2, 1, 2, 2, 0, 0, 0, 0, 0, 1, 1, 1, 0, 0, 1, 0, 1, 1, 2, 2, 0, 0, 1, 1, 2, 2, 1, 1, 1, 1, 1, 1, 1, 2, 0, 0, 2, 2, 1, 2, 3, 2, 2, 3, 0, 2, 2, 3, 3, 1, 68, 6, 7, 7, 4, 3, 3, 3, 3, 4, 4, 3, 4, 3, 3, 3, 4, 4, 4, 4, 4, 3, 3, 2, 1, 1, 0, 0, 1, 2, 5, 4, 3, 2, 3, 0, 1, 1, 2, 2, 0, 0, 0, 0, 0, 0, 0, 0, 0, 0, 1, 2, 3, 0, 0, 1, 1, 2, 2, 1, 4, 4, 0, 1, 0, 0, 1, 0, 1, 2, 0, 1, 0, 0, 0, 1, 3, 0, 4, 1, 1, 1, 5, 6, 7, 0, 8, 0, 1, 2, 2, 2, 1, 2, 1, 3, 4, 1, 2, 3, 3, 4, 5, 6, 3, 6, 1, 3, 2, 2, 1, 2, 3, 4, 4, 4, 4, 4, 4, 1, 1, 0, 2, 2, 3, 2, 3, 4, 1, 4, 1, 0, 1, 1, 1, 1, 2, 2, 3, 0, 1, 0, 1, 1, 2, 1, 1, 1, 2, 3, 0, 0, 0, 69]
def mRec : List Nat := [53, 54, 56, 57, 58, 59, 60]
end
section
/-! THE SMALL MACHINE: the same bytecode over a plain memory (cells by their numbers in lay0, ints as Int, no heap, no threads): its steps, its runs to the end, its runs as a function. Part 04 shows that what it answers the machine answers. -/
def wr (z : Int) : Int := (z + 2147483648) % 4294967296 - 2147483648
def inR (z : Int) : Prop := -2147483648 ≤ z ∧ z < 2147483648
def iAnd (x y : Int) : Int := (Int32.ofInt x &&& Int32.ofInt y).toInt
def iOr (x y : Int) : Int := (Int32.ofInt x ||| Int32.ofInt y).toInt
def iXor (x y : Int) : Int := (Int32.ofInt x ^^^ Int32.ofInt y).toInt
def iShl (x y : Int) : Int := (Int32.ofInt x <<< (Int32.ofInt y &&& 31)).toInt
def iShr (x y : Int) : Int := (Int32.ofInt x >>> (Int32.ofInt y &&& 31)).toInt
def iUshr (x y : Int) : Int := (((Int32.ofInt x).toUInt32 >>> ((Int32.ofInt y).toUInt32 &&& Int32.toUInt32 31)).toInt32).toInt
def b8 (z : Int) : Int := (z + 128) % 256 - 128
def upM (M : aM) (q j : Nat) (x : Int) : aM := fun a => if a = q then (fun b => if b = j then x else M q b) else M a
def cpM (M : aM) (q0 q1 sp dp n : Nat) : aM := fun a => if a = q1 then (fun k => if dp ≤ k ∧ k < dp + n then M q0 (sp + (k - dp)) else M q1 k) else M a
abbrev aS : Type := Option (Nat × List aV × List aV × aM) ⊕ ((Nat × List aV × Nat × List aV) ⊕ Option aV)
abbrev aX : Type := Option (Option aV × aM)
def aNo : aS := .inl none
def aGo (pc : Nat) (L S : List aV) (M : aM) : aS := .inl (some (pc, L, S, M))
def tgt (pc : Nat) (off : Int) : Nat := ((pc : Int) + off).toNat
/-- a jump: where it goes has to be a place -/
def aBr (pc : Nat) (off : Int) (c : Prop) [Decidable c] (L S : List aV) (M : aM) : aS := if 0 ≤ (pc : Int) + off then aGo (if c then tgt pc off else pc + 3) L S M else aNo
/-- one instruction (bz: the method's answer is a boolean; own: the class of a method) -/
def sem (own : Nat → Nat) (bz : Bool) (pc : Nat) (i : Instr) (P : aP) (L S : List aV) (M : aM) : aS :=
  match i with
  | .iconst n => if -128 ≤ n ∧ n < 128 then aGo (pc + 1) L (.inl n :: S) M else aNo
  | .bipush n => if -128 ≤ n ∧ n < 128 then aGo (pc + 2) L (.inl n :: S) M else aNo
  | .sipush n => if -32768 ≤ n ∧ n < 32768 then aGo (pc + 3) L (.inl n :: S) M else aNo
  | .ldc _ => if P.1 = 4 ∧ -2147483648 ≤ P.2.2.2 ∧ P.2.2.2 < 2147483648 then aGo (pc + 2) L (.inl P.2.2.2 :: S) M else aNo
  | .ldc_w _ => if P.1 = 4 ∧ -2147483648 ≤ P.2.2.2 ∧ P.2.2.2 < 2147483648 then aGo (pc + 3) L (.inl P.2.2.2 :: S) M else aNo
  | .iload n => match L[n]? with | some (.inl x) => aGo (pc + 2) L (.inl x :: S) M | _ => aNo
  | .iload_n n => match L[(n : Nat)]? with | some (.inl x) => aGo (pc + 1) L (.inl x :: S) M | _ => aNo
  | .aload n => match L[n]? with | some (.inr (some x)) => aGo (pc + 2) L (.inr (some x) :: S) M | _ => aNo
  | .aload_n n => match L[(n : Nat)]? with | some (.inr (some x)) => aGo (pc + 1) L (.inr (some x) :: S) M | _ => aNo
  | .istore n => match S with | .inl x :: S' => if n < L.length then aGo (pc + 2) (L.set n (.inl x)) S' M else aNo | _ => aNo
  | .istore_n n => match S with | .inl x :: S' => if (n : Nat) < L.length then aGo (pc + 1) (L.set n (.inl x)) S' M else aNo | _ => aNo
  | .astore n => match S with | .inr (some x) :: S' => if n < L.length then aGo (pc + 2) (L.set n (.inr (some x))) S' M else aNo | _ => aNo
  | .astore_n n => match S with | .inr (some x) :: S' => if (n : Nat) < L.length then aGo (pc + 1) (L.set n (.inr (some x))) S' M else aNo | _ => aNo
  | .iinc n c => match L[n]? with | some (.inl x) => aGo (pc + 3) (L.set n (.inl (wr (x + c)))) S M | _ => aNo
  | .iadd => match S with | .inl y :: .inl x :: S' => aGo (pc + 1) L (.inl (wr (x + y)) :: S') M | _ => aNo
  | .isub => match S with | .inl y :: .inl x :: S' => aGo (pc + 1) L (.inl (wr (x - y)) :: S') M | _ => aNo
  | .imul => match S with | .inl y :: .inl x :: S' => aGo (pc + 1) L (.inl (wr (x * y)) :: S') M | _ => aNo
  | .idiv => match S with | .inl y :: .inl x :: S' => if y = 0 then aNo else aGo (pc + 1) L (.inl (wr (x.tdiv y)) :: S') M | _ => aNo
  | .irem => match S with | .inl y :: .inl x :: S' => if y = 0 then aNo else aGo (pc + 1) L (.inl (x.tmod y) :: S') M | _ => aNo
  | .ineg => match S with | .inl x :: S' => aGo (pc + 1) L (.inl (wr (-x)) :: S') M | _ => aNo
  | .iand => match S with | .inl y :: .inl x :: S' => aGo (pc + 1) L (.inl (iAnd x y) :: S') M | _ => aNo
  | .ior => match S with | .inl y :: .inl x :: S' => aGo (pc + 1) L (.inl (iOr x y) :: S') M | _ => aNo
  | .ixor => match S with | .inl y :: .inl x :: S' => aGo (pc + 1) L (.inl (iXor x y) :: S') M | _ => aNo
  | .ishl => match S with | .inl y :: .inl x :: S' => aGo (pc + 1) L (.inl (iShl x y) :: S') M | _ => aNo
  | .ishr => match S with | .inl y :: .inl x :: S' => aGo (pc + 1) L (.inl (iShr x y) :: S') M | _ => aNo
  | .iushr => match S with | .inl y :: .inl x :: S' => aGo (pc + 1) L (.inl (iUshr x y) :: S') M | _ => aNo
  | .i2b => match S with | .inl x :: S' => aGo (pc + 1) L (.inl (b8 x) :: S') M | _ => aNo
  | .dup => match S with | v :: S' => aGo (pc + 1) L (v :: v :: S') M | _ => aNo
  | .dup2 => match S with | v :: w :: S' => aGo (pc + 1) L (v :: w :: v :: w :: S') M | _ => aNo
  | .pop => match S with | _ :: S' => aGo (pc + 1) L S' M | _ => aNo
  | .goto off => if 0 ≤ (pc : Int) + off then aGo (tgt pc off) L S M else aNo
  | .ifCond .eq off => match S with | .inl x :: S' => aBr pc off (x = 0) L S' M | _ => aNo
  | .ifCond .ne off => match S with | .inl x :: S' => aBr pc off (¬ x = 0) L S' M | _ => aNo
  | .ifCond .lt off => match S with | .inl x :: S' => aBr pc off (x < 0) L S' M | _ => aNo
  | .ifCond .ge off => match S with | .inl x :: S' => aBr pc off (0 ≤ x) L S' M | _ => aNo
  | .ifCond .gt off => match S with | .inl x :: S' => aBr pc off (0 < x) L S' M | _ => aNo
  | .ifCond .le off => match S with | .inl x :: S' => aBr pc off (x ≤ 0) L S' M | _ => aNo
  | .if_icmp .eq off => match S with | .inl y :: .inl x :: S' => aBr pc off (x = y) L S' M | _ => aNo
  | .if_icmp .ne off => match S with | .inl y :: .inl x :: S' => aBr pc off (¬ x = y) L S' M | _ => aNo
  | .if_icmp .lt off => match S with | .inl y :: .inl x :: S' => aBr pc off (x < y) L S' M | _ => aNo
  | .if_icmp .ge off => match S with | .inl y :: .inl x :: S' => aBr pc off (y ≤ x) L S' M | _ => aNo
  | .if_icmp .gt off => match S with | .inl y :: .inl x :: S' => aBr pc off (y < x) L S' M | _ => aNo
  | .if_icmp .le off => match S with | .inl y :: .inl x :: S' => aBr pc off (x ≤ y) L S' M | _ => aNo
  | .tableswitch d lo hi offs => match S with
    | .inl x :: S' => if x < lo ∨ hi < x then (if 0 ≤ (pc : Int) + d then aGo (tgt pc d) L S' M else aNo) else (match offs[(x - lo).toNat]? with | some off => if 0 ≤ (pc : Int) + off then aGo (tgt pc off) L S' M else aNo | none => aNo)
    | _ => aNo
  | .lookupswitch d ps => match S with
    | .inl x :: S' => if (ps.toList.zip (ps.toList.drop 1)).all (fun (a, next) => a.1 < next.1) = true ∧ 0 ≤ (pc : Int) + Op.lookupswitch.offset ps.toList d x then aGo (tgt pc (Op.lookupswitch.offset ps.toList d x)) L S' M else aNo
    | _ => aNo
  | .getfield _ => match S with
    | .inr (some q) :: S' => match lay0[q]? with
      | some (.inl (c, refs)) => if c = P.1 then (match refs[P.2.1]? with
        | some (some q') => if P.2.2.1 = 2 then aGo (pc + 3) L (.inr (some q') :: S') M else aNo
        | some none => if P.2.2.1 ≤ 1 then aGo (pc + 3) L (.inl (M q P.2.1) :: S') M else aNo
        | none => aNo) else aNo
      | _ => aNo
    | _ => aNo
  | .putfield _ => match S with
    | .inl x :: .inr (some q) :: S' => match lay0[q]? with
      | some (.inl (c, refs)) => if c = P.1 ∧ refs[P.2.1]? = some none ∧ (P.2.2.1 = 0 ∨ P.2.2.1 = 1 ∧ (x = 0 ∨ x = 1)) then aGo (pc + 3) L S' (upM M q P.2.1 x) else aNo
      | _ => aNo
    | _ => aNo
  | .iaload => match S with
    | .inl j :: .inr (some q) :: S' => match lay0[q]? with
      | some (.inr (t, n)) => if t = 0 then (if 0 ≤ j ∧ j < (n : Int) then aGo (pc + 1) L (.inl (M q j.toNat) :: S') M else aNo) else if t = 2 ∧ q = 0 then (if 0 ≤ j ∧ j < M 0 4000 then aGo (pc + 1) L (.inl (M 0 j.toNat) :: S') M else aNo) else aNo
      | _ => aNo
    | _ => aNo
  | .baload => match S with
    | .inl j :: .inr (some q) :: S' => match lay0[q]? with
      | some (.inr (t, n)) => if t = 1 then (if 0 ≤ j ∧ j < (n : Int) then aGo (pc + 1) L (.inl (M q j.toNat) :: S') M else aNo) else aNo
      | _ => aNo
    | _ => aNo
  | .iastore => match S with
    | .inl x :: .inl j :: .inr (some q) :: S' => match lay0[q]? with
      | some (.inr (t, n)) => if t = 0 then (if 0 ≤ j ∧ j < (n : Int) then aGo (pc + 1) L S' (upM M q j.toNat x) else aNo) else aNo
      | _ => aNo
    | _ => aNo
  | .bastore => match S with
    | .inl x :: .inl j :: .inr (some q) :: S' => match lay0[q]? with
      | some (.inr (t, n)) => if t = 1 then (if 0 ≤ j ∧ j < (n : Int) then aGo (pc + 1) L S' (upM M q j.toNat (b8 x)) else aNo) else aNo
      | _ => aNo
    | _ => aNo
  | .arraylength => match S with
    | .inr (some 0) :: S' => aGo (pc + 1) L (.inl (M 0 4000) :: S') M
    | _ => aNo
  | .invokestatic _ => if P.1 = 1000 then (match S with
      | .inl n :: .inl dp :: .inr (some q1) :: .inl sp :: .inr (some q0) :: S' => match lay0[q0]?, lay0[q1]? with
        | some (.inr (0, n0)), some (.inr (0, n1)) => if (0 ≤ sp ∧ 0 ≤ dp ∧ 0 ≤ n ∧ sp + n ≤ (n0 : Int) ∧ dp + n ≤ (n1 : Int)) ∧ S'.length ≤ 8 then aGo (pc + 3) L S' (cpM M q0 q1 sp.toNat dp.toNat n.toNat) else aNo
        | _, _ => aNo
      | _ => aNo)
    else if P.2.2.1 = 0 ∧ P.2.1 ≤ S.length ∧ S.length ≤ P.2.1 + 8 then .inr (.inl (P.1, (S.take P.2.1).reverse, pc + 3, S.drop P.2.1)) else aNo
  | .invokevirtual _ => if P.2.2.1 = 1 ∧ P.2.1 ≤ S.length ∧ S.length ≤ P.2.1 + 8 then (match (S.take P.2.1).reverse with
      | .inr (some q) :: _ => match lay0[q]? with
        | some (.inl (c, _)) => if c = own P.1 then .inr (.inl (P.1, (S.take P.2.1).reverse, pc + 3, S.drop P.2.1)) else aNo
        | _ => aNo
      | _ => aNo) else aNo
  | .ireturn => match S with
    | [.inl x] => if bz = true → (x = 0 ∨ x = 1) then .inr (.inr (some (.inl x))) else aNo
    | _ => aNo
  | .return_ => match S with | [] => .inr (.inr none) | _ => aNo
  | _ => aNo
/-- which place of the constant pool an instruction names -/
def idxOf (i : Instr) : Option Nat := match i with
  | .getfield k => some k
  | .putfield k => some k
  | .invokestatic k => some k
  | .invokevirtual k => some k
  | .ldc k => some k
  | .ldc_w k => some k
  | _ => none
def okLen (i : Instr) (n : Nat) : Bool := match i with
  | .bipush _ => n == 2 | .ldc _ => n == 2 | .iload _ => n == 2 | .aload _ => n == 2 | .istore _ => n == 2 | .astore _ => n == 2
  | .sipush _ => n == 3 | .ldc_w _ => n == 3 | .iinc _ _ => n == 3 | .goto _ => n == 3 | .ifCond _ _ => n == 3 | .if_icmp _ _ => n == 3
  | .getfield _ => n == 3 | .putfield _ => n == 3 | .invokestatic _ => n == 3 | .invokevirtual _ => n == 3
  | .tableswitch .. => true | .lookupswitch .. => true
  | _ => n == 1
def mOwn (c : Nat) : Nat := match mTab[c]? with | some e => e.2.2.1 | none => 999
def mBz (c : Nat) : Bool := match mTab[c]? with | some e => e.2.2.2.2.2.1 == some .boolean | none => false
def mVd (c : Nat) : Bool := match mTab[c]? with | some e => e.2.2.2.2.2.1 == none | none => false
def mMx (c : Nat) : Nat := match mTab[c]? with | some e => e.2.2.2.1 | none => 0
/-- the instruction at a place of a method, with what its pool place holds -/
def rfI (c pc : Nat) : Option (Instr × aP) := match mTab[c]? with
  | some e => match decode e.1 pc with
    | .ok (i, n) => if okLen i n = true then (match idxOf i with
      | none => some (i, (0, 0, 0, 0))
      | some k => match aPl[e.2.2.1]? with
        | some l => (l.lookup k).map (fun z => (i, z.1))
        | none => none) else none
    | .error _ => none
  | none => none
def stp (c pc : Nat) (L S : List aV) (M : aM) : aS := match rfI c pc with
  | some (i, P) => sem mOwn (mBz c) pc i P L S M
  | none => aNo
def rkF (c : Nat) (a : List aV) : Nat := mRk.getD c 0 + (if mRec.contains c then 8 * (7 - (match a.getLast? with | some (.inl o) => o.toNat | _ => 7)) else 0)
def padF (c : Nat) (a : List aV) : List aV := a ++ List.replicate (mMx c - a.length) (.inr none)
/-- what goes on behind a call -/
def cnt (vd : Bool) (q : Option aV × aM) (f : List aV → aM → aX) : aX := match vd, q.1 with
  | true, none => f [] q.2
  | false, some (.inl v) => f [.inl v] q.2
  | _, _ => none
def ex : Nat → Nat → Nat → Nat → List aV → List aV → aM → aX
  | 0, _, _, _, _, _, _ => none
  | n + 1, r, c, pc, L, S, M => match stp c pc L S M with
    | .inl none => none
    | .inl (some (pc', L', S', M')) => ex n r c pc' L' S' M'
    | .inr (.inl (d, a, pc', S')) => if rkF d a < r then (ex n (rkF d a) d 0 (padF d a) [] M).bind (fun q => cnt (mVd d) q (fun v M' => ex n r c pc' L (v ++ S') M')) else none
    | .inr (.inr v) => some (v, M)
theorem cnt_mono {vd : Bool} {q : Option aV × aM} {f g : List aV → aM → aX} {x : Option aV × aM} (h : ∀ v M y, f v M = some y → g v M = some y) (hc : cnt vd q f = some x) : cnt vd q g = some x := by
  unfold cnt at hc ⊢
  split at hc
  · exact h _ _ _ hc
  · exact h _ _ _ hc
  · cases hc
theorem ex_mono : ∀ (n r c pc : Nat) (L S : List aV) (M : aM) (x : Option aV × aM), ex n r c pc L S M = some x → ex (n + 1) r c pc L S M = some x := by
  intro n
  induction n with
  | zero => intro r c pc L S M x h; cases h
  | succ n ih =>
    intro r c pc L S M x h
    rw [ex] at h ⊢
    split at h
    · cases h
    · exact ih _ _ _ _ _ _ _ h
    · split at h
      · next hr =>
        rw [if_pos hr]
        rw [Option.bind_eq_some_iff] at h ⊢
        obtain ⟨q, h1, h2⟩ := h
        exact ⟨q, ih _ _ _ _ _ _ _ h1, cnt_mono (fun v M y hy => ih _ _ _ _ _ _ _ hy) h2⟩
      · cases h
    · exact h
theorem ex_le {n m r c pc : Nat} {L S : List aV} {M : aM} {x : Option aV × aM} (h : n ≤ m) (hx : ex n r c pc L S M = some x) : ex m r c pc L S M = some x := by
  induction h with
  | refl => exact hx
  | step _ ih => exact ex_mono _ _ _ _ _ _ _ _ ih
theorem ex_det {n m r c pc : Nat} {L S : List aV} {M : aM} {x y : Option aV × aM} (hx : ex n r c pc L S M = some x) (hy : ex m r c pc L S M = some y) : x = y := by
  have h1 := ex_le (Nat.le_max_left n m) hx
  have h2 := ex_le (Nat.le_max_right n m) hy
  rw [h1] at h2
  exact Option.some.inj h2
/-- the whole run as a function -/
noncomputable def run (r c pc : Nat) (L S : List aV) (M : aM) : aX :=
  @dite _ (∃ (x : Option aV × aM) (n : Nat), ex n r c pc L S M = some x) (Classical.propDecidable _) (fun h => some (Classical.choose h)) (fun _ => none)
theorem run_iff {r c pc : Nat} {L S : List aV} {M : aM} {x : Option aV × aM} : run r c pc L S M = some x ↔ ∃ n, ex n r c pc L S M = some x := by
  unfold run
  by_cases h : ∃ (x : Option aV × aM) (n : Nat), ex n r c pc L S M = some x
  · rw [dif_pos h]
    obtain ⟨n, hn⟩ := Classical.choose_spec h
    constructor
    · intro e; exact ⟨n, by rw [hn, ← Option.some.inj e]⟩
    · rintro ⟨m, hm⟩; rw [ex_det hn hm]
  · rw [dif_neg h]
    constructor
    · intro e; cases e
    · rintro ⟨m, hm⟩; exact absurd ⟨x, m, hm⟩ h
theorem run_ext {a b : aX} (h : ∀ x, a = some x ↔ b = some x) : a = b := by
  cases a with
  | none => cases b with
    | none => rfl
    | some y => exact ((h y).mpr rfl)
  | some x => exact ((h x).mp rfl).symm
noncomputable def fnA (c : Nat) (a : List aV) (M : aM) : aX := run (rkF c a) c 0 (padF c a) [] M
def bI (X : aX) (f : Int → aM → aX) : aX := match X with | some (some (.inl v), M) => f v M | _ => none
def bV (X : aX) (f : aM → aX) : aX := match X with | some (none, M) => f M | _ => none
theorem bI_s {v : Int} {M : aM} {f : Int → aM → aX} : bI (some (some (.inl v), M)) f = f v M := rfl
theorem bV_s {M : aM} {f : aM → aX} : bV (some (none, M)) f = f M := rfl
theorem run_go {r c pc pc' : Nat} {L S L' S' : List aV} {M M' : aM} (h : stp c pc L S M = aGo pc' L' S' M') : run r c pc L S M = run r c pc' L' S' M' := by
  refine run_ext fun x => ?_
  rw [run_iff, run_iff]
  constructor
  · rintro ⟨n, hn⟩
    cases n with
    | zero => cases hn
    | succ n => rw [ex, h] at hn; exact ⟨n, hn⟩
  · rintro ⟨n, hn⟩
    exact ⟨n + 1, by rw [ex, h]; exact hn⟩
theorem run_no {r c pc : Nat} {L S : List aV} {M : aM} (h : stp c pc L S M = aNo) : run r c pc L S M = none := by
  refine run_ext fun x => ?_
  rw [run_iff]
  constructor
  · rintro ⟨n, hn⟩
    cases n with
    | zero => cases hn
    | succ n => rw [ex, h] at hn; cases hn
  · intro h; cases h
theorem run_ret {r c pc : Nat} {L S : List aV} {M : aM} {v : Option aV} (h : stp c pc L S M = .inr (.inr v)) : run r c pc L S M = some (v, M) := run_iff.mpr ⟨1, by rw [ex, h]⟩
theorem run_call {r c pc d pc' : Nat} {L S a S' : List aV} {M : aM} (h : stp c pc L S M = .inr (.inl (d, a, pc', S'))) : run r c pc L S M = if rkF d a < r then (fnA d a M).bind (fun q => cnt (mVd d) q (fun v M' => run r c pc' L (v ++ S') M')) else none := by
  refine run_ext fun x => ?_
  rw [run_iff]
  by_cases hr : rkF d a < r
  · rw [if_pos hr, Option.bind_eq_some_iff]
    constructor
    · rintro ⟨n, hn⟩
      cases n with
      | zero => cases hn
      | succ n =>
        rw [ex, h] at hn
        dsimp only at hn
        rw [if_pos hr, Option.bind_eq_some_iff] at hn
        obtain ⟨q, h1, h2⟩ := hn
        exact ⟨q, run_iff.mpr ⟨n, h1⟩, cnt_mono (fun v M y hy => run_iff.mpr ⟨n, hy⟩) h2⟩
    · rintro ⟨q, h1, h2⟩
      obtain ⟨n, hn⟩ := run_iff.mp h1
      have hm : ∃ m, cnt (mVd d) q (fun v M' => ex m r c pc' L (v ++ S') M') = some x := by
        unfold cnt at h2 ⊢
        split at h2
        · exact run_iff.mp h2
        · exact run_iff.mp h2
        · cases h2
      obtain ⟨m, hm⟩ := hm
      refine ⟨max n m + 1, ?_⟩
      rw [ex, h]
      dsimp only
      rw [if_pos hr, Option.bind_eq_some_iff]
      exact ⟨q, ex_le (Nat.le_max_left n m) hn, cnt_mono (fun v M y hy => ex_le (Nat.le_max_right n m) hy) hm⟩
  · rw [if_neg hr]
    constructor
    · rintro ⟨n, hn⟩
      cases n with
      | zero => cases hn
      | succ n => rw [ex, h] at hn; dsimp only at hn; rw [if_neg hr] at hn; cases hn
    · intro h; cases h
theorem bind_bI {X : aX} {f : List aV → aM → aX} : X.bind (fun q => cnt false q f) = bI X (fun v M => f [.inl v] M) := by
  unfold bI cnt
  cases X with
  | none => rfl
  | some q =>
    obtain ⟨v, M⟩ := q
    rcases v with _ | (v | v) <;> rfl
theorem bind_bV {X : aX} {f : List aV → aM → aX} : X.bind (fun q => cnt true q f) = bV X (fun M => f [] M) := by
  unfold bV cnt
  cases X with
  | none => rfl
  | some q =>
    obtain ⟨v, M⟩ := q
    rcases v with _ | v <;> rfl
end
