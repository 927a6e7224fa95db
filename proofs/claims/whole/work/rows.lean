section
-- ===== PART A: goes FIRST, ahead of the names: the tables' words, and 'selects' of the private methods out of them =====
/-- a private method of a class that the tables say can be made, by its rows of tables_1 -/
def lw_okq (q : MethodName × Nat) : Prop := (q.1.cls ≠ "java/lang/invoke/MethodHandle" ∧ q.1.cls ≠ "java/lang/invoke/VarHandle") ∧ Cond.instantiable q.1.cls q.2 ∈ tables_1 ∧ Cond.privateMethod q.1 ∈ tables_1 ∧ Cond.instanceMethod q.1 ∈ tables_1
theorem lw_p0 : lw_okq (⟨"ToadBank$LawReader", "readRule", "(LToadBank$Tape;)Z"⟩, 1) := ⟨⟨by decide +kernel, by decide +kernel⟩, List.mem_of_getElem? (i := 107) (by decide +kernel), List.mem_of_getElem? (i := 395) (by decide +kernel), List.mem_of_getElem? (i := 396) (by decide +kernel)⟩
theorem lw_p1 : lw_okq (⟨"ToadBank$LawReader", "readSum", "(LToadBank$Tape;I)Z"⟩, 1) := ⟨⟨by decide +kernel, by decide +kernel⟩, List.mem_of_getElem? (i := 107) (by decide +kernel), List.mem_of_getElem? (i := 422) (by decide +kernel), List.mem_of_getElem? (i := 423) (by decide +kernel)⟩
theorem lw_p2 : lw_okq (⟨"ToadBank$LawReader", "readTerm", "(LToadBank$Tape;I)Z"⟩, 1) := ⟨⟨by decide +kernel, by decide +kernel⟩, List.mem_of_getElem? (i := 107) (by decide +kernel), List.mem_of_getElem? (i := 426) (by decide +kernel), List.mem_of_getElem? (i := 427) (by decide +kernel)⟩
theorem lw_p3 : lw_okq (⟨"ToadBank$LawReader", "readFactor", "(LToadBank$Tape;I)Z"⟩, 1) := ⟨⟨by decide +kernel, by decide +kernel⟩, List.mem_of_getElem? (i := 107) (by decide +kernel), List.mem_of_getElem? (i := 430) (by decide +kernel), List.mem_of_getElem? (i := 431) (by decide +kernel)⟩
theorem lw_p4 : lw_okq (⟨"ToadBank$LawReader", "isAskedLetter", "(I)Z"⟩, 1) := ⟨⟨by decide +kernel, by decide +kernel⟩, List.mem_of_getElem? (i := 107) (by decide +kernel), List.mem_of_getElem? (i := 440) (by decide +kernel), List.mem_of_getElem? (i := 441) (by decide +kernel)⟩
theorem lw_p5 : lw_okq (⟨"ToadBank$LawReader", "readCase", "(LToadBank$Tape;I)Z"⟩, 1) := ⟨⟨by decide +kernel, by decide +kernel⟩, List.mem_of_getElem? (i := 107) (by decide +kernel), List.mem_of_getElem? (i := 459) (by decide +kernel), List.mem_of_getElem? (i := 460) (by decide +kernel)⟩
theorem lw_p6 : lw_okq (⟨"ToadBank$LawReader", "readPart", "(LToadBank$Tape;I)Z"⟩, 1) := ⟨⟨by decide +kernel, by decide +kernel⟩, List.mem_of_getElem? (i := 107) (by decide +kernel), List.mem_of_getElem? (i := 463) (by decide +kernel), List.mem_of_getElem? (i := 464) (by decide +kernel)⟩
theorem lw_p7 : lw_okq (⟨"ToadBank$LawReader", "readTest", "(LToadBank$Tape;I)Z"⟩, 1) := ⟨⟨by decide +kernel, by decide +kernel⟩, List.mem_of_getElem? (i := 107) (by decide +kernel), List.mem_of_getElem? (i := 467) (by decide +kernel), List.mem_of_getElem? (i := 468) (by decide +kernel)⟩
theorem lw_p8 : lw_okq (⟨"ToadBank$LawReader", "readOpened", "(LToadBank$Tape;II)Z"⟩, 1) := ⟨⟨by decide +kernel, by decide +kernel⟩, List.mem_of_getElem? (i := 107) (by decide +kernel), List.mem_of_getElem? (i := 471) (by decide +kernel), List.mem_of_getElem? (i := 472) (by decide +kernel)⟩
theorem lw_p9 : lw_okq (⟨"ToadBank$LawReader", "startLink", "(LToadBank$Tape;I)I"⟩, 1) := ⟨⟨by decide +kernel, by decide +kernel⟩, List.mem_of_getElem? (i := 107) (by decide +kernel), List.mem_of_getElem? (i := 475) (by decide +kernel), List.mem_of_getElem? (i := 476) (by decide +kernel)⟩
theorem lw_p10 : lw_okq (⟨"ToadBank$LedgerReader", "readLine", "(LToadBank$Tape;LToadBank$Town;I)Z"⟩, 1) := ⟨⟨by decide +kernel, by decide +kernel⟩, List.mem_of_getElem? (i := 97) (by decide +kernel), List.mem_of_getElem? (i := 516) (by decide +kernel), List.mem_of_getElem? (i := 517) (by decide +kernel)⟩
theorem lw_p11 : lw_okq (⟨"ToadBank$LedgerReader", "readOther", "(LToadBank$Tape;LToadBank$Town;I)Z"⟩, 1) := ⟨⟨by decide +kernel, by decide +kernel⟩, List.mem_of_getElem? (i := 97) (by decide +kernel), List.mem_of_getElem? (i := 525) (by decide +kernel), List.mem_of_getElem? (i := 526) (by decide +kernel)⟩
theorem lw_p12 : lw_okq (⟨"ToadBank$LedgerReader", "carryOut", "(LToadBank$Town;III)Z"⟩, 1) := ⟨⟨by decide +kernel, by decide +kernel⟩, List.mem_of_getElem? (i := 97) (by decide +kernel), List.mem_of_getElem? (i := 531) (by decide +kernel), List.mem_of_getElem? (i := 532) (by decide +kernel)⟩
theorem lw_p13 : lw_okq (⟨"ToadBank$LedgerReader", "addCash", "(LToadBank$Town;II)Z"⟩, 1) := ⟨⟨by decide +kernel, by decide +kernel⟩, List.mem_of_getElem? (i := 97) (by decide +kernel), List.mem_of_getElem? (i := 535) (by decide +kernel), List.mem_of_getElem? (i := 536) (by decide +kernel)⟩
theorem lw_p14 : lw_okq (⟨"ToadBank$LedgerReader", "addDebt", "(LToadBank$Town;II)Z"⟩, 1) := ⟨⟨by decide +kernel, by decide +kernel⟩, List.mem_of_getElem? (i := 97) (by decide +kernel), List.mem_of_getElem? (i := 547) (by decide +kernel), List.mem_of_getElem? (i := 548) (by decide +kernel)⟩
theorem lw_p15 : lw_okq (⟨"ToadBank$Months", "letCashFlow", "(LToadBank$Town;LToadBank$Law;LToadBank$Asker;)V"⟩, 2) := ⟨⟨by decide +kernel, by decide +kernel⟩, List.mem_of_getElem? (i := 179) (by decide +kernel), List.mem_of_getElem? (i := 569) (by decide +kernel), List.mem_of_getElem? (i := 570) (by decide +kernel)⟩
def lw_privs_1 : List (MethodName × Nat) := [(⟨"ToadBank$LawReader", "readRule", "(LToadBank$Tape;)Z"⟩, 1), (⟨"ToadBank$LawReader", "readSum", "(LToadBank$Tape;I)Z"⟩, 1), (⟨"ToadBank$LawReader", "readTerm", "(LToadBank$Tape;I)Z"⟩, 1), (⟨"ToadBank$LawReader", "readFactor", "(LToadBank$Tape;I)Z"⟩, 1), (⟨"ToadBank$LawReader", "isAskedLetter", "(I)Z"⟩, 1), (⟨"ToadBank$LawReader", "readCase", "(LToadBank$Tape;I)Z"⟩, 1), (⟨"ToadBank$LawReader", "readPart", "(LToadBank$Tape;I)Z"⟩, 1), (⟨"ToadBank$LawReader", "readTest", "(LToadBank$Tape;I)Z"⟩, 1), (⟨"ToadBank$LawReader", "readOpened", "(LToadBank$Tape;II)Z"⟩, 1), (⟨"ToadBank$LawReader", "startLink", "(LToadBank$Tape;I)I"⟩, 1), (⟨"ToadBank$LedgerReader", "readLine", "(LToadBank$Tape;LToadBank$Town;I)Z"⟩, 1), (⟨"ToadBank$LedgerReader", "readOther", "(LToadBank$Tape;LToadBank$Town;I)Z"⟩, 1), (⟨"ToadBank$LedgerReader", "carryOut", "(LToadBank$Town;III)Z"⟩, 1), (⟨"ToadBank$LedgerReader", "addCash", "(LToadBank$Town;II)Z"⟩, 1), (⟨"ToadBank$LedgerReader", "addDebt", "(LToadBank$Town;II)Z"⟩, 1), (⟨"ToadBank$Months", "letCashFlow", "(LToadBank$Town;LToadBank$Law;LToadBank$Asker;)V"⟩, 2)]
theorem lw_r1 : ∀ q ∈ lw_privs_1, lw_okq q := List.forall_mem_cons.mpr ⟨lw_p0, List.forall_mem_cons.mpr ⟨lw_p1, List.forall_mem_cons.mpr ⟨lw_p2, List.forall_mem_cons.mpr ⟨lw_p3, List.forall_mem_cons.mpr ⟨lw_p4, List.forall_mem_cons.mpr ⟨lw_p5, List.forall_mem_cons.mpr ⟨lw_p6, List.forall_mem_cons.mpr ⟨lw_p7, List.forall_mem_cons.mpr ⟨lw_p8, List.forall_mem_cons.mpr ⟨lw_p9, List.forall_mem_cons.mpr ⟨lw_p10, List.forall_mem_cons.mpr ⟨lw_p11, List.forall_mem_cons.mpr ⟨lw_p12, List.forall_mem_cons.mpr ⟨lw_p13, List.forall_mem_cons.mpr ⟨lw_p14, List.forall_mem_cons.mpr ⟨lw_p15, fun _ h => absurd h List.not_mem_nil⟩⟩⟩⟩⟩⟩⟩⟩⟩⟩⟩⟩⟩⟩⟩⟩
theorem lw_p16 : lw_okq (⟨"ToadBank$Asker", "reckon", "(LToadBank$Law;LToadBank$Town;II)I"⟩, 6) := ⟨⟨by decide +kernel, by decide +kernel⟩, List.mem_of_getElem? (i := 154) (by decide +kernel), List.mem_of_getElem? (i := 586) (by decide +kernel), List.mem_of_getElem? (i := 587) (by decide +kernel)⟩
theorem lw_p17 : lw_okq (⟨"ToadBank$Asker", "push", "(I)V"⟩, 6) := ⟨⟨by decide +kernel, by decide +kernel⟩, List.mem_of_getElem? (i := 154) (by decide +kernel), List.mem_of_getElem? (i := 594) (by decide +kernel), List.mem_of_getElem? (i := 595) (by decide +kernel)⟩
theorem lw_p18 : lw_okq (⟨"ToadBank$Asker", "topmost", "()I"⟩, 6) := ⟨⟨by decide +kernel, by decide +kernel⟩, List.mem_of_getElem? (i := 154) (by decide +kernel), List.mem_of_getElem? (i := 598) (by decide +kernel), List.mem_of_getElem? (i := 599) (by decide +kernel)⟩
theorem lw_p19 : lw_okq (⟨"ToadBank$Asker", "pop", "()I"⟩, 6) := ⟨⟨by decide +kernel, by decide +kernel⟩, List.mem_of_getElem? (i := 154) (by decide +kernel), List.mem_of_getElem? (i := 602) (by decide +kernel), List.mem_of_getElem? (i := 603) (by decide +kernel)⟩
theorem lw_p20 : lw_okq (⟨"ToadBank$Asker", "valueOf", "(LToadBank$Town;I)I"⟩, 6) := ⟨⟨by decide +kernel, by decide +kernel⟩, List.mem_of_getElem? (i := 154) (by decide +kernel), List.mem_of_getElem? (i := 606) (by decide +kernel), List.mem_of_getElem? (i := 607) (by decide +kernel)⟩
theorem lw_p21 : lw_okq (⟨"ToadBank$Asker", "doSign", "(I)V"⟩, 6) := ⟨⟨by decide +kernel, by decide +kernel⟩, List.mem_of_getElem? (i := 154) (by decide +kernel), List.mem_of_getElem? (i := 619) (by decide +kernel), List.mem_of_getElem? (i := 620) (by decide +kernel)⟩
theorem lw_p22 : lw_okq (⟨"ToadBank$Asker", "divide", "(III)V"⟩, 6) := ⟨⟨by decide +kernel, by decide +kernel⟩, List.mem_of_getElem? (i := 154) (by decide +kernel), List.mem_of_getElem? (i := 623) (by decide +kernel), List.mem_of_getElem? (i := 624) (by decide +kernel)⟩
theorem lw_p23 : lw_okq (⟨"ToadBank$Months", "letFall", "(LToadBank$Town;I)V"⟩, 2) := ⟨⟨by decide +kernel, by decide +kernel⟩, List.mem_of_getElem? (i := 179) (by decide +kernel), List.mem_of_getElem? (i := 640) (by decide +kernel), List.mem_of_getElem? (i := 641) (by decide +kernel)⟩
theorem lw_p24 : lw_okq (⟨"ToadBank$Months", "letDebtsGrow", "(LToadBank$Town;LToadBank$Law;LToadBank$Asker;)V"⟩, 2) := ⟨⟨by decide +kernel, by decide +kernel⟩, List.mem_of_getElem? (i := 179) (by decide +kernel), List.mem_of_getElem? (i := 651) (by decide +kernel), List.mem_of_getElem? (i := 652) (by decide +kernel)⟩
theorem lw_p25 : lw_okq (⟨"ToadBank$Months", "shutByLaw", "(LToadBank$Town;LToadBank$Law;LToadBank$Asker;)V"⟩, 2) := ⟨⟨by decide +kernel, by decide +kernel⟩, List.mem_of_getElem? (i := 179) (by decide +kernel), List.mem_of_getElem? (i := 658) (by decide +kernel), List.mem_of_getElem? (i := 659) (by decide +kernel)⟩
theorem lw_p26 : lw_okq (⟨"ToadBank$Town", "sharesOfAll", "(II)I"⟩, 8) := ⟨⟨by decide +kernel, by decide +kernel⟩, List.mem_of_getElem? (i := 58) (by decide +kernel), List.mem_of_getElem? (i := 702) (by decide +kernel), List.mem_of_getElem? (i := 703) (by decide +kernel)⟩
theorem lw_p27 : lw_okq (⟨"ToadBank$Clearing", "handOut", "()V"⟩, 7) := ⟨⟨by decide +kernel, by decide +kernel⟩, List.mem_of_getElem? (i := 194) (by decide +kernel), List.mem_of_getElem? (i := 737) (by decide +kernel), List.mem_of_getElem? (i := 738) (by decide +kernel)⟩
theorem lw_p28 : lw_okq (⟨"ToadBank$Clearing", "payLess", "(I)Z"⟩, 7) := ⟨⟨by decide +kernel, by decide +kernel⟩, List.mem_of_getElem? (i := 194) (by decide +kernel), List.mem_of_getElem? (i := 741) (by decide +kernel), List.mem_of_getElem? (i := 742) (by decide +kernel)⟩
theorem lw_p29 : lw_okq (⟨"ToadBank", "fallenByBlow", "(II)I"⟩, 14) := ⟨⟨by decide +kernel, by decide +kernel⟩, List.mem_of_getElem? (i := 18) (by decide +kernel), List.mem_of_getElem? (i := 771) (by decide +kernel), List.mem_of_getElem? (i := 772) (by decide +kernel)⟩
theorem lw_p30 : lw_okq (⟨"ToadBank$Parting", "sumOfWorths", "(I)I"⟩, 4) := ⟨⟨by decide +kernel, by decide +kernel⟩, List.mem_of_getElem? (i := 233) (by decide +kernel), List.mem_of_getElem? (i := 819) (by decide +kernel), List.mem_of_getElem? (i := 820) (by decide +kernel)⟩
theorem lw_p31 : lw_okq (⟨"ToadBank$Parting", "bestWithoutOne", "(I)I"⟩, 4) := ⟨⟨by decide +kernel, by decide +kernel⟩, List.mem_of_getElem? (i := 233) (by decide +kernel), List.mem_of_getElem? (i := 823) (by decide +kernel), List.mem_of_getElem? (i := 824) (by decide +kernel)⟩
def lw_privs_2 : List (MethodName × Nat) := [(⟨"ToadBank$Asker", "reckon", "(LToadBank$Law;LToadBank$Town;II)I"⟩, 6), (⟨"ToadBank$Asker", "push", "(I)V"⟩, 6), (⟨"ToadBank$Asker", "topmost", "()I"⟩, 6), (⟨"ToadBank$Asker", "pop", "()I"⟩, 6), (⟨"ToadBank$Asker", "valueOf", "(LToadBank$Town;I)I"⟩, 6), (⟨"ToadBank$Asker", "doSign", "(I)V"⟩, 6), (⟨"ToadBank$Asker", "divide", "(III)V"⟩, 6), (⟨"ToadBank$Months", "letFall", "(LToadBank$Town;I)V"⟩, 2), (⟨"ToadBank$Months", "letDebtsGrow", "(LToadBank$Town;LToadBank$Law;LToadBank$Asker;)V"⟩, 2), (⟨"ToadBank$Months", "shutByLaw", "(LToadBank$Town;LToadBank$Law;LToadBank$Asker;)V"⟩, 2), (⟨"ToadBank$Town", "sharesOfAll", "(II)I"⟩, 8), (⟨"ToadBank$Clearing", "handOut", "()V"⟩, 7), (⟨"ToadBank$Clearing", "payLess", "(I)Z"⟩, 7), (⟨"ToadBank", "fallenByBlow", "(II)I"⟩, 14), (⟨"ToadBank$Parting", "sumOfWorths", "(I)I"⟩, 4), (⟨"ToadBank$Parting", "bestWithoutOne", "(I)I"⟩, 4)]
theorem lw_r2 : ∀ q ∈ lw_privs_2, lw_okq q := List.forall_mem_cons.mpr ⟨lw_p16, List.forall_mem_cons.mpr ⟨lw_p17, List.forall_mem_cons.mpr ⟨lw_p18, List.forall_mem_cons.mpr ⟨lw_p19, List.forall_mem_cons.mpr ⟨lw_p20, List.forall_mem_cons.mpr ⟨lw_p21, List.forall_mem_cons.mpr ⟨lw_p22, List.forall_mem_cons.mpr ⟨lw_p23, List.forall_mem_cons.mpr ⟨lw_p24, List.forall_mem_cons.mpr ⟨lw_p25, List.forall_mem_cons.mpr ⟨lw_p26, List.forall_mem_cons.mpr ⟨lw_p27, List.forall_mem_cons.mpr ⟨lw_p28, List.forall_mem_cons.mpr ⟨lw_p29, List.forall_mem_cons.mpr ⟨lw_p30, List.forall_mem_cons.mpr ⟨lw_p31, fun _ h => absurd h List.not_mem_nil⟩⟩⟩⟩⟩⟩⟩⟩⟩⟩⟩⟩⟩⟩⟩⟩
theorem lw_p32 : lw_okq (⟨"ToadBank$Roads", "widestStep", "(LToadBank$Town;II)I"⟩, 1) := ⟨⟨by decide +kernel, by decide +kernel⟩, List.mem_of_getElem? (i := 223) (by decide +kernel), List.mem_of_getElem? (i := 836) (by decide +kernel), List.mem_of_getElem? (i := 837) (by decide +kernel)⟩
theorem lw_p33 : lw_okq (⟨"ToadBank$Parting", "leastCost", "(I)I"⟩, 4) := ⟨⟨by decide +kernel, by decide +kernel⟩, List.mem_of_getElem? (i := 233) (by decide +kernel), List.mem_of_getElem? (i := 870) (by decide +kernel), List.mem_of_getElem? (i := 871) (by decide +kernel)⟩
theorem lw_p34 : lw_okq (⟨"ToadBank$Parting", "lowestOf", "(I)I"⟩, 4) := ⟨⟨by decide +kernel, by decide +kernel⟩, List.mem_of_getElem? (i := 233) (by decide +kernel), List.mem_of_getElem? (i := 874) (by decide +kernel), List.mem_of_getElem? (i := 875) (by decide +kernel)⟩
theorem lw_p35 : lw_okq (⟨"ToadBank$Parting", "costOf", "(I)I"⟩, 4) := ⟨⟨by decide +kernel, by decide +kernel⟩, List.mem_of_getElem? (i := 233) (by decide +kernel), List.mem_of_getElem? (i := 878) (by decide +kernel), List.mem_of_getElem? (i := 879) (by decide +kernel)⟩
theorem lw_p36 : lw_okq (⟨"ToadBank", "findTampered", "(I)I"⟩, 14) := ⟨⟨by decide +kernel, by decide +kernel⟩, List.mem_of_getElem? (i := 18) (by decide +kernel), List.mem_of_getElem? (i := 905) (by decide +kernel), List.mem_of_getElem? (i := 906) (by decide +kernel)⟩
theorem lw_p37 : lw_okq (⟨"ToadBank", "fewestSums", "(II)I"⟩, 14) := ⟨⟨by decide +kernel, by decide +kernel⟩, List.mem_of_getElem? (i := 18) (by decide +kernel), List.mem_of_getElem? (i := 917) (by decide +kernel), List.mem_of_getElem? (i := 918) (by decide +kernel)⟩
theorem lw_p38 : lw_okq (⟨"ToadBank", "sumOf", "(II)I"⟩, 14) := ⟨⟨by decide +kernel, by decide +kernel⟩, List.mem_of_getElem? (i := 18) (by decide +kernel), List.mem_of_getElem? (i := 921) (by decide +kernel), List.mem_of_getElem? (i := 922) (by decide +kernel)⟩
theorem lw_p39 : lw_okq (⟨"ToadBank", "readBlinks", "(II)I"⟩, 14) := ⟨⟨by decide +kernel, by decide +kernel⟩, List.mem_of_getElem? (i := 18) (by decide +kernel), List.mem_of_getElem? (i := 958) (by decide +kernel), List.mem_of_getElem? (i := 959) (by decide +kernel)⟩
theorem lw_p40 : lw_okq (⟨"ToadBank$Codes", "standsAt", "(LToadBank$Tape;III)Z"⟩, 6) := ⟨⟨by decide +kernel, by decide +kernel⟩, List.mem_of_getElem? (i := 253) (by decide +kernel), List.mem_of_getElem? (i := 968) (by decide +kernel), List.mem_of_getElem? (i := 969) (by decide +kernel)⟩
theorem lw_p41 : lw_okq (⟨"ToadBank$Codes", "blinkOf", "(II)I"⟩, 6) := ⟨⟨by decide +kernel, by decide +kernel⟩, List.mem_of_getElem? (i := 253) (by decide +kernel), List.mem_of_getElem? (i := 976) (by decide +kernel), List.mem_of_getElem? (i := 977) (by decide +kernel)⟩
theorem lw_p42 : lw_okq (⟨"ToadBank$Codes", "stepsFrom", "(I)I"⟩, 6) := ⟨⟨by decide +kernel, by decide +kernel⟩, List.mem_of_getElem? (i := 253) (by decide +kernel), List.mem_of_getElem? (i := 985) (by decide +kernel), List.mem_of_getElem? (i := 986) (by decide +kernel)⟩
theorem lw_p43 : lw_okq (⟨"ToadBank$Codes", "leastSignAt", "(LToadBank$Tape;II)I"⟩, 6) := ⟨⟨by decide +kernel, by decide +kernel⟩, List.mem_of_getElem? (i := 253) (by decide +kernel), List.mem_of_getElem? (i := 998) (by decide +kernel), List.mem_of_getElem? (i := 999) (by decide +kernel)⟩
theorem lw_p44 : lw_okq (⟨"ToadBank$Codes", "begins", "(II)Z"⟩, 6) := ⟨⟨by decide +kernel, by decide +kernel⟩, List.mem_of_getElem? (i := 253) (by decide +kernel), List.mem_of_getElem? (i := 1010) (by decide +kernel), List.mem_of_getElem? (i := 1011) (by decide +kernel)⟩
theorem lw_p45 : lw_okq (⟨"ToadBank$Codes", "moveLeastToEnd", "(I)V"⟩, 6) := ⟨⟨by decide +kernel, by decide +kernel⟩, List.mem_of_getElem? (i := 253) (by decide +kernel), List.mem_of_getElem? (i := 1026) (by decide +kernel), List.mem_of_getElem? (i := 1027) (by decide +kernel)⟩
theorem lw_p46 : lw_okq (⟨"ToadBank$Codes", "costOfSpan", "(LToadBank$Tape;II)I"⟩, 6) := ⟨⟨by decide +kernel, by decide +kernel⟩, List.mem_of_getElem? (i := 253) (by decide +kernel), List.mem_of_getElem? (i := 1038) (by decide +kernel), List.mem_of_getElem? (i := 1039) (by decide +kernel)⟩
theorem lw_p47 : lw_okq (⟨"ToadBank$Codes", "cost", "(II)I"⟩, 6) := ⟨⟨by decide +kernel, by decide +kernel⟩, List.mem_of_getElem? (i := 253) (by decide +kernel), List.mem_of_getElem? (i := 1042) (by decide +kernel), List.mem_of_getElem? (i := 1043) (by decide +kernel)⟩
def lw_privs_3 : List (MethodName × Nat) := [(⟨"ToadBank$Roads", "widestStep", "(LToadBank$Town;II)I"⟩, 1), (⟨"ToadBank$Parting", "leastCost", "(I)I"⟩, 4), (⟨"ToadBank$Parting", "lowestOf", "(I)I"⟩, 4), (⟨"ToadBank$Parting", "costOf", "(I)I"⟩, 4), (⟨"ToadBank", "findTampered", "(I)I"⟩, 14), (⟨"ToadBank", "fewestSums", "(II)I"⟩, 14), (⟨"ToadBank", "sumOf", "(II)I"⟩, 14), (⟨"ToadBank", "readBlinks", "(II)I"⟩, 14), (⟨"ToadBank$Codes", "standsAt", "(LToadBank$Tape;III)Z"⟩, 6), (⟨"ToadBank$Codes", "blinkOf", "(II)I"⟩, 6), (⟨"ToadBank$Codes", "stepsFrom", "(I)I"⟩, 6), (⟨"ToadBank$Codes", "leastSignAt", "(LToadBank$Tape;II)I"⟩, 6), (⟨"ToadBank$Codes", "begins", "(II)Z"⟩, 6), (⟨"ToadBank$Codes", "moveLeastToEnd", "(I)V"⟩, 6), (⟨"ToadBank$Codes", "costOfSpan", "(LToadBank$Tape;II)I"⟩, 6), (⟨"ToadBank$Codes", "cost", "(II)I"⟩, 6)]
theorem lw_r3 : ∀ q ∈ lw_privs_3, lw_okq q := List.forall_mem_cons.mpr ⟨lw_p32, List.forall_mem_cons.mpr ⟨lw_p33, List.forall_mem_cons.mpr ⟨lw_p34, List.forall_mem_cons.mpr ⟨lw_p35, List.forall_mem_cons.mpr ⟨lw_p36, List.forall_mem_cons.mpr ⟨lw_p37, List.forall_mem_cons.mpr ⟨lw_p38, List.forall_mem_cons.mpr ⟨lw_p39, List.forall_mem_cons.mpr ⟨lw_p40, List.forall_mem_cons.mpr ⟨lw_p41, List.forall_mem_cons.mpr ⟨lw_p42, List.forall_mem_cons.mpr ⟨lw_p43, List.forall_mem_cons.mpr ⟨lw_p44, List.forall_mem_cons.mpr ⟨lw_p45, List.forall_mem_cons.mpr ⟨lw_p46, List.forall_mem_cons.mpr ⟨lw_p47, fun _ h => absurd h List.not_mem_nil⟩⟩⟩⟩⟩⟩⟩⟩⟩⟩⟩⟩⟩⟩⟩⟩
theorem lw_p48 : lw_okq (⟨"ToadBankModel", "areOpen", "(II)Z"⟩, 50) := ⟨⟨by decide +kernel, by decide +kernel⟩, List.mem_of_getElem? (i := 1072) (by decide +kernel), List.mem_of_getElem? (i := 1241) (by decide +kernel), List.mem_of_getElem? (i := 1242) (by decide +kernel)⟩
theorem lw_p49 : lw_okq (⟨"ToadBankModel", "isOpen", "(I)Z"⟩, 50) := ⟨⟨by decide +kernel, by decide +kernel⟩, List.mem_of_getElem? (i := 1072) (by decide +kernel), List.mem_of_getElem? (i := 1245) (by decide +kernel), List.mem_of_getElem? (i := 1246) (by decide +kernel)⟩
theorem lw_p50 : lw_okq (⟨"ToadBankModel", "isBank", "(I)Z"⟩, 50) := ⟨⟨by decide +kernel, by decide +kernel⟩, List.mem_of_getElem? (i := 1072) (by decide +kernel), List.mem_of_getElem? (i := 1249) (by decide +kernel), List.mem_of_getElem? (i := 1250) (by decide +kernel)⟩
theorem lw_p51 : lw_okq (⟨"ToadBankModel", "types", "(I)V"⟩, 50) := ⟨⟨by decide +kernel, by decide +kernel⟩, List.mem_of_getElem? (i := 1072) (by decide +kernel), List.mem_of_getElem? (i := 1270) (by decide +kernel), List.mem_of_getElem? (i := 1271) (by decide +kernel)⟩
theorem lw_p52 : lw_okq (⟨"ToadBankModel", "beginsText", "(I)V"⟩, 50) := ⟨⟨by decide +kernel, by decide +kernel⟩, List.mem_of_getElem? (i := 1072) (by decide +kernel), List.mem_of_getElem? (i := 1278) (by decide +kernel), List.mem_of_getElem? (i := 1279) (by decide +kernel)⟩
theorem lw_p53 : lw_okq (⟨"ToadBankModel", "readsRule", "()Z"⟩, 50) := ⟨⟨by decide +kernel, by decide +kernel⟩, List.mem_of_getElem? (i := 1072) (by decide +kernel), List.mem_of_getElem? (i := 1282) (by decide +kernel), List.mem_of_getElem? (i := 1283) (by decide +kernel)⟩
theorem lw_p54 : lw_okq (⟨"ToadBankModel", "here", "()I"⟩, 50) := ⟨⟨by decide +kernel, by decide +kernel⟩, List.mem_of_getElem? (i := 1072) (by decide +kernel), List.mem_of_getElem? (i := 1286) (by decide +kernel), List.mem_of_getElem? (i := 1287) (by decide +kernel)⟩
theorem lw_p55 : lw_okq (⟨"ToadBankModel", "wrongAt", "(II)Z"⟩, 50) := ⟨⟨by decide +kernel, by decide +kernel⟩, List.mem_of_getElem? (i := 1072) (by decide +kernel), List.mem_of_getElem? (i := 1290) (by decide +kernel), List.mem_of_getElem? (i := 1291) (by decide +kernel)⟩
theorem lw_p56 : lw_okq (⟨"ToadBankModel", "readsSum", "()Z"⟩, 50) := ⟨⟨by decide +kernel, by decide +kernel⟩, List.mem_of_getElem? (i := 1072) (by decide +kernel), List.mem_of_getElem? (i := 1294) (by decide +kernel), List.mem_of_getElem? (i := 1295) (by decide +kernel)⟩
theorem lw_p57 : lw_okq (⟨"ToadBankModel", "readsFactor", "()Z"⟩, 50) := ⟨⟨by decide +kernel, by decide +kernel⟩, List.mem_of_getElem? (i := 1072) (by decide +kernel), List.mem_of_getElem? (i := 1298) (by decide +kernel), List.mem_of_getElem? (i := 1299) (by decide +kernel)⟩
theorem lw_p58 : lw_okq (⟨"ToadBankModel", "opens", "(I)Z"⟩, 50) := ⟨⟨by decide +kernel, by decide +kernel⟩, List.mem_of_getElem? (i := 1072) (by decide +kernel), List.mem_of_getElem? (i := 1302) (by decide +kernel), List.mem_of_getElem? (i := 1303) (by decide +kernel)⟩
theorem lw_p59 : lw_okq (⟨"ToadBankModel", "isDigit", "()Z"⟩, 50) := ⟨⟨by decide +kernel, by decide +kernel⟩, List.mem_of_getElem? (i := 1072) (by decide +kernel), List.mem_of_getElem? (i := 1307) (by decide +kernel), List.mem_of_getElem? (i := 1308) (by decide +kernel)⟩
theorem lw_p60 : lw_okq (⟨"ToadBankModel", "readsNumber", "()Z"⟩, 50) := ⟨⟨by decide +kernel, by decide +kernel⟩, List.mem_of_getElem? (i := 1072) (by decide +kernel), List.mem_of_getElem? (i := 1311) (by decide +kernel), List.mem_of_getElem? (i := 1312) (by decide +kernel)⟩
theorem lw_p61 : lw_okq (⟨"ToadBankModel", "notes", "(II)V"⟩, 50) := ⟨⟨by decide +kernel, by decide +kernel⟩, List.mem_of_getElem? (i := 1072) (by decide +kernel), List.mem_of_getElem? (i := 1315) (by decide +kernel), List.mem_of_getElem? (i := 1316) (by decide +kernel)⟩
theorem lw_p62 : lw_okq (⟨"ToadBankModel", "closesSums", "(Z)V"⟩, 50) := ⟨⟨by decide +kernel, by decide +kernel⟩, List.mem_of_getElem? (i := 1072) (by decide +kernel), List.mem_of_getElem? (i := 1325) (by decide +kernel), List.mem_of_getElem? (i := 1326) (by decide +kernel)⟩
theorem lw_p63 : lw_okq (⟨"ToadBankModel", "waitTop", "()I"⟩, 50) := ⟨⟨by decide +kernel, by decide +kernel⟩, List.mem_of_getElem? (i := 1072) (by decide +kernel), List.mem_of_getElem? (i := 1329) (by decide +kernel), List.mem_of_getElem? (i := 1330) (by decide +kernel)⟩
def lw_privs_4 : List (MethodName × Nat) := [(⟨"ToadBankModel", "areOpen", "(II)Z"⟩, 50), (⟨"ToadBankModel", "isOpen", "(I)Z"⟩, 50), (⟨"ToadBankModel", "isBank", "(I)Z"⟩, 50), (⟨"ToadBankModel", "types", "(I)V"⟩, 50), (⟨"ToadBankModel", "beginsText", "(I)V"⟩, 50), (⟨"ToadBankModel", "readsRule", "()Z"⟩, 50), (⟨"ToadBankModel", "here", "()I"⟩, 50), (⟨"ToadBankModel", "wrongAt", "(II)Z"⟩, 50), (⟨"ToadBankModel", "readsSum", "()Z"⟩, 50), (⟨"ToadBankModel", "readsFactor", "()Z"⟩, 50), (⟨"ToadBankModel", "opens", "(I)Z"⟩, 50), (⟨"ToadBankModel", "isDigit", "()Z"⟩, 50), (⟨"ToadBankModel", "readsNumber", "()Z"⟩, 50), (⟨"ToadBankModel", "notes", "(II)V"⟩, 50), (⟨"ToadBankModel", "closesSums", "(Z)V"⟩, 50), (⟨"ToadBankModel", "waitTop", "()I"⟩, 50)]
theorem lw_r4 : ∀ q ∈ lw_privs_4, lw_okq q := List.forall_mem_cons.mpr ⟨lw_p48, List.forall_mem_cons.mpr ⟨lw_p49, List.forall_mem_cons.mpr ⟨lw_p50, List.forall_mem_cons.mpr ⟨lw_p51, List.forall_mem_cons.mpr ⟨lw_p52, List.forall_mem_cons.mpr ⟨lw_p53, List.forall_mem_cons.mpr ⟨lw_p54, List.forall_mem_cons.mpr ⟨lw_p55, List.forall_mem_cons.mpr ⟨lw_p56, List.forall_mem_cons.mpr ⟨lw_p57, List.forall_mem_cons.mpr ⟨lw_p58, List.forall_mem_cons.mpr ⟨lw_p59, List.forall_mem_cons.mpr ⟨lw_p60, List.forall_mem_cons.mpr ⟨lw_p61, List.forall_mem_cons.mpr ⟨lw_p62, List.forall_mem_cons.mpr ⟨lw_p63, fun _ h => absurd h List.not_mem_nil⟩⟩⟩⟩⟩⟩⟩⟩⟩⟩⟩⟩⟩⟩⟩⟩
theorem lw_p64 : lw_okq (⟨"ToadBankModel", "hasOpenSum", "(I)Z"⟩, 50) := ⟨⟨by decide +kernel, by decide +kernel⟩, List.mem_of_getElem? (i := 1072) (by decide +kernel), List.mem_of_getElem? (i := 1333) (by decide +kernel), List.mem_of_getElem? (i := 1334) (by decide +kernel)⟩
theorem lw_p65 : lw_okq (⟨"ToadBankModel", "readsCondition", "()Z"⟩, 50) := ⟨⟨by decide +kernel, by decide +kernel⟩, List.mem_of_getElem? (i := 1072) (by decide +kernel), List.mem_of_getElem? (i := 1337) (by decide +kernel), List.mem_of_getElem? (i := 1338) (by decide +kernel)⟩
theorem lw_p66 : lw_okq (⟨"ToadBankModel", "readsCompared", "()Z"⟩, 50) := ⟨⟨by decide +kernel, by decide +kernel⟩, List.mem_of_getElem? (i := 1072) (by decide +kernel), List.mem_of_getElem? (i := 1341) (by decide +kernel), List.mem_of_getElem? (i := 1342) (by decide +kernel)⟩
theorem lw_p67 : lw_okq (⟨"ToadBankModel", "endsPiece", "()V"⟩, 50) := ⟨⟨by decide +kernel, by decide +kernel⟩, List.mem_of_getElem? (i := 1072) (by decide +kernel), List.mem_of_getElem? (i := 1345) (by decide +kernel), List.mem_of_getElem? (i := 1346) (by decide +kernel)⟩
theorem lw_p68 : lw_okq (⟨"ToadBankModel", "lands", "(Z)V"⟩, 50) := ⟨⟨by decide +kernel, by decide +kernel⟩, List.mem_of_getElem? (i := 1072) (by decide +kernel), List.mem_of_getElem? (i := 1349) (by decide +kernel), List.mem_of_getElem? (i := 1350) (by decide +kernel)⟩
theorem lw_p69 : lw_okq (⟨"ToadBankModel", "jumps", "(I)V"⟩, 50) := ⟨⟨by decide +kernel, by decide +kernel⟩, List.mem_of_getElem? (i := 1072) (by decide +kernel), List.mem_of_getElem? (i := 1353) (by decide +kernel), List.mem_of_getElem? (i := 1354) (by decide +kernel)⟩
theorem lw_p70 : lw_okq (⟨"ToadBankModel", "takes", "(I)Z"⟩, 50) := ⟨⟨by decide +kernel, by decide +kernel⟩, List.mem_of_getElem? (i := 1072) (by decide +kernel), List.mem_of_getElem? (i := 1357) (by decide +kernel), List.mem_of_getElem? (i := 1358) (by decide +kernel)⟩
theorem lw_p71 : lw_okq (⟨"ToadBankModel", "readsLine", "()Z"⟩, 50) := ⟨⟨by decide +kernel, by decide +kernel⟩, List.mem_of_getElem? (i := 1072) (by decide +kernel), List.mem_of_getElem? (i := 1368) (by decide +kernel), List.mem_of_getElem? (i := 1369) (by decide +kernel)⟩
theorem lw_p72 : lw_okq (⟨"ToadBankModel", "readsBank", "()Z"⟩, 50) := ⟨⟨by decide +kernel, by decide +kernel⟩, List.mem_of_getElem? (i := 1072) (by decide +kernel), List.mem_of_getElem? (i := 1372) (by decide +kernel), List.mem_of_getElem? (i := 1373) (by decide +kernel)⟩
theorem lw_p73 : lw_okq (⟨"ToadBankModel", "readsAmount", "()Z"⟩, 50) := ⟨⟨by decide +kernel, by decide +kernel⟩, List.mem_of_getElem? (i := 1072) (by decide +kernel), List.mem_of_getElem? (i := 1376) (by decide +kernel), List.mem_of_getElem? (i := 1377) (by decide +kernel)⟩
theorem lw_p74 : lw_okq (⟨"ToadBankModel", "books", "(III)Z"⟩, 50) := ⟨⟨by decide +kernel, by decide +kernel⟩, List.mem_of_getElem? (i := 1072) (by decide +kernel), List.mem_of_getElem? (i := 1380) (by decide +kernel), List.mem_of_getElem? (i := 1381) (by decide +kernel)⟩
theorem lw_p75 : lw_okq (⟨"ToadBankModel", "monthsGo", "(I)V"⟩, 50) := ⟨⟨by decide +kernel, by decide +kernel⟩, List.mem_of_getElem? (i := 1072) (by decide +kernel), List.mem_of_getElem? (i := 1388) (by decide +kernel), List.mem_of_getElem? (i := 1389) (by decide +kernel)⟩
theorem lw_p76 : lw_okq (⟨"ToadBankModel", "monthGoes", "()V"⟩, 50) := ⟨⟨by decide +kernel, by decide +kernel⟩, List.mem_of_getElem? (i := 1072) (by decide +kernel), List.mem_of_getElem? (i := 1392) (by decide +kernel), List.mem_of_getElem? (i := 1393) (by decide +kernel)⟩
theorem lw_p77 : lw_okq (⟨"ToadBankModel", "earns", "(I)V"⟩, 50) := ⟨⟨by decide +kernel, by decide +kernel⟩, List.mem_of_getElem? (i := 1072) (by decide +kernel), List.mem_of_getElem? (i := 1396) (by decide +kernel), List.mem_of_getElem? (i := 1397) (by decide +kernel)⟩
theorem lw_p78 : lw_okq (⟨"ToadBankModel", "feels", "(I)V"⟩, 50) := ⟨⟨by decide +kernel, by decide +kernel⟩, List.mem_of_getElem? (i := 1072) (by decide +kernel), List.mem_of_getElem? (i := 1400) (by decide +kernel), List.mem_of_getElem? (i := 1401) (by decide +kernel)⟩
theorem lw_p79 : lw_okq (⟨"ToadBankModel", "owesAll", "(I)I"⟩, 50) := ⟨⟨by decide +kernel, by decide +kernel⟩, List.mem_of_getElem? (i := 1072) (by decide +kernel), List.mem_of_getElem? (i := 1404) (by decide +kernel), List.mem_of_getElem? (i := 1405) (by decide +kernel)⟩
def lw_privs_5 : List (MethodName × Nat) := [(⟨"ToadBankModel", "hasOpenSum", "(I)Z"⟩, 50), (⟨"ToadBankModel", "readsCondition", "()Z"⟩, 50), (⟨"ToadBankModel", "readsCompared", "()Z"⟩, 50), (⟨"ToadBankModel", "endsPiece", "()V"⟩, 50), (⟨"ToadBankModel", "lands", "(Z)V"⟩, 50), (⟨"ToadBankModel", "jumps", "(I)V"⟩, 50), (⟨"ToadBankModel", "takes", "(I)Z"⟩, 50), (⟨"ToadBankModel", "readsLine", "()Z"⟩, 50), (⟨"ToadBankModel", "readsBank", "()Z"⟩, 50), (⟨"ToadBankModel", "readsAmount", "()Z"⟩, 50), (⟨"ToadBankModel", "books", "(III)Z"⟩, 50), (⟨"ToadBankModel", "monthsGo", "(I)V"⟩, 50), (⟨"ToadBankModel", "monthGoes", "()V"⟩, 50), (⟨"ToadBankModel", "earns", "(I)V"⟩, 50), (⟨"ToadBankModel", "feels", "(I)V"⟩, 50), (⟨"ToadBankModel", "owesAll", "(I)I"⟩, 50)]
theorem lw_r5 : ∀ q ∈ lw_privs_5, lw_okq q := List.forall_mem_cons.mpr ⟨lw_p64, List.forall_mem_cons.mpr ⟨lw_p65, List.forall_mem_cons.mpr ⟨lw_p66, List.forall_mem_cons.mpr ⟨lw_p67, List.forall_mem_cons.mpr ⟨lw_p68, List.forall_mem_cons.mpr ⟨lw_p69, List.forall_mem_cons.mpr ⟨lw_p70, List.forall_mem_cons.mpr ⟨lw_p71, List.forall_mem_cons.mpr ⟨lw_p72, List.forall_mem_cons.mpr ⟨lw_p73, List.forall_mem_cons.mpr ⟨lw_p74, List.forall_mem_cons.mpr ⟨lw_p75, List.forall_mem_cons.mpr ⟨lw_p76, List.forall_mem_cons.mpr ⟨lw_p77, List.forall_mem_cons.mpr ⟨lw_p78, List.forall_mem_cons.mpr ⟨lw_p79, fun _ h => absurd h List.not_mem_nil⟩⟩⟩⟩⟩⟩⟩⟩⟩⟩⟩⟩⟩⟩⟩⟩
theorem lw_p80 : lw_okq (⟨"ToadBankModel", "getsAll", "(I)I"⟩, 50) := ⟨⟨by decide +kernel, by decide +kernel⟩, List.mem_of_getElem? (i := 1072) (by decide +kernel), List.mem_of_getElem? (i := 1408) (by decide +kernel), List.mem_of_getElem? (i := 1409) (by decide +kernel)⟩
theorem lw_p81 : lw_okq (⟨"ToadBankModel", "byLaw", "(II)I"⟩, 50) := ⟨⟨by decide +kernel, by decide +kernel⟩, List.mem_of_getElem? (i := 1072) (by decide +kernel), List.mem_of_getElem? (i := 1412) (by decide +kernel), List.mem_of_getElem? (i := 1413) (by decide +kernel)⟩
theorem lw_p82 : lw_okq (⟨"ToadBankModel", "comesTo", "(II)I"⟩, 50) := ⟨⟨by decide +kernel, by decide +kernel⟩, List.mem_of_getElem? (i := 1072) (by decide +kernel), List.mem_of_getElem? (i := 1416) (by decide +kernel), List.mem_of_getElem? (i := 1417) (by decide +kernel)⟩
theorem lw_p83 : lw_okq (⟨"ToadBankModel", "shuts", "(I)V"⟩, 50) := ⟨⟨by decide +kernel, by decide +kernel⟩, List.mem_of_getElem? (i := 1072) (by decide +kernel), List.mem_of_getElem? (i := 1427) (by decide +kernel), List.mem_of_getElem? (i := 1428) (by decide +kernel)⟩
theorem lw_p84 : lw_okq (⟨"ToadBankModel", "parts", "(I)V"⟩, 50) := ⟨⟨by decide +kernel, by decide +kernel⟩, List.mem_of_getElem? (i := 1072) (by decide +kernel), List.mem_of_getElem? (i := 1431) (by decide +kernel), List.mem_of_getElem? (i := 1432) (by decide +kernel)⟩
theorem lw_p85 : lw_okq (⟨"ToadBankModel", "grows", "(II)V"⟩, 50) := ⟨⟨by decide +kernel, by decide +kernel⟩, List.mem_of_getElem? (i := 1072) (by decide +kernel), List.mem_of_getElem? (i := 1435) (by decide +kernel), List.mem_of_getElem? (i := 1436) (by decide +kernel)⟩
theorem lw_p86 : lw_okq (⟨"ToadBankModel", "holdsAny", "(I)Z"⟩, 50) := ⟨⟨by decide +kernel, by decide +kernel⟩, List.mem_of_getElem? (i := 1072) (by decide +kernel), List.mem_of_getElem? (i := 1439) (by decide +kernel), List.mem_of_getElem? (i := 1440) (by decide +kernel)⟩
theorem lw_p87 : lw_okq (⟨"ToadBankModel", "allCash", "()I"⟩, 50) := ⟨⟨by decide +kernel, by decide +kernel⟩, List.mem_of_getElem? (i := 1072) (by decide +kernel), List.mem_of_getElem? (i := 1447) (by decide +kernel), List.mem_of_getElem? (i := 1448) (by decide +kernel)⟩
theorem lw_p88 : lw_okq (⟨"ToadBankModel", "allDebts", "()I"⟩, 50) := ⟨⟨by decide +kernel, by decide +kernel⟩, List.mem_of_getElem? (i := 1072) (by decide +kernel), List.mem_of_getElem? (i := 1451) (by decide +kernel), List.mem_of_getElem? (i := 1452) (by decide +kernel)⟩
theorem lw_p89 : lw_okq (⟨"ToadBankModel", "worthOf", "(I)I"⟩, 50) := ⟨⟨by decide +kernel, by decide +kernel⟩, List.mem_of_getElem? (i := 1072) (by decide +kernel), List.mem_of_getElem? (i := 1459) (by decide +kernel), List.mem_of_getElem? (i := 1460) (by decide +kernel)⟩
theorem lw_p90 : lw_okq (⟨"ToadBankModel", "controls", "(I)I"⟩, 50) := ⟨⟨by decide +kernel, by decide +kernel⟩, List.mem_of_getElem? (i := 1072) (by decide +kernel), List.mem_of_getElem? (i := 1464) (by decide +kernel), List.mem_of_getElem? (i := 1465) (by decide +kernel)⟩
theorem lw_p91 : lw_okq (⟨"ToadBankModel", "clears", "(II)I"⟩, 50) := ⟨⟨by decide +kernel, by decide +kernel⟩, List.mem_of_getElem? (i := 1072) (by decide +kernel), List.mem_of_getElem? (i := 1480) (by decide +kernel), List.mem_of_getElem? (i := 1481) (by decide +kernel)⟩
theorem lw_p92 : lw_okq (⟨"ToadBankModel", "paysLess", "()Z"⟩, 50) := ⟨⟨by decide +kernel, by decide +kernel⟩, List.mem_of_getElem? (i := 1072) (by decide +kernel), List.mem_of_getElem? (i := 1487) (by decide +kernel), List.mem_of_getElem? (i := 1488) (by decide +kernel)⟩
theorem lw_p93 : lw_okq (⟨"ToadBankModel", "laysGets", "()V"⟩, 50) := ⟨⟨by decide +kernel, by decide +kernel⟩, List.mem_of_getElem? (i := 1072) (by decide +kernel), List.mem_of_getElem? (i := 1491) (by decide +kernel), List.mem_of_getElem? (i := 1492) (by decide +kernel)⟩
theorem lw_p94 : lw_okq (⟨"ToadBankModel", "beginsAt", "(I)V"⟩, 50) := ⟨⟨by decide +kernel, by decide +kernel⟩, List.mem_of_getElem? (i := 1072) (by decide +kernel), List.mem_of_getElem? (i := 1526) (by decide +kernel), List.mem_of_getElem? (i := 1527) (by decide +kernel)⟩
theorem lw_p95 : lw_okq (⟨"ToadBankModel", "widens", "(I)V"⟩, 50) := ⟨⟨by decide +kernel, by decide +kernel⟩, List.mem_of_getElem? (i := 1072) (by decide +kernel), List.mem_of_getElem? (i := 1531) (by decide +kernel), List.mem_of_getElem? (i := 1532) (by decide +kernel)⟩
def lw_privs_6 : List (MethodName × Nat) := [(⟨"ToadBankModel", "getsAll", "(I)I"⟩, 50), (⟨"ToadBankModel", "byLaw", "(II)I"⟩, 50), (⟨"ToadBankModel", "comesTo", "(II)I"⟩, 50), (⟨"ToadBankModel", "shuts", "(I)V"⟩, 50), (⟨"ToadBankModel", "parts", "(I)V"⟩, 50), (⟨"ToadBankModel", "grows", "(II)V"⟩, 50), (⟨"ToadBankModel", "holdsAny", "(I)Z"⟩, 50), (⟨"ToadBankModel", "allCash", "()I"⟩, 50), (⟨"ToadBankModel", "allDebts", "()I"⟩, 50), (⟨"ToadBankModel", "worthOf", "(I)I"⟩, 50), (⟨"ToadBankModel", "controls", "(I)I"⟩, 50), (⟨"ToadBankModel", "clears", "(II)I"⟩, 50), (⟨"ToadBankModel", "paysLess", "()Z"⟩, 50), (⟨"ToadBankModel", "laysGets", "()V"⟩, 50), (⟨"ToadBankModel", "beginsAt", "(I)V"⟩, 50), (⟨"ToadBankModel", "widens", "(I)V"⟩, 50)]
theorem lw_r6 : ∀ q ∈ lw_privs_6, lw_okq q := List.forall_mem_cons.mpr ⟨lw_p80, List.forall_mem_cons.mpr ⟨lw_p81, List.forall_mem_cons.mpr ⟨lw_p82, List.forall_mem_cons.mpr ⟨lw_p83, List.forall_mem_cons.mpr ⟨lw_p84, List.forall_mem_cons.mpr ⟨lw_p85, List.forall_mem_cons.mpr ⟨lw_p86, List.forall_mem_cons.mpr ⟨lw_p87, List.forall_mem_cons.mpr ⟨lw_p88, List.forall_mem_cons.mpr ⟨lw_p89, List.forall_mem_cons.mpr ⟨lw_p90, List.forall_mem_cons.mpr ⟨lw_p91, List.forall_mem_cons.mpr ⟨lw_p92, List.forall_mem_cons.mpr ⟨lw_p93, List.forall_mem_cons.mpr ⟨lw_p94, List.forall_mem_cons.mpr ⟨lw_p95, fun _ h => absurd h List.not_mem_nil⟩⟩⟩⟩⟩⟩⟩⟩⟩⟩⟩⟩⟩⟩⟩⟩
theorem lw_p96 : lw_okq (⟨"ToadBankModel", "laysGroups", "()V"⟩, 50) := ⟨⟨by decide +kernel, by decide +kernel⟩, List.mem_of_getElem? (i := 1072) (by decide +kernel), List.mem_of_getElem? (i := 1547) (by decide +kernel), List.mem_of_getElem? (i := 1548) (by decide +kernel)⟩
theorem lw_p97 : lw_okq (⟨"ToadBankModel", "told", "(I)I"⟩, 50) := ⟨⟨by decide +kernel, by decide +kernel⟩, List.mem_of_getElem? (i := 1072) (by decide +kernel), List.mem_of_getElem? (i := 1559) (by decide +kernel), List.mem_of_getElem? (i := 1560) (by decide +kernel)⟩
theorem lw_p98 : lw_okq (⟨"ToadBankModel", "octet", "(I)I"⟩, 50) := ⟨⟨by decide +kernel, by decide +kernel⟩, List.mem_of_getElem? (i := 1072) (by decide +kernel), List.mem_of_getElem? (i := 1563) (by decide +kernel), List.mem_of_getElem? (i := 1564) (by decide +kernel)⟩
theorem lw_p99 : lw_okq (⟨"ToadBankModel", "noBlink", "(I)I"⟩, 50) := ⟨⟨by decide +kernel, by decide +kernel⟩, List.mem_of_getElem? (i := 1072) (by decide +kernel), List.mem_of_getElem? (i := 1586) (by decide +kernel), List.mem_of_getElem? (i := 1587) (by decide +kernel)⟩
theorem lw_p100 : lw_okq (⟨"ToadBankModel", "bitsAt", "(II)I"⟩, 50) := ⟨⟨by decide +kernel, by decide +kernel⟩, List.mem_of_getElem? (i := 1072) (by decide +kernel), List.mem_of_getElem? (i := 1590) (by decide +kernel), List.mem_of_getElem? (i := 1591) (by decide +kernel)⟩
theorem lw_p101 : lw_okq (⟨"ToadBankModel", "laysBlinks", "(I)V"⟩, 50) := ⟨⟨by decide +kernel, by decide +kernel⟩, List.mem_of_getElem? (i := 1072) (by decide +kernel), List.mem_of_getElem? (i := 1598) (by decide +kernel), List.mem_of_getElem? (i := 1599) (by decide +kernel)⟩
theorem lw_p102 : lw_okq (⟨"ToadBankModel", "beginsWith", "(II)Z"⟩, 50) := ⟨⟨by decide +kernel, by decide +kernel⟩, List.mem_of_getElem? (i := 1072) (by decide +kernel), List.mem_of_getElem? (i := 1607) (by decide +kernel), List.mem_of_getElem? (i := 1608) (by decide +kernel)⟩
theorem lw_p103 : lw_okq (⟨"ToadBankModel", "leastOf", "(II)I"⟩, 50) := ⟨⟨by decide +kernel, by decide +kernel⟩, List.mem_of_getElem? (i := 1072) (by decide +kernel), List.mem_of_getElem? (i := 1615) (by decide +kernel), List.mem_of_getElem? (i := 1616) (by decide +kernel)⟩
theorem lw_p104 : lw_okq (⟨"ToadBankModel", "sumBetween", "(II)I"⟩, 50) := ⟨⟨by decide +kernel, by decide +kernel⟩, List.mem_of_getElem? (i := 1072) (by decide +kernel), List.mem_of_getElem? (i := 1623) (by decide +kernel), List.mem_of_getElem? (i := 1624) (by decide +kernel)⟩
def lw_privs_7 : List (MethodName × Nat) := [(⟨"ToadBankModel", "laysGroups", "()V"⟩, 50), (⟨"ToadBankModel", "told", "(I)I"⟩, 50), (⟨"ToadBankModel", "octet", "(I)I"⟩, 50), (⟨"ToadBankModel", "noBlink", "(I)I"⟩, 50), (⟨"ToadBankModel", "bitsAt", "(II)I"⟩, 50), (⟨"ToadBankModel", "laysBlinks", "(I)V"⟩, 50), (⟨"ToadBankModel", "beginsWith", "(II)Z"⟩, 50), (⟨"ToadBankModel", "leastOf", "(II)I"⟩, 50), (⟨"ToadBankModel", "sumBetween", "(II)I"⟩, 50)]
theorem lw_r7 : ∀ q ∈ lw_privs_7, lw_okq q := List.forall_mem_cons.mpr ⟨lw_p96, List.forall_mem_cons.mpr ⟨lw_p97, List.forall_mem_cons.mpr ⟨lw_p98, List.forall_mem_cons.mpr ⟨lw_p99, List.forall_mem_cons.mpr ⟨lw_p100, List.forall_mem_cons.mpr ⟨lw_p101, List.forall_mem_cons.mpr ⟨lw_p102, List.forall_mem_cons.mpr ⟨lw_p103, List.forall_mem_cons.mpr ⟨lw_p104, fun _ h => absurd h List.not_mem_nil⟩⟩⟩⟩⟩⟩⟩⟩⟩
def lw_privs : List (MethodName × Nat) := lw_privs_1 ++ (lw_privs_2 ++ (lw_privs_3 ++ (lw_privs_4 ++ (lw_privs_5 ++ (lw_privs_6 ++ (lw_privs_7))))))
def lw_tbl : List Cond := k2_sels lw_privs ++ tables_1
theorem lw_privs_ok : ∀ q ∈ lw_privs, lw_okq q := by
  show ∀ q ∈ lw_privs_1 ++ (lw_privs_2 ++ (lw_privs_3 ++ (lw_privs_4 ++ (lw_privs_5 ++ (lw_privs_6 ++ (lw_privs_7)))))), lw_okq q
  exact List.forall_mem_append.mpr ⟨lw_r1, List.forall_mem_append.mpr ⟨lw_r2, List.forall_mem_append.mpr ⟨lw_r3, List.forall_mem_append.mpr ⟨lw_r4, List.forall_mem_append.mpr ⟨lw_r5, List.forall_mem_append.mpr ⟨lw_r6, lw_r7⟩⟩⟩⟩⟩⟩
end
section
def RX0 : String := "ToadBank$Asker"
def TX0 : u_T := fun k => match k with
  | 0 => ("ToadBank$Asker", "stack", "[I", true)
  | 1 => ("ToadBank$Asker", "top", "I", false)
  | 2 => ("ToadBank$Asker", "refused", "Z", false)
  | 3 => ("ToadBank$Asker", "b", "I", false)
  | 4 => ("ToadBank$Asker", "to", "I", false)
  | _ => ("ToadBank$Asker", "debt", "I", false)
def tyX0 : Nat → FieldType := fun k => match k with
  | 0 => .array .int
  | 1 => .int
  | 2 => .boolean
  | 3 => .int
  | 4 => .int
  | _ => .int
theorem nmX0 : ∀ a, a < 6 → ∀ b, b < 6 → a ≠ b → (TX0 a).2.1 ≠ (TX0 b).2.1 := by decide +kernel
theorem tyX0_ok : ∀ k, k < 6 → parseFieldDescriptor (TX0 k).2.2.1 = some (tyX0 k) := by decide +kernel
abbrev cX0_init : ByteArray := prog_2_method_1_code
def yX0_init : MethodName := ⟨RX0, "<init>", "()V"⟩
abbrev cX0_askOfBank : ByteArray := prog_2_method_2_code
def yX0_askOfBank : MethodName := ⟨RX0, "askOfBank", "(I)V"⟩
abbrev cX0_askOfDebt : ByteArray := prog_2_method_3_code
def yX0_askOfDebt : MethodName := ⟨RX0, "askOfDebt", "(III)V"⟩
abbrev cX0_amount : ByteArray := prog_2_method_4_code
def yX0_amount : MethodName := ⟨RX0, "amount", "(LToadBank$Law;LToadBank$Town;II)I"⟩
abbrev cX0_anyHolds : ByteArray := prog_2_method_5_code
def yX0_anyHolds : MethodName := ⟨RX0, "anyHolds", "(LToadBank$Law;LToadBank$Town;I)Z"⟩
abbrev cX0_reckon : ByteArray := prog_2_method_6_code
def yX0_reckon : MethodName := ⟨RX0, "reckon", "(LToadBank$Law;LToadBank$Town;II)I"⟩
abbrev cX0_push : ByteArray := prog_2_method_7_code
def yX0_push : MethodName := ⟨RX0, "push", "(I)V"⟩
abbrev cX0_topmost : ByteArray := prog_2_method_8_code
def yX0_topmost : MethodName := ⟨RX0, "topmost", "()I"⟩
abbrev cX0_pop : ByteArray := prog_2_method_9_code
def yX0_pop : MethodName := ⟨RX0, "pop", "()I"⟩
abbrev cX0_valueOf : ByteArray := prog_2_method_10_code
def yX0_valueOf : MethodName := ⟨RX0, "valueOf", "(LToadBank$Town;I)I"⟩
abbrev cX0_doSign : ByteArray := prog_2_method_11_code
def yX0_doSign : MethodName := ⟨RX0, "doSign", "(I)V"⟩
abbrev cX0_divide : ByteArray := prog_2_method_12_code
def yX0_divide : MethodName := ⟨RX0, "divide", "(III)V"⟩
def RX1 : String := "ToadBank$Clearing"
def TX1 : u_T := fun k => match k with
  | 0 => ("ToadBank$Clearing", "debts", "[I", true)
  | 1 => ("ToadBank$Clearing", "cash", "[I", true)
  | 2 => ("ToadBank$Clearing", "owed", "[I", true)
  | 3 => ("ToadBank$Clearing", "paid", "[I", true)
  | 4 => ("ToadBank$Clearing", "gotten", "[I", true)
  | 5 => ("ToadBank$Clearing", "falls", "[I", true)
  | _ => ("ToadBank$Clearing", "rounds", "I", false)
def tyX1 : Nat → FieldType := fun k => match k with
  | 0 => .array .int
  | 1 => .array .int
  | 2 => .array .int
  | 3 => .array .int
  | 4 => .array .int
  | 5 => .array .int
  | _ => .int
theorem nmX1 : ∀ a, a < 7 → ∀ b, b < 7 → a ≠ b → (TX1 a).2.1 ≠ (TX1 b).2.1 := by decide +kernel
theorem tyX1_ok : ∀ k, k < 7 → parseFieldDescriptor (TX1 k).2.2.1 = some (tyX1 k) := by decide +kernel
abbrev cX1_init : ByteArray := prog_3_method_1_code
def yX1_init : MethodName := ⟨RX1, "<init>", "()V"⟩
abbrev cX1_takeIn : ByteArray := prog_3_method_2_code
def yX1_takeIn : MethodName := ⟨RX1, "takeIn", "(LToadBank$Town;)V"⟩
abbrev cX1_strike : ByteArray := prog_3_method_3_code
def yX1_strike : MethodName := ⟨RX1, "strike", "(II)V"⟩
abbrev cX1_payAtOnce : ByteArray := prog_3_method_4_code
def yX1_payAtOnce : MethodName := ⟨RX1, "payAtOnce", "()V"⟩
abbrev cX1_handOut : ByteArray := prog_3_method_5_code
def yX1_handOut : MethodName := ⟨RX1, "handOut", "()V"⟩
abbrev cX1_payLess : ByteArray := prog_3_method_6_code
def yX1_payLess : MethodName := ⟨RX1, "payLess", "(I)Z"⟩
abbrev cX1_paidBy : ByteArray := prog_3_method_7_code
def yX1_paidBy : MethodName := ⟨RX1, "paidBy", "(I)I"⟩
abbrev cX1_gottenBy : ByteArray := prog_3_method_8_code
def yX1_gottenBy : MethodName := ⟨RX1, "gottenBy", "(I)I"⟩
abbrev cX1_roundOfFall : ByteArray := prog_3_method_9_code
def yX1_roundOfFall : MethodName := ⟨RX1, "roundOfFall", "(I)I"⟩
abbrev cX1_fallen : ByteArray := prog_3_method_10_code
def yX1_fallen : MethodName := ⟨RX1, "fallen", "()I"⟩
def RX2 : String := "ToadBank$Codes"
def TX2 : u_T := fun k => match k with
  | 0 => ("ToadBank$Codes", "lengths", "[I", true)
  | 1 => ("ToadBank$Codes", "blinksOfSigns", "[I", true)
  | 2 => ("ToadBank$Codes", "ways", "[I", true)
  | 3 => ("ToadBank$Codes", "fewest", "[I", true)
  | 4 => ("ToadBank$Codes", "weights", "[I", true)
  | _ => ("ToadBank$Codes", "costs", "[I", true)
def tyX2 : Nat → FieldType := fun k => match k with
  | 0 => .array .int
  | 1 => .array .int
  | 2 => .array .int
  | 3 => .array .int
  | 4 => .array .int
  | _ => .array .int
theorem nmX2 : ∀ a, a < 6 → ∀ b, b < 6 → a ≠ b → (TX2 a).2.1 ≠ (TX2 b).2.1 := by decide +kernel
theorem tyX2_ok : ∀ k, k < 6 → parseFieldDescriptor (TX2 k).2.2.1 = some (tyX2 k) := by decide +kernel
abbrev cX2_init : ByteArray := prog_4_method_1_code
def yX2_init : MethodName := ⟨RX2, "<init>", "()V"⟩
abbrev cX2_tell : ByteArray := prog_4_method_2_code
def yX2_tell : MethodName := ⟨RX2, "tell", "(ILToadBank$Tape;I)V"⟩
abbrev cX2_lengthOf : ByteArray := prog_4_method_3_code
def yX2_lengthOf : MethodName := ⟨RX2, "lengthOf", "(I)I"⟩
abbrev cX2_blinkOf : ByteArray := prog_4_method_4_code
def yX2_blinkOf : MethodName := ⟨RX2, "blinkOf", "(II)I"⟩
abbrev cX2_toldBits : ByteArray := prog_4_method_5_code
def yX2_toldBits : MethodName := ⟨RX2, "toldBits", "()I"⟩
abbrev cX2_readAll : ByteArray := prog_4_method_6_code
def yX2_readAll : MethodName := ⟨RX2, "readAll", "(LToadBank$Tape;I)V"⟩
abbrev cX2_standsAt : ByteArray := prog_4_method_7_code
def yX2_standsAt : MethodName := ⟨RX2, "standsAt", "(LToadBank$Tape;III)Z"⟩
abbrev cX2_waysFrom : ByteArray := prog_4_method_8_code
def yX2_waysFrom : MethodName := ⟨RX2, "waysFrom", "(I)I"⟩
abbrev cX2_stepsFrom : ByteArray := prog_4_method_9_code
def yX2_stepsFrom : MethodName := ⟨RX2, "stepsFrom", "(I)I"⟩
abbrev cX2_fewestFrom : ByteArray := prog_4_method_10_code
def yX2_fewestFrom : MethodName := ⟨RX2, "fewestFrom", "(I)I"⟩
abbrev cX2_signAtPlace : ByteArray := prog_4_method_11_code
def yX2_signAtPlace : MethodName := ⟨RX2, "signAtPlace", "(LToadBank$Tape;II)I"⟩
abbrev cX2_leastSignAt : ByteArray := prog_4_method_12_code
def yX2_leastSignAt : MethodName := ⟨RX2, "leastSignAt", "(LToadBank$Tape;II)I"⟩
abbrev cX2_areReadAtOnce : ByteArray := prog_4_method_13_code
def yX2_areReadAtOnce : MethodName := ⟨RX2, "areReadAtOnce", "()Z"⟩
abbrev cX2_begins : ByteArray := prog_4_method_14_code
def yX2_begins : MethodName := ⟨RX2, "begins", "(II)Z"⟩
abbrev cX2_shortestOf : ByteArray := prog_4_method_15_code
def yX2_shortestOf : MethodName := ⟨RX2, "shortestOf", "(LToadBank$Tape;I)I"⟩
abbrev cX2_moveLeastToEnd : ByteArray := prog_4_method_16_code
def yX2_moveLeastToEnd : MethodName := ⟨RX2, "moveLeastToEnd", "(I)V"⟩
abbrev cX2_shortestInOrder : ByteArray := prog_4_method_17_code
def yX2_shortestInOrder : MethodName := ⟨RX2, "shortestInOrder", "(LToadBank$Tape;I)I"⟩
abbrev cX2_costOfSpan : ByteArray := prog_4_method_18_code
def yX2_costOfSpan : MethodName := ⟨RX2, "costOfSpan", "(LToadBank$Tape;II)I"⟩
abbrev cX2_cost : ByteArray := prog_4_method_19_code
def yX2_cost : MethodName := ⟨RX2, "cost", "(II)I"⟩
def RX3 : String := "ToadBank$Law"
def TX3 : u_T := fun k => match k with
  | 0 => ("ToadBank$Law", "letters", "[I", true)
  | 1 => ("ToadBank$Law", "amountStarts", "[I", true)
  | 2 => ("ToadBank$Law", "caseStarts", "[I", true)
  | 3 => ("ToadBank$Law", "ends", "[I", true)
  | 4 => ("ToadBank$Law", "signs", "[I", true)
  | 5 => ("ToadBank$Law", "rules", "I", false)
  | _ => ("ToadBank$Law", "size", "I", false)
def tyX3 : Nat → FieldType := fun k => match k with
  | 0 => .array .int
  | 1 => .array .int
  | 2 => .array .int
  | 3 => .array .int
  | 4 => .array .int
  | 5 => .int
  | _ => .int
theorem nmX3 : ∀ a, a < 7 → ∀ b, b < 7 → a ≠ b → (TX3 a).2.1 ≠ (TX3 b).2.1 := by decide +kernel
theorem tyX3_ok : ∀ k, k < 7 → parseFieldDescriptor (TX3 k).2.2.1 = some (tyX3 k) := by decide +kernel
abbrev cX3_init : ByteArray := prog_5_method_1_code
def yX3_init : MethodName := ⟨RX3, "<init>", "()V"⟩
abbrev cX3_clear : ByteArray := prog_5_method_2_code
def yX3_clear : MethodName := ⟨RX3, "clear", "()V"⟩
abbrev cX3_copyFrom : ByteArray := prog_5_method_3_code
def yX3_copyFrom : MethodName := ⟨RX3, "copyFrom", "(LToadBank$Law;)V"⟩
abbrev cX3_startRule : ByteArray := prog_5_method_4_code
def yX3_startRule : MethodName := ⟨RX3, "startRule", "(I)V"⟩
abbrev cX3_startCase : ByteArray := prog_5_method_5_code
def yX3_startCase : MethodName := ⟨RX3, "startCase", "()V"⟩
abbrev cX3_endRule : ByteArray := prog_5_method_6_code
def yX3_endRule : MethodName := ⟨RX3, "endRule", "()V"⟩
abbrev cX3_add : ByteArray := prog_5_method_7_code
def yX3_add : MethodName := ⟨RX3, "add", "(I)V"⟩
abbrev cX3_set : ByteArray := prog_5_method_8_code
def yX3_set : MethodName := ⟨RX3, "set", "(II)V"⟩
abbrev cX3_sign : ByteArray := prog_5_method_9_code
def yX3_sign : MethodName := ⟨RX3, "sign", "(I)I"⟩
def RX4 : String := "ToadBank$LawReader"
def TX4 : u_T := fun k => match k with
  | _ => ("ToadBank$LawReader", "draft", "LToadBank$Law;", true)
def tyX4 : Nat → FieldType := fun k => match k with
  | _ => .object "ToadBank$Law"
theorem nmX4 : ∀ a, a < 1 → ∀ b, b < 1 → a ≠ b → (TX4 a).2.1 ≠ (TX4 b).2.1 := by decide +kernel
theorem tyX4_ok : ∀ k, k < 1 → parseFieldDescriptor (TX4 k).2.2.1 = some (tyX4 k) := by decide +kernel
abbrev cX4_init : ByteArray := prog_6_method_1_code
def yX4_init : MethodName := ⟨RX4, "<init>", "()V"⟩
abbrev cX4_read : ByteArray := prog_6_method_2_code
def yX4_read : MethodName := ⟨RX4, "read", "(LToadBank$Tape;I)I"⟩
abbrev cX4_readRule : ByteArray := prog_6_method_3_code
def yX4_readRule : MethodName := ⟨RX4, "readRule", "(LToadBank$Tape;)Z"⟩
abbrev cX4_readCase : ByteArray := prog_6_method_4_code
def yX4_readCase : MethodName := ⟨RX4, "readCase", "(LToadBank$Tape;I)Z"⟩
abbrev cX4_readPart : ByteArray := prog_6_method_5_code
def yX4_readPart : MethodName := ⟨RX4, "readPart", "(LToadBank$Tape;I)Z"⟩
abbrev cX4_startLink : ByteArray := prog_6_method_6_code
def yX4_startLink : MethodName := ⟨RX4, "startLink", "(LToadBank$Tape;I)I"⟩
abbrev cX4_readTest : ByteArray := prog_6_method_7_code
def yX4_readTest : MethodName := ⟨RX4, "readTest", "(LToadBank$Tape;I)Z"⟩
abbrev cX4_readOpened : ByteArray := prog_6_method_8_code
def yX4_readOpened : MethodName := ⟨RX4, "readOpened", "(LToadBank$Tape;II)Z"⟩
abbrev cX4_readSum : ByteArray := prog_6_method_9_code
def yX4_readSum : MethodName := ⟨RX4, "readSum", "(LToadBank$Tape;I)Z"⟩
abbrev cX4_readTerm : ByteArray := prog_6_method_10_code
def yX4_readTerm : MethodName := ⟨RX4, "readTerm", "(LToadBank$Tape;I)Z"⟩
abbrev cX4_readFactor : ByteArray := prog_6_method_11_code
def yX4_readFactor : MethodName := ⟨RX4, "readFactor", "(LToadBank$Tape;I)Z"⟩
abbrev cX4_isAskedLetter : ByteArray := prog_6_method_12_code
def yX4_isAskedLetter : MethodName := ⟨RX4, "isAskedLetter", "(I)Z"⟩
def RX5 : String := "ToadBank$LedgerReader"
def TX5 : u_T := fun k => match k with
  | _ => ("ToadBank$LedgerReader", "other", "I", false)
def tyX5 : Nat → FieldType := fun k => match k with
  | _ => .int
theorem nmX5 : ∀ a, a < 1 → ∀ b, b < 1 → a ≠ b → (TX5 a).2.1 ≠ (TX5 b).2.1 := by decide +kernel
theorem tyX5_ok : ∀ k, k < 1 → parseFieldDescriptor (TX5 k).2.2.1 = some (tyX5 k) := by decide +kernel
abbrev cX5_init : ByteArray := prog_7_method_1_code
def yX5_init : MethodName := ⟨RX5, "<init>", "()V"⟩
abbrev cX5_read : ByteArray := prog_7_method_2_code
def yX5_read : MethodName := ⟨RX5, "read", "(LToadBank$Tape;ILToadBank$Town;)I"⟩
abbrev cX5_readLine : ByteArray := prog_7_method_3_code
def yX5_readLine : MethodName := ⟨RX5, "readLine", "(LToadBank$Tape;LToadBank$Town;I)Z"⟩
abbrev cX5_readOther : ByteArray := prog_7_method_4_code
def yX5_readOther : MethodName := ⟨RX5, "readOther", "(LToadBank$Tape;LToadBank$Town;I)Z"⟩
abbrev cX5_carryOut : ByteArray := prog_7_method_5_code
def yX5_carryOut : MethodName := ⟨RX5, "carryOut", "(LToadBank$Town;III)Z"⟩
abbrev cX5_addCash : ByteArray := prog_7_method_6_code
def yX5_addCash : MethodName := ⟨RX5, "addCash", "(LToadBank$Town;II)Z"⟩
abbrev cX5_addDebt : ByteArray := prog_7_method_7_code
def yX5_addDebt : MethodName := ⟨RX5, "addDebt", "(LToadBank$Town;II)Z"⟩
def RX6 : String := "ToadBank$Months"
def TX6 : u_T := fun k => match k with
  | 0 => ("ToadBank$Months", "shut", "I", false)
  | _ => ("ToadBank$Months", "runs", "I", false)
def tyX6 : Nat → FieldType := fun k => match k with
  | 0 => .int
  | _ => .int
theorem nmX6 : ∀ a, a < 2 → ∀ b, b < 2 → a ≠ b → (TX6 a).2.1 ≠ (TX6 b).2.1 := by decide +kernel
theorem tyX6_ok : ∀ k, k < 2 → parseFieldDescriptor (TX6 k).2.2.1 = some (tyX6 k) := by decide +kernel
abbrev cX6_init : ByteArray := prog_8_method_1_code
def yX6_init : MethodName := ⟨RX6, "<init>", "()V"⟩
abbrev cX6_run : ByteArray := prog_8_method_2_code
def yX6_run : MethodName := ⟨RX6, "run", "(LToadBank$Town;LToadBank$Law;LToadBank$Asker;I)V"⟩
abbrev cX6_letCashFlow : ByteArray := prog_8_method_3_code
def yX6_letCashFlow : MethodName := ⟨RX6, "letCashFlow", "(LToadBank$Town;LToadBank$Law;LToadBank$Asker;)V"⟩
abbrev cX6_letDebtsGrow : ByteArray := prog_8_method_4_code
def yX6_letDebtsGrow : MethodName := ⟨RX6, "letDebtsGrow", "(LToadBank$Town;LToadBank$Law;LToadBank$Asker;)V"⟩
abbrev cX6_shutByLaw : ByteArray := prog_8_method_5_code
def yX6_shutByLaw : MethodName := ⟨RX6, "shutByLaw", "(LToadBank$Town;LToadBank$Law;LToadBank$Asker;)V"⟩
abbrev cX6_letFall : ByteArray := prog_8_method_6_code
def yX6_letFall : MethodName := ⟨RX6, "letFall", "(LToadBank$Town;I)V"⟩
def RX7 : String := "ToadBank$Parting"
def TX7 : u_T := fun k => match k with
  | 0 => ("ToadBank$Parting", "worths", "[I", true)
  | 1 => ("ToadBank$Parting", "sums", "[I", true)
  | 2 => ("ToadBank$Parting", "best", "[I", true)
  | _ => ("ToadBank$Parting", "unsettled", "I", false)
def tyX7 : Nat → FieldType := fun k => match k with
  | 0 => .array .int
  | 1 => .array .int
  | 2 => .array .int
  | _ => .int
theorem nmX7 : ∀ a, a < 4 → ∀ b, b < 4 → a ≠ b → (TX7 a).2.1 ≠ (TX7 b).2.1 := by decide +kernel
theorem tyX7_ok : ∀ k, k < 4 → parseFieldDescriptor (TX7 k).2.2.1 = some (tyX7 k) := by decide +kernel
abbrev cX7_init : ByteArray := prog_9_method_1_code
def yX7_init : MethodName := ⟨RX7, "<init>", "()V"⟩
abbrev cX7_groupsOf : ByteArray := prog_9_method_2_code
def yX7_groupsOf : MethodName := ⟨RX7, "groupsOf", "(LToadBank$Town;)I"⟩
abbrev cX7_sumOfWorths : ByteArray := prog_9_method_3_code
def yX7_sumOfWorths : MethodName := ⟨RX7, "sumOfWorths", "(I)I"⟩
abbrev cX7_bestWithoutOne : ByteArray := prog_9_method_4_code
def yX7_bestWithoutOne : MethodName := ⟨RX7, "bestWithoutOne", "(I)I"⟩
abbrev cX7_pairUp : ByteArray := prog_9_method_5_code
def yX7_pairUp : MethodName := ⟨RX7, "pairUp", "(LToadBank$Town;I)V"⟩
abbrev cX7_leastCost : ByteArray := prog_9_method_6_code
def yX7_leastCost : MethodName := ⟨RX7, "leastCost", "(I)I"⟩
abbrev cX7_lowestOf : ByteArray := prog_9_method_7_code
def yX7_lowestOf : MethodName := ⟨RX7, "lowestOf", "(I)I"⟩
abbrev cX7_costOf : ByteArray := prog_9_method_8_code
def yX7_costOf : MethodName := ⟨RX7, "costOf", "(I)I"⟩
abbrev cX7_badOf : ByteArray := prog_9_method_9_code
def yX7_badOf : MethodName := ⟨RX7, "badOf", "(I)I"⟩
abbrev cX7_twosOf : ByteArray := prog_9_method_10_code
def yX7_twosOf : MethodName := ⟨RX7, "twosOf", "(I)I"⟩
def RX8 : String := "ToadBank$Roads"
def TX8 : u_T := fun k => match k with
  | _ => ("ToadBank$Roads", "widths", "[I", true)
def tyX8 : Nat → FieldType := fun k => match k with
  | _ => .array .int
theorem nmX8 : ∀ a, a < 1 → ∀ b, b < 1 → a ≠ b → (TX8 a).2.1 ≠ (TX8 b).2.1 := by decide +kernel
theorem tyX8_ok : ∀ k, k < 1 → parseFieldDescriptor (TX8 k).2.2.1 = some (tyX8 k) := by decide +kernel
abbrev cX8_init : ByteArray := prog_10_method_1_code
def yX8_init : MethodName := ⟨RX8, "<init>", "()V"⟩
abbrev cX8_walkFrom : ByteArray := prog_10_method_2_code
def yX8_walkFrom : MethodName := ⟨RX8, "walkFrom", "(LToadBank$Town;I)V"⟩
abbrev cX8_widestStep : ByteArray := prog_10_method_3_code
def yX8_widestStep : MethodName := ⟨RX8, "widestStep", "(LToadBank$Town;II)I"⟩
abbrev cX8_width : ByteArray := prog_10_method_4_code
def yX8_width : MethodName := ⟨RX8, "width", "(II)I"⟩
abbrev cX8_fewestStepsTo : ByteArray := prog_10_method_5_code
def yX8_fewestStepsTo : MethodName := ⟨RX8, "fewestStepsTo", "(I)I"⟩
abbrev cX8_stepsOfWidestTo : ByteArray := prog_10_method_6_code
def yX8_stepsOfWidestTo : MethodName := ⟨RX8, "stepsOfWidestTo", "(I)I"⟩
def RX9 : String := "ToadBank$Tape"
def TX9 : u_T := fun k => match k with
  | 0 => ("ToadBank$Tape", "bytes", "[I", true)
  | 1 => ("ToadBank$Tape", "size", "I", false)
  | 2 => ("ToadBank$Tape", "textEnd", "I", false)
  | 3 => ("ToadBank$Tape", "place", "I", false)
  | 4 => ("ToadBank$Tape", "number", "I", false)
  | _ => ("ToadBank$Tape", "found", "I", false)
def tyX9 : Nat → FieldType := fun k => match k with
  | 0 => .array .int
  | 1 => .int
  | 2 => .int
  | 3 => .int
  | 4 => .int
  | _ => .int
theorem nmX9 : ∀ a, a < 6 → ∀ b, b < 6 → a ≠ b → (TX9 a).2.1 ≠ (TX9 b).2.1 := by decide +kernel
theorem tyX9_ok : ∀ k, k < 6 → parseFieldDescriptor (TX9 k).2.2.1 = some (tyX9 k) := by decide +kernel
abbrev cX9_init : ByteArray := prog_11_method_1_code
def yX9_init : MethodName := ⟨RX9, "<init>", "()V"⟩
abbrev cX9_hasRoomForFeed : ByteArray := prog_11_method_2_code
def yX9_hasRoomForFeed : MethodName := ⟨RX9, "hasRoomForFeed", "()Z"⟩
abbrev cX9_append : ByteArray := prog_11_method_3_code
def yX9_append : MethodName := ⟨RX9, "append", "(I)V"⟩
abbrev cX9_clear : ByteArray := prog_11_method_4_code
def yX9_clear : MethodName := ⟨RX9, "clear", "()V"⟩
abbrev cX9_at : ByteArray := prog_11_method_5_code
def yX9_at : MethodName := ⟨RX9, "at", "(I)I"⟩
abbrev cX9_twoBytesAt : ByteArray := prog_11_method_6_code
def yX9_twoBytesAt : MethodName := ⟨RX9, "twoBytesAt", "(I)I"⟩
abbrev cX9_firstNoBlink : ByteArray := prog_11_method_7_code
def yX9_firstNoBlink : MethodName := ⟨RX9, "firstNoBlink", "(I)I"⟩
abbrev cX9_hasZeroAmong : ByteArray := prog_11_method_8_code
def yX9_hasZeroAmong : MethodName := ⟨RX9, "hasZeroAmong", "(I)Z"⟩
abbrev cX9_startText : ByteArray := prog_11_method_9_code
def yX9_startText : MethodName := ⟨RX9, "startText", "(I)V"⟩
abbrev cX9_isRead : ByteArray := prog_11_method_10_code
def yX9_isRead : MethodName := ⟨RX9, "isRead", "()Z"⟩
abbrev cX9_sign : ByteArray := prog_11_method_11_code
def yX9_sign : MethodName := ⟨RX9, "sign", "()I"⟩
abbrev cX9_step : ByteArray := prog_11_method_12_code
def yX9_step : MethodName := ⟨RX9, "step", "()V"⟩
abbrev cX9_fail : ByteArray := prog_11_method_13_code
def yX9_fail : MethodName := ⟨RX9, "fail", "(I)Z"⟩
abbrev cX9_failAt : ByteArray := prog_11_method_14_code
def yX9_failAt : MethodName := ⟨RX9, "failAt", "(II)Z"⟩
abbrev cX9_expect : ByteArray := prog_11_method_15_code
def yX9_expect : MethodName := ⟨RX9, "expect", "(I)Z"⟩
abbrev cX9_readNumber : ByteArray := prog_11_method_16_code
def yX9_readNumber : MethodName := ⟨RX9, "readNumber", "(I)Z"⟩
def RX10 : String := "ToadBank$Town"
def TX10 : u_T := fun k => match k with
  | 0 => ("ToadBank$Town", "cash", "[I", true)
  | 1 => ("ToadBank$Town", "debts", "[I", true)
  | 2 => ("ToadBank$Town", "shares", "[I", true)
  | 3 => ("ToadBank$Town", "toldBits", "I", false)
  | 4 => ("ToadBank$Town", "openBits", "I", false)
  | 5 => ("ToadBank$Town", "month", "I", false)
  | 6 => ("ToadBank$Town", "fallen", "I", false)
  | _ => ("ToadBank$Town", "x", "I", false)
def tyX10 : Nat → FieldType := fun k => match k with
  | 0 => .array .int
  | 1 => .array .int
  | 2 => .array .int
  | 3 => .int
  | 4 => .int
  | 5 => .int
  | 6 => .int
  | _ => .int
theorem nmX10 : ∀ a, a < 8 → ∀ b, b < 8 → a ≠ b → (TX10 a).2.1 ≠ (TX10 b).2.1 := by decide +kernel
theorem tyX10_ok : ∀ k, k < 8 → parseFieldDescriptor (TX10 k).2.2.1 = some (tyX10 k) := by decide +kernel
abbrev cX10_init : ByteArray := prog_12_method_1_code
def yX10_init : MethodName := ⟨RX10, "<init>", "()V"⟩
abbrev cX10_copyFrom : ByteArray := prog_12_method_2_code
def yX10_copyFrom : MethodName := ⟨RX10, "copyFrom", "(LToadBank$Town;)V"⟩
abbrev cX10_isTold : ByteArray := prog_12_method_3_code
def yX10_isTold : MethodName := ⟨RX10, "isTold", "(I)Z"⟩
abbrev cX10_isOpen : ByteArray := prog_12_method_4_code
def yX10_isOpen : MethodName := ⟨RX10, "isOpen", "(I)Z"⟩
abbrev cX10_areTold : ByteArray := prog_12_method_5_code
def yX10_areTold : MethodName := ⟨RX10, "areTold", "(II)Z"⟩
abbrev cX10_areOpen : ByteArray := prog_12_method_6_code
def yX10_areOpen : MethodName := ⟨RX10, "areOpen", "(II)Z"⟩
abbrev cX10_open : ByteArray := prog_12_method_7_code
def yX10_open : MethodName := ⟨RX10, "open", "(II)V"⟩
abbrev cX10_cashOf : ByteArray := prog_12_method_8_code
def yX10_cashOf : MethodName := ⟨RX10, "cashOf", "(I)I"⟩
abbrev cX10_setCash : ByteArray := prog_12_method_9_code
def yX10_setCash : MethodName := ⟨RX10, "setCash", "(II)V"⟩
abbrev cX10_debt : ByteArray := prog_12_method_10_code
def yX10_debt : MethodName := ⟨RX10, "debt", "(II)I"⟩
abbrev cX10_setDebt : ByteArray := prog_12_method_11_code
def yX10_setDebt : MethodName := ⟨RX10, "setDebt", "(III)V"⟩
abbrev cX10_share : ByteArray := prog_12_method_12_code
def yX10_share : MethodName := ⟨RX10, "share", "(II)I"⟩
abbrev cX10_setShare : ByteArray := prog_12_method_13_code
def yX10_setShare : MethodName := ⟨RX10, "setShare", "(III)V"⟩
abbrev cX10_sharesOutside : ByteArray := prog_12_method_14_code
def yX10_sharesOutside : MethodName := ⟨RX10, "sharesOutside", "(II)I"⟩
abbrev cX10_owesInAll : ByteArray := prog_12_method_15_code
def yX10_owesInAll : MethodName := ⟨RX10, "owesInAll", "(I)I"⟩
abbrev cX10_isOwedInAll : ByteArray := prog_12_method_16_code
def yX10_isOwedInAll : MethodName := ⟨RX10, "isOwedInAll", "(I)I"⟩
abbrev cX10_worth : ByteArray := prog_12_method_17_code
def yX10_worth : MethodName := ⟨RX10, "worth", "(I)I"⟩
abbrev cX10_allCash : ByteArray := prog_12_method_18_code
def yX10_allCash : MethodName := ⟨RX10, "allCash", "()I"⟩
abbrev cX10_allDebts : ByteArray := prog_12_method_19_code
def yX10_allDebts : MethodName := ⟨RX10, "allDebts", "()I"⟩
abbrev cX10_debtsToSetOff : ByteArray := prog_12_method_20_code
def yX10_debtsToSetOff : MethodName := ⟨RX10, "debtsToSetOff", "()I"⟩
abbrev cX10_controlledBy : ByteArray := prog_12_method_21_code
def yX10_controlledBy : MethodName := ⟨RX10, "controlledBy", "(I)I"⟩
abbrev cX10_sharesOfAll : ByteArray := prog_12_method_22_code
def yX10_sharesOfAll : MethodName := ⟨RX10, "sharesOfAll", "(II)I"⟩
abbrev cX10_shutDown : ByteArray := prog_12_method_23_code
def yX10_shutDown : MethodName := ⟨RX10, "shutDown", "(I)V"⟩
abbrev cX10_join : ByteArray := prog_12_method_24_code
def yX10_join : MethodName := ⟨RX10, "join", "(II)V"⟩
abbrev cX10_draw : ByteArray := prog_12_method_25_code
def yX10_draw : MethodName := ⟨RX10, "draw", "()I"⟩
def RX11 : String := "ToadBank"
def TX11 : u_T := fun k => match k with
  | 0 => ("ToadBank", "tape", "LToadBank$Tape;", true)
  | 1 => ("ToadBank", "town", "LToadBank$Town;", true)
  | 2 => ("ToadBank", "kept", "LToadBank$Town;", true)
  | 3 => ("ToadBank", "spare", "LToadBank$Town;", true)
  | 4 => ("ToadBank", "ledgerReader", "LToadBank$LedgerReader;", true)
  | 5 => ("ToadBank", "lawReader", "LToadBank$LawReader;", true)
  | 6 => ("ToadBank", "asker", "LToadBank$Asker;", true)
  | 7 => ("ToadBank", "monthRun", "LToadBank$Months;", true)
  | 8 => ("ToadBank", "clearing", "LToadBank$Clearing;", true)
  | 9 => ("ToadBank", "roads", "LToadBank$Roads;", true)
  | 10 => ("ToadBank", "parting", "LToadBank$Parting;", true)
  | 11 => ("ToadBank", "codes", "LToadBank$Codes;", true)
  | 12 => ("ToadBank", "lawInForce", "LToadBank$Law;", true)
  | _ => ("ToadBank", "everKept", "Z", false)
def tyX11 : Nat → FieldType := fun k => match k with
  | 0 => .object "ToadBank$Tape"
  | 1 => .object "ToadBank$Town"
  | 2 => .object "ToadBank$Town"
  | 3 => .object "ToadBank$Town"
  | 4 => .object "ToadBank$LedgerReader"
  | 5 => .object "ToadBank$LawReader"
  | 6 => .object "ToadBank$Asker"
  | 7 => .object "ToadBank$Months"
  | 8 => .object "ToadBank$Clearing"
  | 9 => .object "ToadBank$Roads"
  | 10 => .object "ToadBank$Parting"
  | 11 => .object "ToadBank$Codes"
  | 12 => .object "ToadBank$Law"
  | _ => .boolean
theorem nmX11 : ∀ a, a < 14 → ∀ b, b < 14 → a ≠ b → (TX11 a).2.1 ≠ (TX11 b).2.1 := by decide +kernel
theorem tyX11_ok : ∀ k, k < 14 → parseFieldDescriptor (TX11 k).2.2.1 = some (tyX11 k) := by decide +kernel
abbrev cX11_init : ByteArray := prog_1_method_1_code
def yX11_init : MethodName := ⟨RX11, "<init>", "()V"⟩
abbrev cX11_bank : ByteArray := prog_1_method_2_code
def yX11_bank : MethodName := ⟨RX11, "bank", "(II)Z"⟩
abbrev cX11_owe : ByteArray := prog_1_method_3_code
def yX11_owe : MethodName := ⟨RX11, "owe", "(III)Z"⟩
abbrev cX11_hold : ByteArray := prog_1_method_4_code
def yX11_hold : MethodName := ⟨RX11, "hold", "(III)Z"⟩
abbrev cX11_feed : ByteArray := prog_1_method_5_code
def yX11_feed : MethodName := ⟨RX11, "feed", "(IIIII)I"⟩
abbrev cX11_law : ByteArray := prog_1_method_6_code
def yX11_law : MethodName := ⟨RX11, "law", "(I)I"⟩
abbrev cX11_ledger : ByteArray := prog_1_method_7_code
def yX11_ledger : MethodName := ⟨RX11, "ledger", "(I)I"⟩
abbrev cX11_months : ByteArray := prog_1_method_8_code
def yX11_months : MethodName := ⟨RX11, "months", "(I)I"⟩
abbrev cX11_tried : ByteArray := prog_1_method_9_code
def yX11_tried : MethodName := ⟨RX11, "tried", "(II)I"⟩
abbrev cX11_bankIs : ByteArray := prog_1_method_10_code
def yX11_bankIs : MethodName := ⟨RX11, "bankIs", "(II)I"⟩
abbrev cX11_owes : ByteArray := prog_1_method_11_code
def yX11_owes : MethodName := ⟨RX11, "owes", "(II)I"⟩
abbrev cX11_holds : ByteArray := prog_1_method_12_code
def yX11_holds : MethodName := ⟨RX11, "holds", "(II)I"⟩
abbrev cX11_cleared : ByteArray := prog_1_method_13_code
def yX11_cleared : MethodName := ⟨RX11, "cleared", "(I)I"⟩
abbrev cX11_falls : ByteArray := prog_1_method_14_code
def yX11_falls : MethodName := ⟨RX11, "falls", "(I)I"⟩
abbrev cX11_keystone : ByteArray := prog_1_method_15_code
def yX11_keystone : MethodName := ⟨RX11, "keystone", "(I)I"⟩
abbrev cX11_blow : ByteArray := prog_1_method_16_code
def yX11_blow : MethodName := ⟨RX11, "blow", "(II)I"⟩
abbrev cX11_fallenByBlow : ByteArray := prog_1_method_17_code
def yX11_fallenByBlow : MethodName := ⟨RX11, "fallenByBlow", "(II)I"⟩
abbrev cX11_leastBlow : ByteArray := prog_1_method_18_code
def yX11_leastBlow : MethodName := ⟨RX11, "leastBlow", "(II)I"⟩
abbrev cX11_help : ByteArray := prog_1_method_19_code
def yX11_help : MethodName := ⟨RX11, "help", "(I)I"⟩
abbrev cX11_setOff : ByteArray := prog_1_method_20_code
def yX11_setOff : MethodName := ⟨RX11, "setOff", "()I"⟩
abbrev cX11_settled : ByteArray := prog_1_method_21_code
def yX11_settled : MethodName := ⟨RX11, "settled", "(I)I"⟩
abbrev cX11_ring : ByteArray := prog_1_method_22_code
def yX11_ring : MethodName := ⟨RX11, "ring", "(II)I"⟩
abbrev cX11_road : ByteArray := prog_1_method_23_code
def yX11_road : MethodName := ⟨RX11, "road", "(III)I"⟩
abbrev cX11_mergers : ByteArray := prog_1_method_24_code
def yX11_mergers : MethodName := ⟨RX11, "mergers", "(II)I"⟩
abbrev cX11_merge : ByteArray := prog_1_method_25_code
def yX11_merge : MethodName := ⟨RX11, "merge", "(II)Z"⟩
abbrev cX11_tampered : ByteArray := prog_1_method_26_code
def yX11_tampered : MethodName := ⟨RX11, "tampered", "(I)I"⟩
abbrev cX11_findTampered : ByteArray := prog_1_method_27_code
def yX11_findTampered : MethodName := ⟨RX11, "findTampered", "(I)I"⟩
abbrev cX11_taken : ByteArray := prog_1_method_28_code
def yX11_taken : MethodName := ⟨RX11, "taken", "(III)I"⟩
abbrev cX11_fewestSums : ByteArray := prog_1_method_29_code
def yX11_fewestSums : MethodName := ⟨RX11, "fewestSums", "(II)I"⟩
abbrev cX11_sumOf : ByteArray := prog_1_method_30_code
def yX11_sumOf : MethodName := ⟨RX11, "sumOf", "(II)I"⟩
abbrev cX11_loan : ByteArray := prog_1_method_31_code
def yX11_loan : MethodName := ⟨RX11, "loan", "(III)I"⟩
abbrev cX11_isLoan : ByteArray := prog_1_method_32_code
def yX11_isLoan : MethodName := ⟨RX11, "isLoan", "(II)Z"⟩
abbrev cX11_monthsToPayOff : ByteArray := prog_1_method_33_code
def yX11_monthsToPayOff : MethodName := ⟨RX11, "monthsToPayOff", "(III)I"⟩
abbrev cX11_payment : ByteArray := prog_1_method_34_code
def yX11_payment : MethodName := ⟨RX11, "payment", "(III)I"⟩
abbrev cX11_code : ByteArray := prog_1_method_35_code
def yX11_code : MethodName := ⟨RX11, "code", "(II)I"⟩
abbrev cX11_blinks : ByteArray := prog_1_method_36_code
def yX11_blinks : MethodName := ⟨RX11, "blinks", "(II)I"⟩
abbrev cX11_readBlinks : ByteArray := prog_1_method_37_code
def yX11_readBlinks : MethodName := ⟨RX11, "readBlinks", "(II)I"⟩
abbrev cX11_atOnce : ByteArray := prog_1_method_38_code
def yX11_atOnce : MethodName := ⟨RX11, "atOnce", "()I"⟩
abbrev cX11_shortest : ByteArray := prog_1_method_39_code
def yX11_shortest : MethodName := ⟨RX11, "shortest", "(I)I"⟩
abbrev cX11_inOrder : ByteArray := prog_1_method_40_code
def yX11_inOrder : MethodName := ⟨RX11, "inOrder", "(I)I"⟩
abbrev cX11_seed : ByteArray := prog_1_method_41_code
def yX11_seed : MethodName := ⟨RX11, "seed", "(I)Z"⟩
abbrev cX11_keep : ByteArray := prog_1_method_42_code
def yX11_keep : MethodName := ⟨RX11, "keep", "()I"⟩
abbrev cX11_undo : ByteArray := prog_1_method_43_code
def yX11_undo : MethodName := ⟨RX11, "undo", "()Z"⟩
abbrev cX11_check : ByteArray := prog_1_method_44_code
def yX11_check : MethodName := ⟨RX11, "check", "(I)I"⟩
abbrev cX11_count : ByteArray := prog_1_method_45_code
def yX11_count : MethodName := ⟨RX11, "count", "(I)I"⟩
abbrev cX11_isBank : ByteArray := prog_1_method_46_code
def yX11_isBank : MethodName := ⟨RX11, "isBank", "(I)Z"⟩
abbrev cX11_isDigit : ByteArray := prog_1_method_47_code
def yX11_isDigit : MethodName := ⟨RX11, "isDigit", "(I)Z"⟩
abbrev cX11_fault : ByteArray := prog_1_method_48_code
def yX11_fault : MethodName := ⟨RX11, "fault", "(II)I"⟩
def RX12 : String := "ToadBankModel"
def TX12 : u_T := fun k => match k with
  | 0 => ("ToadBankModel", "now", "[I", true)
  | 1 => ("ToadBankModel", "aside", "[I", true)
  | 2 => ("ToadBankModel", "kept", "[I", true)
  | 3 => ("ToadBankModel", "tape", "[B", true)
  | 4 => ("ToadBankModel", "taped", "I", false)
  | 5 => ("ToadBankModel", "place0", "I", false)
  | 6 => ("ToadBankModel", "length0", "I", false)
  | 7 => ("ToadBankModel", "fault", "I", false)
  | 8 => ("ToadBankModel", "number0", "I", false)
  | 9 => ("ToadBankModel", "open", "I", false)
  | 10 => ("ToadBankModel", "codeMany", "I", false)
  | 11 => ("ToadBankModel", "waiting", "I", false)
  | 12 => ("ToadBankModel", "saidMany", "I", false)
  | 13 => ("ToadBankModel", "clauses", "I", false)
  | 14 => ("ToadBankModel", "said", "[I", true)
  | 15 => ("ToadBankModel", "waitsAt", "[I", true)
  | 16 => ("ToadBankModel", "saidLetter", "[I", true)
  | 17 => ("ToadBankModel", "saidFrom", "[I", true)
  | 18 => ("ToadBankModel", "saidHalf", "[I", true)
  | 19 => ("ToadBankModel", "saidTo", "[I", true)
  | 20 => ("ToadBankModel", "codes", "[I", true)
  | 21 => ("ToadBankModel", "clauseOf", "[I", true)
  | 22 => ("ToadBankModel", "codeFrom", "[I", true)
  | 23 => ("ToadBankModel", "codeHalf", "[I", true)
  | 24 => ("ToadBankModel", "codeTo", "[I", true)
  | 25 => ("ToadBankModel", "stack", "[I", true)
  | 26 => ("ToadBankModel", "facts", "[I", true)
  | 27 => ("ToadBankModel", "booked", "[I", true)
  | 28 => ("ToadBankModel", "lines", "I", false)
  | 29 => ("ToadBankModel", "shutNow", "I", false)
  | 30 => ("ToadBankModel", "runs", "I", false)
  | 31 => ("ToadBankModel", "pays", "[I", true)
  | 32 => ("ToadBankModel", "gets", "[I", true)
  | 33 => ("ToadBankModel", "owed", "[I", true)
  | 34 => ("ToadBankModel", "whenLess", "[I", true)
  | 35 => ("ToadBankModel", "cashNow", "[I", true)
  | 36 => ("ToadBankModel", "rounds", "I", false)
  | 37 => ("ToadBankModel", "wide", "[I", true)
  | 38 => ("ToadBankModel", "wideNext", "[I", true)
  | 39 => ("ToadBankModel", "badBy", "[I", true)
  | 40 => ("ToadBankModel", "comesBy", "[I", true)
  | 41 => ("ToadBankModel", "groupsBy", "[I", true)
  | 42 => ("ToadBankModel", "codeLong", "[I", true)
  | 43 => ("ToadBankModel", "codeBits", "[I", true)
  | 44 => ("ToadBankModel", "waysFrom", "[I", true)
  | 45 => ("ToadBankModel", "signsFrom", "[I", true)
  | 46 => ("ToadBankModel", "signFrom", "[I", true)
  | 47 => ("ToadBankModel", "oftenOf", "[I", true)
  | 48 => ("ToadBankModel", "leastBy", "[I", true)
  | _ => ("ToadBankModel", "isKept", "Z", false)
def tyX12 : Nat → FieldType := fun k => match k with
  | 0 => .array .int
  | 1 => .array .int
  | 2 => .array .int
  | 3 => .array .byte
  | 4 => .int
  | 5 => .int
  | 6 => .int
  | 7 => .int
  | 8 => .int
  | 9 => .int
  | 10 => .int
  | 11 => .int
  | 12 => .int
  | 13 => .int
  | 14 => .array .int
  | 15 => .array .int
  | 16 => .array .int
  | 17 => .array .int
  | 18 => .array .int
  | 19 => .array .int
  | 20 => .array .int
  | 21 => .array .int
  | 22 => .array .int
  | 23 => .array .int
  | 24 => .array .int
  | 25 => .array .int
  | 26 => .array .int
  | 27 => .array .int
  | 28 => .int
  | 29 => .int
  | 30 => .int
  | 31 => .array .int
  | 32 => .array .int
  | 33 => .array .int
  | 34 => .array .int
  | 35 => .array .int
  | 36 => .int
  | 37 => .array .int
  | 38 => .array .int
  | 39 => .array .int
  | 40 => .array .int
  | 41 => .array .int
  | 42 => .array .int
  | 43 => .array .int
  | 44 => .array .int
  | 45 => .array .int
  | 46 => .array .int
  | 47 => .array .int
  | 48 => .array .int
  | _ => .boolean
theorem nmX12 : ∀ a, a < 50 → ∀ b, b < 50 → a ≠ b → (TX12 a).2.1 ≠ (TX12 b).2.1 := by decide +kernel
theorem tyX12_ok : ∀ k, k < 50 → parseFieldDescriptor (TX12 k).2.2.1 = some (tyX12 k) := by decide +kernel
abbrev cX12_init : ByteArray := prog_14_method_1_code
def yX12_init : MethodName := ⟨RX12, "<init>", "()V"⟩
abbrev cX12_in : ByteArray := prog_14_method_2_code
def yX12_in : MethodName := ⟨RX12, "in", "(III)Z"⟩
abbrev cX12_min : ByteArray := prog_14_method_3_code
def yX12_min : MethodName := ⟨RX12, "min", "(II)I"⟩
abbrev cX12_max : ByteArray := prog_14_method_4_code
def yX12_max : MethodName := ⟨RX12, "max", "(II)I"⟩
abbrev cX12_has : ByteArray := prog_14_method_5_code
def yX12_has : MethodName := ⟨RX12, "has", "(II)Z"⟩
abbrev cX12_bits : ByteArray := prog_14_method_6_code
def yX12_bits : MethodName := ⟨RX12, "bits", "(I)I"⟩
abbrev cX12_copies : ByteArray := prog_14_method_7_code
def yX12_copies : MethodName := ⟨RX12, "copies", "([I[I)V"⟩
abbrev cX12_isBank : ByteArray := prog_14_method_8_code
def yX12_isBank : MethodName := ⟨RX12, "isBank", "(I)Z"⟩
abbrev cX12_isOpen : ByteArray := prog_14_method_9_code
def yX12_isOpen : MethodName := ⟨RX12, "isOpen", "(I)Z"⟩
abbrev cX12_areOpen : ByteArray := prog_14_method_10_code
def yX12_areOpen : MethodName := ⟨RX12, "areOpen", "(II)Z"⟩
abbrev cX12_debt : ByteArray := prog_14_method_11_code
def yX12_debt : MethodName := ⟨RX12, "debt", "(II)I"⟩
abbrev cX12_share : ByteArray := prog_14_method_12_code
def yX12_share : MethodName := ⟨RX12, "share", "(II)I"⟩
abbrev cX12_owesAll : ByteArray := prog_14_method_13_code
def yX12_owesAll : MethodName := ⟨RX12, "owesAll", "(I)I"⟩
abbrev cX12_getsAll : ByteArray := prog_14_method_14_code
def yX12_getsAll : MethodName := ⟨RX12, "getsAll", "(I)I"⟩
abbrev cX12_allDebts : ByteArray := prog_14_method_15_code
def yX12_allDebts : MethodName := ⟨RX12, "allDebts", "()I"⟩
abbrev cX12_worthOf : ByteArray := prog_14_method_16_code
def yX12_worthOf : MethodName := ⟨RX12, "worthOf", "(I)I"⟩
abbrev cX12_bank : ByteArray := prog_14_method_17_code
def yX12_bank : MethodName := ⟨RX12, "bank", "(II)Z"⟩
abbrev cX12_owe : ByteArray := prog_14_method_18_code
def yX12_owe : MethodName := ⟨RX12, "owe", "(III)Z"⟩
abbrev cX12_hold : ByteArray := prog_14_method_19_code
def yX12_hold : MethodName := ⟨RX12, "hold", "(III)Z"⟩
abbrev cX12_types : ByteArray := prog_14_method_20_code
def yX12_types : MethodName := ⟨RX12, "types", "(I)V"⟩
abbrev cX12_feed : ByteArray := prog_14_method_21_code
def yX12_feed : MethodName := ⟨RX12, "feed", "(IIIII)I"⟩
abbrev cX12_octet : ByteArray := prog_14_method_22_code
def yX12_octet : MethodName := ⟨RX12, "octet", "(I)I"⟩
abbrev cX12_here : ByteArray := prog_14_method_23_code
def yX12_here : MethodName := ⟨RX12, "here", "()I"⟩
abbrev cX12_isDigit : ByteArray := prog_14_method_24_code
def yX12_isDigit : MethodName := ⟨RX12, "isDigit", "()Z"⟩
abbrev cX12_wrongAt : ByteArray := prog_14_method_25_code
def yX12_wrongAt : MethodName := ⟨RX12, "wrongAt", "(II)Z"⟩
abbrev cX12_takes : ByteArray := prog_14_method_26_code
def yX12_takes : MethodName := ⟨RX12, "takes", "(I)Z"⟩
abbrev cX12_readsNumber : ByteArray := prog_14_method_27_code
def yX12_readsNumber : MethodName := ⟨RX12, "readsNumber", "()Z"⟩
abbrev cX12_notes : ByteArray := prog_14_method_28_code
def yX12_notes : MethodName := ⟨RX12, "notes", "(II)V"⟩
abbrev cX12_opens : ByteArray := prog_14_method_29_code
def yX12_opens : MethodName := ⟨RX12, "opens", "(I)Z"⟩
abbrev cX12_waitTop : ByteArray := prog_14_method_30_code
def yX12_waitTop : MethodName := ⟨RX12, "waitTop", "()I"⟩
abbrev cX12_factOf : ByteArray := prog_14_method_31_code
def yX12_factOf : MethodName := ⟨RX12, "factOf", "(I)I"⟩
abbrev cX12_sumSign : ByteArray := prog_14_method_32_code
def yX12_sumSign : MethodName := ⟨RX12, "sumSign", "(I)I"⟩
abbrev cX12_closesSums : ByteArray := prog_14_method_33_code
def yX12_closesSums : MethodName := ⟨RX12, "closesSums", "(Z)V"⟩
abbrev cX12_readsFactor : ByteArray := prog_14_method_34_code
def yX12_readsFactor : MethodName := ⟨RX12, "readsFactor", "()Z"⟩
abbrev cX12_hasOpenSum : ByteArray := prog_14_method_35_code
def yX12_hasOpenSum : MethodName := ⟨RX12, "hasOpenSum", "(I)Z"⟩
abbrev cX12_readsSum : ByteArray := prog_14_method_36_code
def yX12_readsSum : MethodName := ⟨RX12, "readsSum", "()Z"⟩
abbrev cX12_endsPiece : ByteArray := prog_14_method_37_code
def yX12_endsPiece : MethodName := ⟨RX12, "endsPiece", "()V"⟩
abbrev cX12_lands : ByteArray := prog_14_method_38_code
def yX12_lands : MethodName := ⟨RX12, "lands", "(Z)V"⟩
abbrev cX12_jumps : ByteArray := prog_14_method_39_code
def yX12_jumps : MethodName := ⟨RX12, "jumps", "(I)V"⟩
abbrev cX12_readsCompared : ByteArray := prog_14_method_40_code
def yX12_readsCompared : MethodName := ⟨RX12, "readsCompared", "()Z"⟩
abbrev cX12_readsCondition : ByteArray := prog_14_method_41_code
def yX12_readsCondition : MethodName := ⟨RX12, "readsCondition", "()Z"⟩
abbrev cX12_readsRule : ByteArray := prog_14_method_42_code
def yX12_readsRule : MethodName := ⟨RX12, "readsRule", "()Z"⟩
abbrev cX12_beginsText : ByteArray := prog_14_method_43_code
def yX12_beginsText : MethodName := ⟨RX12, "beginsText", "(I)V"⟩
abbrev cX12_law : ByteArray := prog_14_method_44_code
def yX12_law : MethodName := ⟨RX12, "law", "(I)I"⟩
abbrev cX12_reckon : ByteArray := prog_14_method_45_code
def yX12_reckon : MethodName := ⟨RX12, "reckon", "(III)I"⟩
abbrev cX12_comesTo : ByteArray := prog_14_method_46_code
def yX12_comesTo : MethodName := ⟨RX12, "comesTo", "(II)I"⟩
abbrev cX12_byLaw : ByteArray := prog_14_method_47_code
def yX12_byLaw : MethodName := ⟨RX12, "byLaw", "(II)I"⟩
abbrev cX12_holdsAny : ByteArray := prog_14_method_48_code
def yX12_holdsAny : MethodName := ⟨RX12, "holdsAny", "(I)Z"⟩
abbrev cX12_feels : ByteArray := prog_14_method_49_code
def yX12_feels : MethodName := ⟨RX12, "feels", "(I)V"⟩
abbrev cX12_readsBank : ByteArray := prog_14_method_50_code
def yX12_readsBank : MethodName := ⟨RX12, "readsBank", "()Z"⟩
abbrev cX12_readsAmount : ByteArray := prog_14_method_51_code
def yX12_readsAmount : MethodName := ⟨RX12, "readsAmount", "()Z"⟩
abbrev cX12_books : ByteArray := prog_14_method_52_code
def yX12_books : MethodName := ⟨RX12, "books", "(III)Z"⟩
abbrev cX12_readsLine : ByteArray := prog_14_method_53_code
def yX12_readsLine : MethodName := ⟨RX12, "readsLine", "()Z"⟩
abbrev cX12_ledger : ByteArray := prog_14_method_54_code
def yX12_ledger : MethodName := ⟨RX12, "ledger", "(I)I"⟩
abbrev cX12_parts : ByteArray := prog_14_method_55_code
def yX12_parts : MethodName := ⟨RX12, "parts", "(I)V"⟩
abbrev cX12_shuts : ByteArray := prog_14_method_56_code
def yX12_shuts : MethodName := ⟨RX12, "shuts", "(I)V"⟩
abbrev cX12_earns : ByteArray := prog_14_method_57_code
def yX12_earns : MethodName := ⟨RX12, "earns", "(I)V"⟩
abbrev cX12_grows : ByteArray := prog_14_method_58_code
def yX12_grows : MethodName := ⟨RX12, "grows", "(II)V"⟩
abbrev cX12_monthGoes : ByteArray := prog_14_method_59_code
def yX12_monthGoes : MethodName := ⟨RX12, "monthGoes", "()V"⟩
abbrev cX12_monthsGo : ByteArray := prog_14_method_60_code
def yX12_monthsGo : MethodName := ⟨RX12, "monthsGo", "(I)V"⟩
abbrev cX12_months : ByteArray := prog_14_method_61_code
def yX12_months : MethodName := ⟨RX12, "months", "(I)I"⟩
abbrev cX12_allCash : ByteArray := prog_14_method_62_code
def yX12_allCash : MethodName := ⟨RX12, "allCash", "()I"⟩
abbrev cX12_tried : ByteArray := prog_14_method_63_code
def yX12_tried : MethodName := ⟨RX12, "tried", "(II)I"⟩
abbrev cX12_controls : ByteArray := prog_14_method_64_code
def yX12_controls : MethodName := ⟨RX12, "controls", "(I)I"⟩
abbrev cX12_bankIs : ByteArray := prog_14_method_65_code
def yX12_bankIs : MethodName := ⟨RX12, "bankIs", "(II)I"⟩
abbrev cX12_owes : ByteArray := prog_14_method_66_code
def yX12_owes : MethodName := ⟨RX12, "owes", "(II)I"⟩
abbrev cX12_holds : ByteArray := prog_14_method_67_code
def yX12_holds : MethodName := ⟨RX12, "holds", "(II)I"⟩
abbrev cX12_laysGets : ByteArray := prog_14_method_68_code
def yX12_laysGets : MethodName := ⟨RX12, "laysGets", "()V"⟩
abbrev cX12_paysLess : ByteArray := prog_14_method_69_code
def yX12_paysLess : MethodName := ⟨RX12, "paysLess", "()Z"⟩
abbrev cX12_clears : ByteArray := prog_14_method_70_code
def yX12_clears : MethodName := ⟨RX12, "clears", "(II)I"⟩
abbrev cX12_cleared : ByteArray := prog_14_method_71_code
def yX12_cleared : MethodName := ⟨RX12, "cleared", "(I)I"⟩
abbrev cX12_falls : ByteArray := prog_14_method_72_code
def yX12_falls : MethodName := ⟨RX12, "falls", "(I)I"⟩
abbrev cX12_keystone : ByteArray := prog_14_method_73_code
def yX12_keystone : MethodName := ⟨RX12, "keystone", "(I)I"⟩
abbrev cX12_blow : ByteArray := prog_14_method_74_code
def yX12_blow : MethodName := ⟨RX12, "blow", "(II)I"⟩
abbrev cX12_leastBlow : ByteArray := prog_14_method_75_code
def yX12_leastBlow : MethodName := ⟨RX12, "leastBlow", "(II)I"⟩
abbrev cX12_help : ByteArray := prog_14_method_76_code
def yX12_help : MethodName := ⟨RX12, "help", "(I)I"⟩
abbrev cX12_setOff : ByteArray := prog_14_method_77_code
def yX12_setOff : MethodName := ⟨RX12, "setOff", "()I"⟩
abbrev cX12_widens : ByteArray := prog_14_method_78_code
def yX12_widens : MethodName := ⟨RX12, "widens", "(I)V"⟩
abbrev cX12_beginsAt : ByteArray := prog_14_method_79_code
def yX12_beginsAt : MethodName := ⟨RX12, "beginsAt", "(I)V"⟩
abbrev cX12_ring : ByteArray := prog_14_method_80_code
def yX12_ring : MethodName := ⟨RX12, "ring", "(II)I"⟩
abbrev cX12_road : ByteArray := prog_14_method_81_code
def yX12_road : MethodName := ⟨RX12, "road", "(III)I"⟩
abbrev cX12_mergers : ByteArray := prog_14_method_82_code
def yX12_mergers : MethodName := ⟨RX12, "mergers", "(II)I"⟩
abbrev cX12_laysGroups : ByteArray := prog_14_method_83_code
def yX12_laysGroups : MethodName := ⟨RX12, "laysGroups", "()V"⟩
abbrev cX12_settled : ByteArray := prog_14_method_84_code
def yX12_settled : MethodName := ⟨RX12, "settled", "(I)I"⟩
abbrev cX12_merge : ByteArray := prog_14_method_85_code
def yX12_merge : MethodName := ⟨RX12, "merge", "(II)Z"⟩
abbrev cX12_told : ByteArray := prog_14_method_86_code
def yX12_told : MethodName := ⟨RX12, "told", "(I)I"⟩
abbrev cX12_tampered : ByteArray := prog_14_method_87_code
def yX12_tampered : MethodName := ⟨RX12, "tampered", "(I)I"⟩
abbrev cX12_taken : ByteArray := prog_14_method_88_code
def yX12_taken : MethodName := ⟨RX12, "taken", "(III)I"⟩
abbrev cX12_monthsOf : ByteArray := prog_14_method_89_code
def yX12_monthsOf : MethodName := ⟨RX12, "monthsOf", "(III)I"⟩
abbrev cX12_loan : ByteArray := prog_14_method_90_code
def yX12_loan : MethodName := ⟨RX12, "loan", "(III)I"⟩
abbrev cX12_payment : ByteArray := prog_14_method_91_code
def yX12_payment : MethodName := ⟨RX12, "payment", "(III)I"⟩
abbrev cX12_noBlink : ByteArray := prog_14_method_92_code
def yX12_noBlink : MethodName := ⟨RX12, "noBlink", "(I)I"⟩
abbrev cX12_bitsAt : ByteArray := prog_14_method_93_code
def yX12_bitsAt : MethodName := ⟨RX12, "bitsAt", "(II)I"⟩
abbrev cX12_code : ByteArray := prog_14_method_94_code
def yX12_code : MethodName := ⟨RX12, "code", "(II)I"⟩
abbrev cX12_laysBlinks : ByteArray := prog_14_method_95_code
def yX12_laysBlinks : MethodName := ⟨RX12, "laysBlinks", "(I)V"⟩
abbrev cX12_blinks : ByteArray := prog_14_method_96_code
def yX12_blinks : MethodName := ⟨RX12, "blinks", "(II)I"⟩
abbrev cX12_beginsWith : ByteArray := prog_14_method_97_code
def yX12_beginsWith : MethodName := ⟨RX12, "beginsWith", "(II)Z"⟩
abbrev cX12_atOnce : ByteArray := prog_14_method_98_code
def yX12_atOnce : MethodName := ⟨RX12, "atOnce", "()I"⟩
abbrev cX12_leastOf : ByteArray := prog_14_method_99_code
def yX12_leastOf : MethodName := ⟨RX12, "leastOf", "(II)I"⟩
abbrev cX12_shortest : ByteArray := prog_14_method_100_code
def yX12_shortest : MethodName := ⟨RX12, "shortest", "(I)I"⟩
abbrev cX12_sumBetween : ByteArray := prog_14_method_101_code
def yX12_sumBetween : MethodName := ⟨RX12, "sumBetween", "(II)I"⟩
abbrev cX12_inOrder : ByteArray := prog_14_method_102_code
def yX12_inOrder : MethodName := ⟨RX12, "inOrder", "(I)I"⟩
abbrev cX12_seed : ByteArray := prog_14_method_103_code
def yX12_seed : MethodName := ⟨RX12, "seed", "(I)Z"⟩
abbrev cX12_keep : ByteArray := prog_14_method_104_code
def yX12_keep : MethodName := ⟨RX12, "keep", "()I"⟩
abbrev cX12_undo : ByteArray := prog_14_method_105_code
def yX12_undo : MethodName := ⟨RX12, "undo", "()Z"⟩
abbrev cX12_check : ByteArray := prog_14_method_106_code
def yX12_check : MethodName := ⟨RX12, "check", "(I)I"⟩
abbrev cX12_count : ByteArray := prog_14_method_107_code
def yX12_count : MethodName := ⟨RX12, "count", "(I)I"⟩
def RJ6 : String := "java/lang/Integer"
def TJ6 : u_T := fun k => match k with
  | _ => ("", "", "", false)
def tyJ6 : Nat → FieldType := fun k => match k with
  | _ => .int
theorem nmJ6 : ∀ a, a < 0 → ∀ b, b < 0 → a ≠ b → (TJ6 a).2.1 ≠ (TJ6 b).2.1 := by decide +kernel
theorem tyJ6_ok : ∀ k, k < 0 → parseFieldDescriptor (TJ6 k).2.2.1 = some (tyJ6 k) := by decide +kernel
abbrev cJ6_bitCount_0f7a4 : ByteArray := prog_15_method_49_code
def yJ6_bitCount_0f7a4 : MethodName := ⟨RJ6, "bitCount", "(I)I"⟩
def RJ9 : String := "java/lang/Math"
def TJ9 : u_T := fun k => match k with
  | _ => ("", "", "", false)
def tyJ9 : Nat → FieldType := fun k => match k with
  | _ => .int
theorem nmJ9 : ∀ a, a < 0 → ∀ b, b < 0 → a ≠ b → (TJ9 a).2.1 ≠ (TJ9 b).2.1 := by decide +kernel
theorem tyJ9_ok : ∀ k, k < 0 → parseFieldDescriptor (TJ9 k).2.2.1 = some (tyJ9 k) := by decide +kernel
abbrev cJ9_max_7cf53 : ByteArray := prog_16_method_65_code
def yJ9_max_7cf53 : MethodName := ⟨RJ9, "max", "(II)I"⟩
abbrev cJ9_min_7cf53 : ByteArray := prog_16_method_69_code
def yJ9_min_7cf53 : MethodName := ⟨RJ9, "min", "(II)I"⟩
def RJ10 : String := "java/lang/System"
def TJ10 : u_T := fun k => match k with
  | _ => ("", "", "", false)
def tyJ10 : Nat → FieldType := fun k => match k with
  | _ => .int
theorem nmJ10 : ∀ a, a < 0 → ∀ b, b < 0 → a ≠ b → (TJ10 a).2.1 ≠ (TJ10 b).2.1 := by decide +kernel
theorem tyJ10_ok : ∀ k, k < 0 → parseFieldDescriptor (TJ10 k).2.2.1 = some (tyJ10 k) := by decide +kernel
def RL : String := "ToadBankLaw"
abbrev cL_law : ByteArray := code
def yL_law : MethodName := ⟨RL, "law", "([I)Z"⟩
abbrev vwCl : List vw_C := [(RX0, TX0, 6), (RX1, TX1, 7), (RX2, TX2, 6), (RX3, TX3, 7), (RX4, TX4, 1), (RX5, TX5, 1), (RX6, TX6, 2), (RX7, TX7, 4), (RX8, TX8, 1), (RX9, TX9, 6), (RX10, TX10, 8), (RX11, TX11, 14), (RX12, TX12, 50)]
abbrev aV : Type := Int ⊕ Option Nat
abbrev aK : Type := (Nat × List (Option Nat)) ⊕ (Nat × Nat)
abbrev aM : Type := Nat → Nat → Int
abbrev aP : Type := Nat × Nat × Nat × Int
/-- the cells: the script, then all that the two constructors make, in the order in which they make it -/
def lay0 : List aK := [.inr (2, 0), .inl (11, [some 2, some 4, some 8, some 12, some 16, some 17, some 24, some 26, some 27, some 34, some 36, some 40, some 47, none]), .inl (9, [some 3, none, none, none, none, none]), .inr (0, 260), .inl (10, [some 5, some 6, some 7, none, none, none, none, none]), .inr (0, 8), .inr (0, 64), .inr (0, 64), .inl (10, [some 9, some 10, some 11, none, none, none, none, none]), .inr (0, 8), .inr (0, 64), .inr (0, 64), .inl (10, [some 13, some 14, some 15, none, none, none, none, none]), .inr (0, 8), .inr (0, 64), .inr (0, 64), .inl (5, [none]), .inl (4, [some 18]), .inl (3, [some 19, some 20, some 21, some 22, some 23, none, none]), .inr (0, 16), .inr (0, 16), .inr (0, 16), .inr (0, 16), .inr (0, 480), .inl (0, [some 25, none, none, none, none, none]), .inr (0, 32), .inl (6, [none, none]), .inl (1, [some 28, some 29, some 30, some 31, some 32, some 33, none]), .inr (0, 64), .inr (0, 8), .inr (0, 8), .inr (0, 8), .inr (0, 8), .inr (0, 8), .inl (8, [some 35]), .inr (0, 72), .inl (7, [some 37, some 38, some 39, none]), .inr (0, 8), .inr (0, 256), .inr (0, 256), .inl (2, [some 41, some 42, some 43, some 44, some 45, some 46]), .inr (0, 8), .inr (0, 48), .inr (0, 61), .inr (0, 61), .inr (0, 8), .inr (0, 64), .inl (3, [some 48, some 49, some 50, some 51, some 52, none, none]), .inr (0, 16), .inr (0, 16), .inr (0, 16), .inr (0, 16), .inr (0, 480), .inl (12, [some 54, some 55, some 56, some 57, none, none, none, none, none, none, none, none, none, none, some 58, some 59, some 60, some 61, some 62, some 63, some 64, some 65, some 66, some 67, some 68, some 69, some 70, some 71, none, none, none, some 72, some 73, some 74, some 75, some 76, none, some 77, some 78, some 79, some 80, some 81, some 82, some 83, some 84, some 85, some 86, some 87, some 88, none]), .inr (0, 141), .inr (0, 141), .inr (0, 141), .inr (1, 260), .inr (0, 260), .inr (0, 260), .inr (0, 16), .inr (0, 16), .inr (0, 16), .inr (0, 16), .inr (0, 260), .inr (0, 16), .inr (0, 16), .inr (0, 16), .inr (0, 16), .inr (0, 260), .inr (0, 7), .inr (0, 141), .inr (0, 8), .inr (0, 8), .inr (0, 8), .inr (0, 8), .inr (0, 8), .inr (0, 8), .inr (0, 8), .inr (0, 256), .inr (0, 256), .inr (0, 256), .inr (0, 8), .inr (0, 8), .inr (0, 61), .inr (0, 61), .inr (0, 61), .inr (0, 8), .inr (0, 64)]
/-- the classes by their numbers -/
def aCls : List String := [RX0, RX1, RX2, RX3, RX4, RX5, RX6, RX7, RX8, RX9, RX10, RX11, RX12, RL, RJ6, RJ9, RJ10]
/-- the methods by their numbers: code, name, class, locals, arguments (with this), what is returned, static -/
def mTab_0 : List (ByteArray × MethodName × Nat × Nat × Nat × Option FieldType × Bool) := [(cX0_init, yX0_init, 0, 1, 1, none, false), (cX0_askOfBank, yX0_askOfBank, 0, 2, 2, none, false), (cX0_askOfDebt, yX0_askOfDebt, 0, 4, 4, none, false), (cX0_amount, yX0_amount, 0, 7, 5, some .int, false), (cX0_anyHolds, yX0_anyHolds, 0, 5, 4, some .boolean, false), (cX0_reckon, yX0_reckon, 0, 9, 5, some .int, false), (cX0_push, yX0_push, 0, 2, 2, none, false), (cX0_topmost, yX0_topmost, 0, 1, 1, some .int, false), (cX0_pop, yX0_pop, 0, 2, 1, some .int, false), (cX0_valueOf, yX0_valueOf, 0, 3, 3, some .int, false), (cX0_doSign, yX0_doSign, 0, 4, 2, none, false), (cX0_divide, yX0_divide, 0, 4, 4, none, false), (cX1_init, yX1_init, 1, 1, 1, none, false), (cX1_takeIn, yX1_takeIn, 1, 4, 2, none, false), (cX1_strike, yX1_strike, 1, 3, 3, none, false), (cX1_payAtOnce, yX1_payAtOnce, 1, 2, 1, none, false), (cX1_handOut, yX1_handOut, 1, 3, 1, none, false), (cX1_payLess, yX1_payLess, 1, 5, 2, some .boolean, false), (cX1_paidBy, yX1_paidBy, 1, 2, 2, some .int, false), (cX1_gottenBy, yX1_gottenBy, 1, 2, 2, some .int, false), (cX1_roundOfFall, yX1_roundOfFall, 1, 2, 2, some .int, false), (cX1_fallen, yX1_fallen, 1, 3, 1, some .int, false), (cX2_init, yX2_init, 2, 1, 1, none, false), (cX2_tell, yX2_tell, 2, 5, 4, none, false), (cX2_lengthOf, yX2_lengthOf, 2, 2, 2, some .int, false), (cX2_blinkOf, yX2_blinkOf, 2, 4, 3, some .int, false), (cX2_toldBits, yX2_toldBits, 2, 3, 1, some .int, false), (cX2_readAll, yX2_readAll, 2, 7, 3, none, false), (cX2_standsAt, yX2_standsAt, 2, 7, 5, some .boolean, false), (cX2_waysFrom, yX2_waysFrom, 2, 2, 2, some .int, false), (cX2_stepsFrom, yX2_stepsFrom, 2, 2, 2, some .int, false), (cX2_fewestFrom, yX2_fewestFrom, 2, 3, 2, some .int, false), (cX2_signAtPlace, yX2_signAtPlace, 2, 7, 4, some .int, false), (cX2_leastSignAt, yX2_leastSignAt, 2, 5, 4, some .int, false), (cX2_areReadAtOnce, yX2_areReadAtOnce, 2, 3, 1, some .boolean, false), (cX2_begins, yX2_begins, 2, 5, 3, some .boolean, false), (cX2_shortestOf, yX2_shortestOf, 2, 7, 3, some .int, false), (cX2_moveLeastToEnd, yX2_moveLeastToEnd, 2, 4, 2, none, false), (cX2_shortestInOrder, yX2_shortestInOrder, 2, 7, 3, some .int, false), (cX2_costOfSpan, yX2_costOfSpan, 2, 7, 4, some .int, false), (cX2_cost, yX2_cost, 2, 4, 3, some .int, false), (cX3_init, yX3_init, 3, 1, 1, none, false), (cX3_clear, yX3_clear, 3, 1, 1, none, false), (cX3_copyFrom, yX3_copyFrom, 3, 2, 2, none, false), (cX3_startRule, yX3_startRule, 3, 2, 2, none, false), (cX3_startCase, yX3_startCase, 3, 1, 1, none, false), (cX3_endRule, yX3_endRule, 3, 1, 1, none, false), (cX3_add, yX3_add, 3, 2, 2, none, false), (cX3_set, yX3_set, 3, 3, 3, none, false), (cX3_sign, yX3_sign, 3, 2, 2, some .int, false), (cX4_init, yX4_init, 4, 1, 1, none, false), (cX4_read, yX4_read, 4, 4, 3, some .int, false), (cX4_readRule, yX4_readRule, 4, 3, 2, some .boolean, false), (cX4_readCase, yX4_readCase, 4, 5, 3, some .boolean, false), (cX4_readPart, yX4_readPart, 4, 5, 3, some .boolean, false), (cX4_startLink, yX4_startLink, 4, 3, 3, some .int, false), (cX4_readTest, yX4_readTest, 4, 5, 3, some .boolean, false), (cX4_readOpened, yX4_readOpened, 4, 4, 4, some .boolean, false), (cX4_readSum, yX4_readSum, 4, 5, 3, some .boolean, false), (cX4_readTerm, yX4_readTerm, 4, 5, 3, some .boolean, false)]
def mTab_1 : List (ByteArray × MethodName × Nat × Nat × Nat × Option FieldType × Bool) := [(cX4_readFactor, yX4_readFactor, 4, 4, 3, some .boolean, false), (cX4_isAskedLetter, yX4_isAskedLetter, 4, 2, 2, some .boolean, false), (cX5_init, yX5_init, 5, 1, 1, none, false), (cX5_read, yX5_read, 5, 5, 4, some .int, false), (cX5_readLine, yX5_readLine, 5, 8, 4, some .boolean, false), (cX5_readOther, yX5_readOther, 5, 4, 4, some .boolean, false), (cX5_carryOut, yX5_carryOut, 5, 5, 5, some .boolean, false), (cX5_addCash, yX5_addCash, 5, 5, 4, some .boolean, false), (cX5_addDebt, yX5_addDebt, 5, 5, 4, some .boolean, false), (cX6_init, yX6_init, 6, 1, 1, none, false), (cX6_run, yX6_run, 6, 6, 5, none, false), (cX6_letCashFlow, yX6_letCashFlow, 6, 9, 4, none, false), (cX6_letDebtsGrow, yX6_letDebtsGrow, 6, 8, 4, none, false), (cX6_shutByLaw, yX6_shutByLaw, 6, 5, 4, none, false), (cX6_letFall, yX6_letFall, 6, 3, 3, none, false), (cX7_init, yX7_init, 7, 1, 1, none, false), (cX7_groupsOf, yX7_groupsOf, 7, 4, 2, some .int, false), (cX7_sumOfWorths, yX7_sumOfWorths, 7, 4, 2, some .int, false), (cX7_bestWithoutOne, yX7_bestWithoutOne, 7, 4, 2, some .int, false), (cX7_pairUp, yX7_pairUp, 7, 4, 3, none, false), (cX7_leastCost, yX7_leastCost, 7, 7, 2, some .int, false), (cX7_lowestOf, yX7_lowestOf, 7, 3, 2, some .int, false), (cX7_costOf, yX7_costOf, 7, 2, 2, some .int, false), (cX7_badOf, yX7_badOf, 7, 2, 2, some .int, false), (cX7_twosOf, yX7_twosOf, 7, 2, 2, some .int, false), (cX8_init, yX8_init, 8, 1, 1, none, false), (cX8_walkFrom, yX8_walkFrom, 8, 5, 3, none, false), (cX8_widestStep, yX8_widestStep, 8, 6, 4, some .int, false), (cX8_width, yX8_width, 8, 3, 3, some .int, false), (cX8_fewestStepsTo, yX8_fewestStepsTo, 8, 3, 2, some .int, false), (cX8_stepsOfWidestTo, yX8_stepsOfWidestTo, 8, 5, 2, some .int, false), (cX9_init, yX9_init, 9, 1, 1, none, false), (cX9_hasRoomForFeed, yX9_hasRoomForFeed, 9, 1, 1, some .boolean, false), (cX9_append, yX9_append, 9, 3, 2, none, false), (cX9_clear, yX9_clear, 9, 1, 1, none, false), (cX9_at, yX9_at, 9, 2, 2, some .int, false), (cX9_twoBytesAt, yX9_twoBytesAt, 9, 2, 2, some .int, false), (cX9_firstNoBlink, yX9_firstNoBlink, 9, 4, 2, some .int, false), (cX9_hasZeroAmong, yX9_hasZeroAmong, 9, 3, 2, some .boolean, false), (cX9_startText, yX9_startText, 9, 2, 2, none, false), (cX9_isRead, yX9_isRead, 9, 1, 1, some .boolean, false), (cX9_sign, yX9_sign, 9, 1, 1, some .int, false), (cX9_step, yX9_step, 9, 1, 1, none, false), (cX9_fail, yX9_fail, 9, 2, 2, some .boolean, false), (cX9_failAt, yX9_failAt, 9, 3, 3, some .boolean, false), (cX9_expect, yX9_expect, 9, 2, 2, some .boolean, false), (cX9_readNumber, yX9_readNumber, 9, 4, 2, some .boolean, false), (cX10_init, yX10_init, 10, 1, 1, none, false), (cX10_copyFrom, yX10_copyFrom, 10, 2, 2, none, false), (cX10_isTold, yX10_isTold, 10, 2, 2, some .boolean, false), (cX10_isOpen, yX10_isOpen, 10, 2, 2, some .boolean, false), (cX10_areTold, yX10_areTold, 10, 3, 3, some .boolean, false), (cX10_areOpen, yX10_areOpen, 10, 3, 3, some .boolean, false), (cX10_open, yX10_open, 10, 3, 3, none, false), (cX10_cashOf, yX10_cashOf, 10, 2, 2, some .int, false), (cX10_setCash, yX10_setCash, 10, 3, 3, none, false), (cX10_debt, yX10_debt, 10, 3, 3, some .int, false), (cX10_setDebt, yX10_setDebt, 10, 4, 4, none, false), (cX10_share, yX10_share, 10, 3, 3, some .int, false), (cX10_setShare, yX10_setShare, 10, 4, 4, none, false)]
def mTab_2 : List (ByteArray × MethodName × Nat × Nat × Nat × Option FieldType × Bool) := [(cX10_sharesOutside, yX10_sharesOutside, 10, 5, 3, some .int, false), (cX10_owesInAll, yX10_owesInAll, 10, 4, 2, some .int, false), (cX10_isOwedInAll, yX10_isOwedInAll, 10, 4, 2, some .int, false), (cX10_worth, yX10_worth, 10, 2, 2, some .int, false), (cX10_allCash, yX10_allCash, 10, 3, 1, some .int, false), (cX10_allDebts, yX10_allDebts, 10, 3, 1, some .int, false), (cX10_debtsToSetOff, yX10_debtsToSetOff, 10, 4, 1, some .int, false), (cX10_controlledBy, yX10_controlledBy, 10, 5, 2, some .int, false), (cX10_sharesOfAll, yX10_sharesOfAll, 10, 5, 3, some .int, false), (cX10_shutDown, yX10_shutDown, 10, 3, 2, none, false), (cX10_join, yX10_join, 10, 4, 3, none, false), (cX10_draw, yX10_draw, 10, 1, 1, some .int, false), (cX11_init, yX11_init, 11, 1, 1, none, false), (cX11_bank, yX11_bank, 11, 3, 3, some .boolean, false), (cX11_owe, yX11_owe, 11, 4, 4, some .boolean, false), (cX11_hold, yX11_hold, 11, 4, 4, some .boolean, false), (cX11_feed, yX11_feed, 11, 6, 6, some .int, false), (cX11_law, yX11_law, 11, 3, 2, some .int, false), (cX11_ledger, yX11_ledger, 11, 3, 2, some .int, false), (cX11_months, yX11_months, 11, 2, 2, some .int, false), (cX11_tried, yX11_tried, 11, 4, 3, some .int, false), (cX11_bankIs, yX11_bankIs, 11, 3, 3, some .int, false), (cX11_owes, yX11_owes, 11, 3, 3, some .int, false), (cX11_holds, yX11_holds, 11, 3, 3, some .int, false), (cX11_cleared, yX11_cleared, 11, 4, 2, some .int, false), (cX11_falls, yX11_falls, 11, 3, 2, some .int, false), (cX11_keystone, yX11_keystone, 11, 6, 2, some .int, false), (cX11_blow, yX11_blow, 11, 3, 3, some .int, false), (cX11_fallenByBlow, yX11_fallenByBlow, 11, 3, 3, some .int, false), (cX11_leastBlow, yX11_leastBlow, 11, 7, 3, some .int, false), (cX11_help, yX11_help, 11, 3, 2, some .int, false), (cX11_setOff, yX11_setOff, 11, 1, 1, some .int, false), (cX11_settled, yX11_settled, 11, 3, 2, some .int, false), (cX11_ring, yX11_ring, 11, 4, 3, some .int, false), (cX11_road, yX11_road, 11, 5, 4, some .int, false), (cX11_mergers, yX11_mergers, 11, 4, 3, some .int, false), (cX11_merge, yX11_merge, 11, 3, 3, some .boolean, false), (cX11_tampered, yX11_tampered, 11, 3, 2, some .int, false), (cX11_findTampered, yX11_findTampered, 11, 11, 2, some .int, false), (cX11_taken, yX11_taken, 11, 5, 4, some .int, false), (cX11_fewestSums, yX11_fewestSums, 11, 7, 3, some .int, false), (cX11_sumOf, yX11_sumOf, 11, 5, 3, some .int, false), (cX11_loan, yX11_loan, 11, 4, 4, some .int, false), (cX11_isLoan, yX11_isLoan, 11, 2, 2, some .boolean, true), (cX11_monthsToPayOff, yX11_monthsToPayOff, 11, 6, 3, some .int, true), (cX11_payment, yX11_payment, 11, 8, 4, some .int, false), (cX11_code, yX11_code, 11, 4, 3, some .int, false), (cX11_blinks, yX11_blinks, 11, 5, 3, some .int, false), (cX11_readBlinks, yX11_readBlinks, 11, 5, 3, some .int, false), (cX11_atOnce, yX11_atOnce, 11, 1, 1, some .int, false), (cX11_shortest, yX11_shortest, 11, 3, 2, some .int, false), (cX11_inOrder, yX11_inOrder, 11, 3, 2, some .int, false), (cX11_seed, yX11_seed, 11, 2, 2, some .boolean, false), (cX11_keep, yX11_keep, 11, 1, 1, some .int, false), (cX11_undo, yX11_undo, 11, 1, 1, some .boolean, false), (cX11_check, yX11_check, 11, 4, 2, some .int, false), (cX11_count, yX11_count, 11, 3, 2, some .int, false), (cX11_isBank, yX11_isBank, 11, 1, 1, some .boolean, true), (cX11_isDigit, yX11_isDigit, 11, 1, 1, some .boolean, true), (cX11_fault, yX11_fault, 11, 2, 2, some .int, true)]
def mTab_3 : List (ByteArray × MethodName × Nat × Nat × Nat × Option FieldType × Bool) := [(cX12_init, yX12_init, 12, 1, 1, none, false), (cX12_in, yX12_in, 12, 3, 3, some .boolean, true), (cX12_min, yX12_min, 12, 2, 2, some .int, true), (cX12_max, yX12_max, 12, 2, 2, some .int, true), (cX12_has, yX12_has, 12, 2, 2, some .boolean, true), (cX12_bits, yX12_bits, 12, 3, 1, some .int, true), (cX12_copies, yX12_copies, 12, 3, 2, none, true), (cX12_isBank, yX12_isBank, 12, 2, 2, some .boolean, false), (cX12_isOpen, yX12_isOpen, 12, 2, 2, some .boolean, false), (cX12_areOpen, yX12_areOpen, 12, 3, 3, some .boolean, false), (cX12_debt, yX12_debt, 12, 2, 2, some .int, true), (cX12_share, yX12_share, 12, 2, 2, some .int, true), (cX12_owesAll, yX12_owesAll, 12, 4, 2, some .int, false), (cX12_getsAll, yX12_getsAll, 12, 4, 2, some .int, false), (cX12_allDebts, yX12_allDebts, 12, 3, 1, some .int, false), (cX12_worthOf, yX12_worthOf, 12, 2, 2, some .int, false), (cX12_bank, yX12_bank, 12, 3, 3, some .boolean, false), (cX12_owe, yX12_owe, 12, 4, 4, some .boolean, false), (cX12_hold, yX12_hold, 12, 6, 4, some .boolean, false), (cX12_types, yX12_types, 12, 3, 2, none, false), (cX12_feed, yX12_feed, 12, 6, 6, some .int, false), (cX12_octet, yX12_octet, 12, 2, 2, some .int, false), (cX12_here, yX12_here, 12, 1, 1, some .int, false), (cX12_isDigit, yX12_isDigit, 12, 1, 1, some .boolean, false), (cX12_wrongAt, yX12_wrongAt, 12, 3, 3, some .boolean, false), (cX12_takes, yX12_takes, 12, 2, 2, some .boolean, false), (cX12_readsNumber, yX12_readsNumber, 12, 2, 1, some .boolean, false), (cX12_notes, yX12_notes, 12, 3, 3, none, false), (cX12_opens, yX12_opens, 12, 2, 2, some .boolean, false), (cX12_waitTop, yX12_waitTop, 12, 1, 1, some .int, false), (cX12_factOf, yX12_factOf, 12, 1, 1, some .int, true), (cX12_sumSign, yX12_sumSign, 12, 1, 1, some .int, true), (cX12_closesSums, yX12_closesSums, 12, 2, 2, none, false), (cX12_readsFactor, yX12_readsFactor, 12, 2, 1, some .boolean, false), (cX12_hasOpenSum, yX12_hasOpenSum, 12, 3, 2, some .boolean, false), (cX12_readsSum, yX12_readsSum, 12, 3, 1, some .boolean, false), (cX12_endsPiece, yX12_endsPiece, 12, 1, 1, none, false), (cX12_lands, yX12_lands, 12, 3, 2, none, false), (cX12_jumps, yX12_jumps, 12, 2, 2, none, false), (cX12_readsCompared, yX12_readsCompared, 12, 2, 1, some .boolean, false), (cX12_readsCondition, yX12_readsCondition, 12, 1, 1, some .boolean, false), (cX12_readsRule, yX12_readsRule, 12, 2, 1, some .boolean, false), (cX12_beginsText, yX12_beginsText, 12, 2, 2, none, false), (cX12_law, yX12_law, 12, 4, 2, some .int, false), (cX12_reckon, yX12_reckon, 12, 3, 3, some .int, true), (cX12_comesTo, yX12_comesTo, 12, 8, 3, some .int, false), (cX12_byLaw, yX12_byLaw, 12, 5, 3, some .int, false), (cX12_holdsAny, yX12_holdsAny, 12, 3, 2, some .boolean, false), (cX12_feels, yX12_feels, 12, 2, 2, none, false), (cX12_readsBank, yX12_readsBank, 12, 2, 1, some .boolean, false), (cX12_readsAmount, yX12_readsAmount, 12, 2, 1, some .boolean, false), (cX12_books, yX12_books, 12, 4, 4, some .boolean, false), (cX12_readsLine, yX12_readsLine, 12, 6, 1, some .boolean, false), (cX12_ledger, yX12_ledger, 12, 3, 2, some .int, false), (cX12_parts, yX12_parts, 12, 3, 2, none, false), (cX12_shuts, yX12_shuts, 12, 2, 2, none, false), (cX12_earns, yX12_earns, 12, 7, 2, none, false), (cX12_grows, yX12_grows, 12, 3, 3, none, false), (cX12_monthGoes, yX12_monthGoes, 12, 3, 1, none, false), (cX12_monthsGo, yX12_monthsGo, 12, 3, 2, none, false)]
def mTab_4 : List (ByteArray × MethodName × Nat × Nat × Nat × Option FieldType × Bool) := [(cX12_months, yX12_months, 12, 2, 2, some .int, false), (cX12_allCash, yX12_allCash, 12, 3, 1, some .int, false), (cX12_tried, yX12_tried, 12, 4, 3, some .int, false), (cX12_controls, yX12_controls, 12, 7, 2, some .int, false), (cX12_bankIs, yX12_bankIs, 12, 3, 3, some .int, false), (cX12_owes, yX12_owes, 12, 3, 3, some .int, false), (cX12_holds, yX12_holds, 12, 3, 3, some .int, false), (cX12_laysGets, yX12_laysGets, 12, 3, 1, none, false), (cX12_paysLess, yX12_paysLess, 12, 4, 1, some .boolean, false), (cX12_clears, yX12_clears, 12, 5, 3, some .int, false), (cX12_cleared, yX12_cleared, 12, 3, 2, some .int, false), (cX12_falls, yX12_falls, 12, 2, 2, some .int, false), (cX12_keystone, yX12_keystone, 12, 6, 2, some .int, false), (cX12_blow, yX12_blow, 12, 3, 3, some .int, false), (cX12_leastBlow, yX12_leastBlow, 12, 6, 3, some .int, false), (cX12_help, yX12_help, 12, 5, 2, some .int, false), (cX12_setOff, yX12_setOff, 12, 4, 1, some .int, false), (cX12_widens, yX12_widens, 12, 5, 2, none, false), (cX12_beginsAt, yX12_beginsAt, 12, 3, 2, none, false), (cX12_ring, yX12_ring, 12, 4, 3, some .int, false), (cX12_road, yX12_road, 12, 7, 4, some .int, false), (cX12_mergers, yX12_mergers, 12, 8, 3, some .int, false), (cX12_laysGroups, yX12_laysGroups, 12, 3, 1, none, false), (cX12_settled, yX12_settled, 12, 4, 2, some .int, false), (cX12_merge, yX12_merge, 12, 4, 3, some .boolean, false), (cX12_told, yX12_told, 12, 2, 2, some .int, false), (cX12_tampered, yX12_tampered, 12, 7, 2, some .int, false), (cX12_taken, yX12_taken, 12, 8, 4, some .int, false), (cX12_monthsOf, yX12_monthsOf, 12, 7, 3, some .int, true), (cX12_loan, yX12_loan, 12, 4, 4, some .int, false), (cX12_payment, yX12_payment, 12, 8, 4, some .int, false), (cX12_noBlink, yX12_noBlink, 12, 3, 2, some .int, false), (cX12_bitsAt, yX12_bitsAt, 12, 5, 3, some .int, false), (cX12_code, yX12_code, 12, 3, 3, some .int, false), (cX12_laysBlinks, yX12_laysBlinks, 12, 5, 2, none, false), (cX12_blinks, yX12_blinks, 12, 5, 3, some .int, false), (cX12_beginsWith, yX12_beginsWith, 12, 3, 3, some .boolean, false), (cX12_atOnce, yX12_atOnce, 12, 3, 1, some .int, false), (cX12_leastOf, yX12_leastOf, 12, 5, 3, some .int, false), (cX12_shortest, yX12_shortest, 12, 7, 2, some .int, false), (cX12_sumBetween, yX12_sumBetween, 12, 5, 3, some .int, false), (cX12_inOrder, yX12_inOrder, 12, 8, 2, some .int, false), (cX12_seed, yX12_seed, 12, 2, 2, some .boolean, false), (cX12_keep, yX12_keep, 12, 1, 1, some .int, false), (cX12_undo, yX12_undo, 12, 1, 1, some .boolean, false), (cX12_check, yX12_check, 12, 3, 2, some .int, false), (cX12_count, yX12_count, 12, 4, 2, some .int, false), (cJ6_bitCount_0f7a4, yJ6_bitCount_0f7a4, 14, 1, 1, some .int, true), (cJ9_max_7cf53, yJ9_max_7cf53, 15, 2, 2, some .int, true), (cJ9_min_7cf53, yJ9_min_7cf53, 15, 2, 2, some .int, true), (cL_law, yL_law, 13, 4, 1, some .boolean, true)]
def mTab : List (ByteArray × MethodName × Nat × Nat × Nat × Option FieldType × Bool) := mTab_0 ++ (mTab_1 ++ (mTab_2 ++ (mTab_3 ++ (mTab_4))))
/-- the constant pools, as far as used: place, what is there: a field (class, slot, kind 0 int 1 boolean 2 reference), a method (number, arguments with this, 10 static 11 virtual), a constant (4, 4, 4, value); reached as a nest mate; the place of its word in the tables -/
def aPl_0 : List (Nat × aP × Bool × Nat) := [(9, (0, 0, 2, 0), false, 264), (13, (0, 1, 0, 0), false, 265), (17, (0, 2, 1, 0), false, 266), (21, (0, 3, 0, 0), false, 267), (24, (0, 4, 0, 0), false, 268), (27, (0, 5, 0, 0), false, 269), (30, (2, 4, 11, 0), false, 682), (36, (3, 5, 0, 0), true, 234), (39, (3, 0, 2, 0), true, 224), (42, (3, 2, 2, 0), true, 228), (45, (3, 3, 2, 0), true, 230), (48, (5, 5, 11, 0), false, 690), (52, (3, 1, 2, 0), true, 226), (55, (1001, 2, 14, 0), false, 731), (61, (1001, 2, 13, 0), false, 734), (64, (49, 2, 11, 0), false, 694), (68, (6, 2, 11, 0), false, 698), (72, (7, 1, 11, 0), false, 702), (76, (8, 1, 11, 0), false, 706), (79, (9, 3, 11, 0), false, 710), (83, (10, 2, 11, 0), false, 723), (86, (114, 2, 11, 0), false, 714), (91, (121, 2, 11, 0), false, 715), (94, (122, 2, 11, 0), false, 719), (97, (10, 5, 0, 0), true, 177), (100, (11, 4, 11, 0), false, 727)]
def aPl_1 : List (Nat × aP × Bool × Nat) := [(9, (1, 0, 2, 0), false, 304), (15, (1, 1, 2, 0), false, 305), (18, (1, 2, 2, 0), false, 306), (21, (1, 3, 2, 0), false, 307), (24, (1, 4, 2, 0), false, 308), (27, (1, 5, 2, 0), false, 309), (30, (1, 6, 0, 0), false, 310), (34, (114, 2, 11, 0), false, 833), (40, (121, 2, 11, 0), false, 834), (43, (116, 3, 11, 0), false, 835), (47, (177, 1, 10, 0), true, 854), (51, (1001, 2, 13, 0), false, 883), (56, (4, 4, 4, 1000000), false, 840), (57, (16, 1, 11, 0), false, 841), (60, (17, 2, 11, 0), false, 845), (63, (1001, 2, 14, 0), false, 849)]
def aPl_2 : List (Nat × aP × Bool × Nat) := [(9, (2, 0, 2, 0), false, 363), (15, (2, 1, 2, 0), false, 364), (18, (2, 2, 2, 0), false, 365), (21, (2, 3, 2, 0), false, 366), (24, (2, 4, 2, 0), false, 367), (27, (2, 5, 2, 0), false, 368), (30, (95, 2, 11, 0), false, 1057), (36, (1001, 2, 14, 0), false, 1070), (42, (4, 4, 4, 1000000), false, 1071), (43, (28, 5, 11, 0), false, 1072), (47, (24, 2, 11, 0), false, 1076), (50, (4, 4, 4, 1000000000), false, 1084), (51, (29, 2, 11, 0), false, 1085), (54, (30, 2, 11, 0), false, 1089), (57, (25, 3, 11, 0), false, 1080), (60, (33, 4, 11, 0), false, 1102), (64, (35, 3, 11, 0), false, 1114), (68, (37, 2, 11, 0), false, 1130), (72, (39, 4, 11, 0), false, 1142), (75, (40, 3, 11, 0), false, 1146)]
def aPl_3 : List (Nat × aP × Bool × Nat) := [(11, (3, 0, 2, 0), false, 223), (15, (3, 1, 2, 0), false, 225), (18, (3, 2, 2, 0), false, 227), (21, (3, 3, 2, 0), false, 229), (24, (3, 4, 2, 0), false, 231), (27, (3, 5, 0, 0), false, 232), (31, (3, 6, 0, 0), false, 236), (34, (1000, 5, 12, 0), false, 603)]
def aPl_4 : List (Nat × aP × Bool × Nat) := [(12, (4, 0, 2, 0), false, 253), (18, (99, 2, 11, 0), false, 491), (24, (42, 1, 11, 0), false, 495), (27, (52, 2, 11, 0), false, 499), (31, (9, 5, 0, 0), true, 147), (35, (100, 1, 11, 0), false, 591), (39, (3, 5, 0, 0), true, 233), (42, (105, 2, 11, 0), false, 538), (46, (101, 1, 11, 0), false, 503), (50, (103, 2, 11, 0), false, 511), (53, (102, 1, 11, 0), false, 518), (56, (44, 2, 11, 0), false, 522), (59, (58, 3, 11, 0), false, 526), (63, (45, 1, 11, 0), false, 559), (66, (53, 3, 11, 0), false, 563), (69, (46, 1, 11, 0), false, 587), (72, (54, 3, 11, 0), false, 567), (75, (55, 3, 11, 0), false, 579), (79, (3, 6, 0, 0), true, 237), (82, (48, 3, 11, 0), false, 583), (86, (56, 3, 11, 0), false, 571), (89, (47, 2, 11, 0), false, 548), (92, (57, 4, 11, 0), false, 575), (96, (59, 3, 11, 0), false, 530), (99, (60, 3, 11, 0), false, 534), (102, (61, 2, 11, 0), false, 544), (105, (106, 2, 11, 0), false, 552), (108, (9, 4, 0, 0), true, 144)]
def aPl_5 : List (Nat × aP × Bool × Nat) := [(9, (5, 0, 0, 0), false, 207), (15, (99, 2, 11, 0), false, 619), (21, (64, 4, 11, 0), false, 620), (25, (9, 5, 0, 0), true, 146), (28, (100, 1, 11, 0), false, 664), (32, (105, 2, 11, 0), false, 633), (36, (9, 3, 0, 0), true, 141), (39, (101, 1, 11, 0), false, 624), (43, (177, 1, 10, 0), true, 625), (46, (103, 2, 11, 0), false, 626), (49, (110, 2, 11, 0), false, 627), (54, (102, 1, 11, 0), false, 628), (57, (65, 4, 11, 0), false, 629), (60, (106, 2, 11, 0), false, 634), (63, (9, 4, 0, 0), true, 143), (66, (66, 5, 11, 0), false, 635), (70, (104, 3, 11, 0), false, 660), (74, (67, 4, 11, 0), false, 639), (78, (68, 4, 11, 0), false, 651), (81, (114, 2, 11, 0), false, 643), (85, (115, 3, 11, 0), false, 647), (89, (116, 3, 11, 0), false, 655), (93, (117, 4, 11, 0), false, 659)]
def aPl_6 : List (Nat × aP × Bool × Nat) := [(9, (6, 0, 0, 0), false, 289), (15, (6, 1, 0, 0), false, 291), (18, (10, 5, 0, 0), true, 176), (23, (71, 4, 11, 0), false, 673), (27, (72, 4, 11, 0), false, 755), (30, (73, 4, 11, 0), false, 762), (33, (110, 2, 11, 0), false, 677), (37, (1, 2, 11, 0), false, 678), (43, (3, 5, 11, 0), false, 686), (47, (131, 1, 11, 0), false, 737), (51, (114, 2, 11, 0), false, 742), (55, (1001, 2, 14, 0), false, 743), (61, (74, 3, 11, 0), false, 744), (65, (115, 3, 11, 0), false, 754), (69, (116, 3, 11, 0), false, 759), (72, (2, 4, 11, 0), false, 760), (76, (117, 4, 11, 0), false, 761), (79, (4, 4, 11, 0), false, 766), (83, (129, 2, 11, 0), false, 748), (86, (10, 6, 0, 0), true, 180)]
def aPl_7 : List (Nat × aP × Bool × Nat) := [(9, (7, 0, 2, 0), false, 343), (15, (7, 1, 2, 0), false, 344), (18, (7, 2, 2, 0), false, 345), (21, (7, 3, 0, 0), false, 346), (25, (122, 2, 11, 0), false, 921), (31, (121, 2, 11, 0), false, 922), (34, (77, 2, 11, 0), false, 923), (37, (78, 2, 11, 0), false, 927), (40, (1001, 2, 13, 0), false, 931), (46, (123, 2, 11, 0), false, 973), (49, (80, 2, 11, 0), false, 974), (52, (81, 2, 11, 0), false, 978), (55, (82, 2, 11, 0), false, 982), (58, (1001, 2, 14, 0), false, 986)]
def aPl_8 : List (Nat × aP × Bool × Nat) := [(9, (8, 0, 2, 0), false, 333), (15, (87, 4, 11, 0), false, 940), (19, (88, 3, 11, 0), false, 944), (23, (116, 3, 11, 0), false, 949), (28, (1001, 2, 14, 0), false, 950), (33, (1001, 2, 13, 0), false, 951), (36, (177, 1, 10, 0), true, 948)]
def aPl_9 : List (Nat × aP × Bool × Nat) := [(11, (9, 0, 2, 0), false, 136), (15, (9, 1, 0, 0), false, 137), (19, (9, 2, 0, 0), false, 139), (22, (9, 3, 0, 0), false, 140), (25, (9, 4, 0, 0), false, 142), (28, (9, 5, 0, 0), false, 145), (31, (95, 2, 11, 0), false, 507), (35, (179, 2, 10, 0), true, 515), (39, (101, 1, 11, 0), false, 542), (43, (103, 2, 11, 0), false, 543), (47, (178, 1, 10, 0), true, 556)]
def aPl_10 : List (Nat × aP × Bool × Nat) := [(9, (10, 0, 2, 0), false, 168), (15, (10, 1, 2, 0), false, 169), (18, (10, 2, 2, 0), false, 170), (21, (10, 3, 0, 0), false, 171), (25, (10, 4, 0, 0), false, 173), (28, (10, 5, 0, 0), false, 175), (31, (10, 6, 0, 0), false, 179), (34, (10, 7, 0, 0), false, 182), (37, (1000, 5, 12, 0), false, 614), (43, (177, 1, 10, 0), true, 438), (47, (109, 2, 11, 0), false, 818), (50, (110, 2, 11, 0), false, 447), (53, (118, 3, 11, 0), false, 463), (57, (114, 2, 11, 0), false, 782), (61, (122, 2, 11, 0), false, 801), (64, (121, 2, 11, 0), false, 787), (67, (116, 3, 11, 0), false, 911), (70, (1001, 2, 14, 0), false, 912), (75, (128, 3, 11, 0), false, 806), (78, (117, 4, 11, 0), false, 752), (82, (119, 4, 11, 0), false, 753), (85, (115, 3, 11, 0), false, 1003), (89, (129, 2, 11, 0), false, 1004), (93, (4, 4, 4, 65536), false, 741)]
def aPl_11 : List (Nat × aP × Bool × Nat) := [(10, (11, 0, 2, 0), false, 384), (19, (11, 1, 2, 0), false, 385), (23, (11, 2, 2, 0), false, 386), (26, (11, 3, 2, 0), false, 387), (32, (11, 4, 2, 0), false, 388), (39, (11, 5, 2, 0), false, 389), (46, (11, 6, 2, 0), false, 390), (53, (11, 7, 2, 0), false, 391), (60, (11, 8, 2, 0), false, 392), (67, (11, 9, 2, 0), false, 393), (74, (11, 10, 2, 0), false, 394), (81, (11, 11, 2, 0), false, 395), (88, (11, 12, 2, 0), false, 396), (92, (11, 13, 1, 0), false, 397), (96, (177, 1, 10, 0), false, 431), (100, (113, 3, 11, 0), false, 434), (104, (112, 3, 11, 0), false, 443), (108, (117, 4, 11, 0), false, 451), (112, (120, 3, 11, 0), false, 459), (116, (119, 4, 11, 0), false, 467), (119, (92, 1, 11, 0), false, 475), (123, (93, 2, 11, 0), false, 479), (127, (9, 1, 0, 0), true, 138), (131, (51, 3, 11, 0), false, 487), (135, (94, 1, 11, 0), false, 595), (138, (4, 0, 2, 0), true, 254), (141, (43, 2, 11, 0), false, 599), (145, (108, 2, 11, 0), false, 610), (148, (63, 4, 11, 0), false, 615), (151, (70, 5, 11, 0), false, 669), (155, (6, 0, 0, 0), true, 290), (158, (109, 2, 11, 0), false, 774), (161, (6, 1, 0, 0), true, 292), (164, (124, 1, 11, 0), false, 778), (168, (125, 1, 11, 0), false, 783), (171, (114, 2, 11, 0), false, 788), (175, (4, 4, 4, (-1000000)), false, 793), (176, (110, 2, 11, 0), false, 794), (179, (121, 2, 11, 0), false, 795), (182, (122, 2, 11, 0), false, 796), (185, (123, 2, 11, 0), false, 797), (188, (127, 2, 11, 0), false, 802), (191, (111, 3, 11, 0), false, 814), (194, (116, 3, 11, 0), false, 819), (197, (118, 3, 11, 0), false, 824), (200, (13, 2, 11, 0), false, 829), (203, (15, 1, 11, 0), false, 836), (206, (18, 2, 11, 0), false, 850), (209, (19, 2, 11, 0), false, 855), (212, (21, 1, 11, 0), false, 859), (215, (1, 6, 0, 0), true, 311), (218, (20, 2, 11, 0), false, 867), (221, (148, 3, 11, 0), false, 875), (224, (287, 1, 10, 0), false, 884), (229, (14, 3, 11, 0), false, 879), (232, (1001, 2, 13, 0), false, 902), (237, (126, 1, 11, 0), false, 907), (240, (76, 2, 11, 0), false, 917), (244, (7, 3, 0, 0), true, 347), (247, (86, 3, 11, 0), false, 936), (251, (89, 2, 11, 0), false, 952), (254, (88, 3, 11, 0), false, 956), (257, (90, 2, 11, 0), false, 961), (260, (10, 4, 0, 0), true, 174), (263, (79, 3, 11, 0), false, 969), (266, (83, 2, 11, 0), false, 987), (269, (84, 2, 11, 0), false, 991), (272, (130, 3, 11, 0), false, 999), (275, (158, 2, 11, 0), false, 1009), (278, (96, 2, 11, 0), false, 1013), (281, (160, 3, 11, 0), false, 1021), (284, (161, 3, 11, 0), false, 1025), (287, (95, 2, 11, 0), false, 1029), (290, (163, 2, 10, 0), false, 1034), (293, (164, 3, 10, 0), false, 1037), (297, (97, 2, 11, 0), false, 1048), (300, (179, 2, 10, 0), false, 1052), (303, (23, 4, 11, 0), false, 1053), (307, (168, 3, 11, 0), false, 1062), (310, (27, 3, 11, 0), false, 1066), (314, (29, 2, 11, 0), false, 1093), (317, (31, 2, 11, 0), false, 1094), (320, (32, 4, 11, 0), false, 1098), (324, (34, 1, 11, 0), false, 1110), (327, (98, 2, 11, 0), false, 1122), (330, (36, 3, 11, 0), false, 1126), (333, (38, 3, 11, 0), false, 1138), (336, (4, 4, 4, 65535), false, 1154), (337, (10, 7, 0, 0), true, 183), (340, (10, 5, 0, 0), true, 178), (343, (10, 6, 0, 0), true, 181), (345, (10, 3, 0, 0), true, 172), (348, (26, 1, 11, 0), false, 1171), (350, (3, 5, 0, 0), true, 235), (353, (24, 2, 11, 0), false, 1175)]
def aPl_12 : List (Nat × aP × Bool × Nat) := [(7, (12, 0, 2, 0), false, 1182), (13, (12, 1, 2, 0), false, 1183), (16, (12, 2, 2, 0), false, 1184), (19, (12, 3, 2, 0), false, 1185), (23, (12, 14, 2, 0), false, 1196), (26, (12, 15, 2, 0), false, 1197), (29, (12, 16, 2, 0), false, 1198), (32, (12, 17, 2, 0), false, 1199), (35, (12, 18, 2, 0), false, 1200), (38, (12, 19, 2, 0), false, 1201), (41, (12, 20, 2, 0), false, 1202), (44, (12, 21, 2, 0), false, 1203), (47, (12, 22, 2, 0), false, 1204), (50, (12, 23, 2, 0), false, 1205), (53, (12, 24, 2, 0), false, 1206), (56, (12, 25, 2, 0), false, 1207), (59, (12, 26, 2, 0), false, 1208), (62, (12, 27, 2, 0), false, 1209), (65, (12, 31, 2, 0), false, 1213), (68, (12, 32, 2, 0), false, 1214), (71, (12, 33, 2, 0), false, 1215), (74, (12, 34, 2, 0), false, 1216), (77, (12, 35, 2, 0), false, 1217), (80, (12, 37, 2, 0), false, 1219), (83, (12, 38, 2, 0), false, 1220), (86, (12, 39, 2, 0), false, 1221), (89, (12, 40, 2, 0), false, 1222), (92, (12, 41, 2, 0), false, 1223), (95, (12, 42, 2, 0), false, 1224), (98, (12, 43, 2, 0), false, 1225), (101, (12, 44, 2, 0), false, 1226), (104, (12, 45, 2, 0), false, 1227), (107, (12, 46, 2, 0), false, 1228), (110, (12, 47, 2, 0), false, 1229), (113, (12, 48, 2, 0), false, 1230), (116, (181, 3, 10, 0), false, 1338), (120, (184, 2, 10, 0), false, 1357), (124, (187, 2, 11, 0), false, 1353), (128, (188, 2, 11, 0), false, 1349), (131, (190, 2, 10, 0), false, 1360), (135, (192, 2, 11, 0), false, 1508), (139, (193, 2, 11, 0), false, 1512), (142, (189, 3, 11, 0), false, 1345), (145, (191, 2, 10, 0), false, 1367), (148, (12, 4, 0, 0), false, 1186), (152, (199, 2, 11, 0), false, 1374), (156, (12, 5, 0, 0), false, 1187), (159, (12, 6, 0, 0), false, 1188), (162, (202, 1, 11, 0), false, 1390), (166, (12, 7, 0, 0), false, 1189), (169, (204, 3, 11, 0), false, 1394), (172, (12, 8, 0, 0), false, 1190), (175, (203, 1, 11, 0), false, 1411), (179, (12, 10, 0, 0), false, 1192), (182, (4, 4, 4, 1048576), false, 1410), (183, (12, 9, 0, 0), false, 1191), (186, (12, 11, 0, 0), false, 1193), (189, (209, 1, 11, 0), false, 1433), (192, (207, 3, 11, 0), false, 1419), (196, (208, 2, 11, 0), false, 1406), (199, (206, 1, 11, 0), false, 1415), (202, (210, 1, 10, 0), false, 1423), (205, (213, 1, 11, 0), false, 1402), (208, (211, 1, 10, 0), false, 1426), (211, (212, 2, 11, 0), false, 1429), (215, (214, 2, 11, 0), false, 1437), (218, (215, 1, 11, 0), false, 1398), (221, (216, 1, 11, 0), false, 1449), (224, (219, 1, 11, 0), false, 1445), (227, (217, 2, 11, 0), false, 1453), (230, (218, 2, 11, 0), false, 1457), (233, (12, 12, 0, 0), false, 1194), (236, (220, 1, 11, 0), false, 1441), (239, (222, 2, 11, 0), false, 1382), (242, (221, 1, 11, 0), false, 1386), (245, (205, 2, 11, 0), false, 1461), (248, (12, 13, 0, 0), false, 1195), (251, (224, 3, 10, 0), false, 1524), (255, (225, 3, 11, 0), false, 1520), (258, (229, 1, 11, 0), false, 1476), (261, (12, 28, 0, 0), false, 1210), (264, (230, 1, 11, 0), false, 1480), (267, (231, 4, 11, 0), false, 1484), (270, (186, 2, 10, 0), false, 1469), (274, (232, 1, 11, 0), false, 1472), (277, (234, 2, 11, 0), false, 1535), (280, (12, 29, 0, 0), false, 1211), (283, (228, 2, 11, 0), false, 1504), (286, (226, 3, 11, 0), false, 1516), (289, (4, 4, 4, 65536), false, 1527), (290, (12, 30, 0, 0), false, 1212), (293, (182, 2, 10, 0), false, 1528), (296, (235, 2, 11, 0), false, 1531), (299, (236, 2, 11, 0), false, 1500), (302, (237, 3, 11, 0), false, 1539), (305, (227, 2, 11, 0), false, 1543), (308, (238, 1, 11, 0), false, 1496), (311, (239, 2, 11, 0), false, 1492), (314, (241, 1, 11, 0), false, 1551), (317, (194, 1, 11, 0), false, 1555), (320, (195, 2, 11, 0), false, 1563), (323, (4, 4, 4, (-1000000)), false, 1567), (324, (243, 2, 11, 0), false, 1568), (327, (247, 1, 11, 0), false, 1595), (330, (12, 36, 0, 0), false, 1218), (333, (183, 2, 10, 0), false, 1588), (336, (248, 1, 11, 0), false, 1591), (339, (249, 3, 11, 0), false, 1584), (342, (185, 1, 10, 0), false, 1607), (345, (4, 4, 4, 100000000), false, 1634), (346, (258, 2, 11, 0), false, 1630), (349, (257, 2, 11, 0), false, 1635), (352, (262, 1, 11, 0), false, 1651), (355, (201, 2, 11, 0), false, 1667), (358, (265, 2, 11, 0), false, 1663), (361, (268, 3, 10, 0), false, 1679), (364, (271, 2, 11, 0), false, 1690), (367, (272, 3, 11, 0), false, 1694), (370, (4, 4, 4, 1000000000), false, 1706), (371, (274, 2, 11, 0), false, 1702), (374, (276, 3, 11, 0), false, 1711), (377, (278, 3, 11, 0), false, 1719), (380, (280, 3, 11, 0), false, 1727), (383, (4, 4, 4, 65535), false, 1735), (384, (12, 49, 1, 0), false, 1231)]
def aPl_13 : List (Nat × aP × Bool × Nat) := [(13, (133, 3, 11, 0), false, 427), (17, (196, 3, 11, 0), false, 1334), (18, (134, 4, 11, 0), false, 439), (22, (197, 4, 11, 0), false, 1341), (23, (135, 4, 11, 0), false, 455), (26, (198, 4, 11, 0), false, 1363), (27, (136, 6, 11, 0), false, 471), (31, (200, 6, 11, 0), false, 1370), (32, (137, 2, 11, 0), false, 483), (36, (223, 2, 11, 0), false, 1378), (37, (138, 2, 11, 0), false, 606), (40, (233, 2, 11, 0), false, 1465), (41, (139, 2, 11, 0), false, 665), (44, (240, 2, 11, 0), false, 1488), (45, (140, 3, 11, 0), false, 770), (49, (242, 3, 11, 0), false, 1547), (50, (141, 3, 11, 0), false, 789), (53, (244, 3, 11, 0), false, 1559), (54, (142, 3, 11, 0), false, 810), (57, (245, 3, 11, 0), false, 1572), (58, (143, 3, 11, 0), false, 820), (61, (246, 3, 11, 0), false, 1576), (62, (144, 2, 11, 0), false, 825), (65, (250, 2, 11, 0), false, 1580), (66, (145, 2, 11, 0), false, 863), (69, (251, 2, 11, 0), false, 1599), (70, (146, 2, 11, 0), false, 871), (73, (252, 2, 11, 0), false, 1603), (74, (147, 3, 11, 0), false, 890), (77, (253, 3, 11, 0), false, 1610), (78, (149, 3, 11, 0), false, 894), (81, (254, 3, 11, 0), false, 1614), (82, (150, 2, 11, 0), false, 898), (85, (255, 2, 11, 0), false, 1618), (86, (151, 1, 11, 0), false, 903), (90, (256, 1, 11, 0), false, 1622), (91, (152, 2, 11, 0), false, 913), (94, (263, 2, 11, 0), false, 1647), (95, (153, 3, 11, 0), false, 932), (98, (259, 3, 11, 0), false, 1626), (99, (154, 4, 11, 0), false, 957), (103, (260, 4, 11, 0), false, 1639), (104, (155, 3, 11, 0), false, 965), (107, (261, 3, 11, 0), false, 1643), (108, (156, 3, 11, 0), false, 995), (111, (264, 3, 11, 0), false, 1655), (112, (157, 2, 11, 0), false, 1005), (115, (266, 2, 11, 0), false, 1659), (116, (159, 4, 11, 0), false, 1017), (119, (267, 4, 11, 0), false, 1671), (120, (162, 4, 11, 0), false, 1030), (123, (269, 4, 11, 0), false, 1675), (124, (165, 4, 11, 0), false, 1040), (127, (270, 4, 11, 0), false, 1682), (128, (166, 3, 11, 0), false, 1044), (131, (273, 3, 11, 0), false, 1686), (132, (167, 3, 11, 0), false, 1058), (135, (275, 3, 11, 0), false, 1698), (136, (169, 1, 11, 0), false, 1106), (139, (277, 1, 11, 0), false, 1707), (140, (170, 2, 11, 0), false, 1118), (143, (279, 2, 11, 0), false, 1715), (144, (171, 2, 11, 0), false, 1134), (147, (281, 2, 11, 0), false, 1723), (148, (172, 2, 11, 0), false, 1150), (152, (282, 2, 11, 0), false, 1731), (153, (173, 1, 11, 0), false, 1155), (156, (283, 1, 11, 0), false, 1736), (157, (174, 1, 11, 0), false, 1159), (161, (284, 1, 11, 0), false, 1740), (162, (175, 2, 11, 0), false, 1163), (165, (285, 2, 11, 0), false, 1744), (166, (176, 2, 11, 0), false, 1167), (169, (286, 2, 11, 0), false, 1748)]
def aPl_14 : List (Nat × aP × Bool × Nat) := [(265, (4, 4, 4, 1431655765), false, 887), (266, (4, 4, 4, 858993459), false, 888), (267, (4, 4, 4, 252645135), false, 889)]
def aPl_15 : List (Nat × aP × Bool × Nat) := []
def aPl_16 : List (Nat × aP × Bool × Nat) := []
def aPl : List (List (Nat × aP × Bool × Nat)) := [aPl_0, aPl_1, aPl_2, aPl_3, aPl_4, aPl_5, aPl_6, aPl_7, aPl_8, aPl_9, aPl_10, aPl_11, aPl_12, aPl_13, aPl_14, aPl_15, aPl_16]
/-- a rank for each method, above those that it calls; those that call one another: less by 8 for each level that is open -/
def mRk : List Nat := [0, 1, 0, 4, 4, 3, 0, 0, 1, 2, 2, 1, 0, 2, 1, 2, 0, 1, 1, 1, 1, 0, 0, 1, 0, 0, 0, 2, 1, 0, 0, 1, 3, 2, 2, 1, 1, 0, 2, 1, 0, 0, 0, 0, 0, 0, 0, 0, 0, 0, 1, 67, 66, 9, 8, 1, 7, 6, 5, 4, 3, 0, 0, 5, 4, 3, 3, 2, 2, 0, 6, 5, 5, 5, 3, 0, 2, 0, 1, 3, 1, 0, 0, 0, 0, 0, 3, 2, 1, 2, 2, 0, 0, 0, 0, 0, 1, 1, 1, 0, 0, 1, 0, 1, 1, 2, 2, 0, 0, 1, 1, 2, 2, 1, 1, 1, 1, 1, 1, 1, 2, 0, 0, 2, 2, 1, 2, 3, 2, 2, 3, 0, 2, 2, 3, 3, 1, 68, 6, 7, 7, 4, 3, 3, 3, 3, 4, 4, 3, 4, 3, 3, 3, 4, 4, 4, 4, 4, 3, 3, 2, 1, 1, 0, 0, 1, 2, 5, 4, 3, 2, 3, 0, 1, 1, 2, 2, 0, 0, 0, 0, 0, 0, 0, 0, 0, 0, 1, 2, 3, 0, 0, 1, 1, 2, 2, 1, 4, 4, 0, 1, 0, 0, 1, 0, 1, 2, 0, 1, 0, 0, 0, 1, 3, 0, 4, 1, 1, 1, 5, 6, 7, 0, 8, 0, 1, 2, 2, 2, 1, 2, 1, 3, 4, 1, 2, 3, 3, 4, 5, 6, 3, 6, 1, 3, 2, 2, 1, 2, 3, 4, 4, 4, 4, 4, 4, 1, 1, 0, 2, 2, 3, 2, 3, 4, 1, 4, 1, 0, 1, 1, 1, 1, 2, 2, 3, 0, 1, 0, 1, 1, 2, 1, 1, 1, 2, 3, 0, 0, 0, 69]
def mRec : List Nat := [53, 54, 56, 57, 58, 59, 60]
end
section
/-! THE SMALL MACHINE: the same bytecode over a plain memory (cells by their numbers in lay0, ints as Int, no heap, no threads): its steps, its runs to the end, its runs as a function. Part 04 shows that what it answers the machine answers. -/
def wr (z : Int) : Int := (z + 2147483648) % 4294967296 - 2147483648
def inR (z : Int) : Prop := -2147483648 ≤ z ∧ z < 2147483648
def iAnd (x y : Int) : Int := (Int32.ofInt x &&& Int32.ofInt y).toInt
def iOr (x y : Int) : Int := (Int32.ofInt x ||| Int32.ofInt y).toInt
def iXor (x y : Int) : Int := (Int32.ofInt x ^^^ Int32.ofInt y).toInt
def iShl (x y : Int) : Int := (Int32.ofInt x <<< (Int32.ofInt y &&& 31)).toInt
def iShr (x y : Int) : Int := (Int32.ofInt x >>> (Int32.ofInt y &&& 31)).toInt
def iUshr (x y : Int) : Int := (((Int32.ofInt x).toUInt32 >>> ((Int32.ofInt y).toUInt32 &&& Int32.toUInt32 31)).toInt32).toInt
def b8 (z : Int) : Int := (z + 128) % 256 - 128
def upM (M : aM) (q j : Nat) (x : Int) : aM := fun a => if a = q then (fun b => if b = j then x else M q b) else M a
def cpM (M : aM) (q0 q1 sp dp n : Nat) : aM := fun a => if a = q1 then (fun k => if dp ≤ k ∧ k < dp + n then M q0 (sp + (k - dp)) else M q1 k) else M a
abbrev aS : Type := Option (Nat × List aV × List aV × aM) ⊕ ((Nat × List aV × Nat × List aV) ⊕ Option aV)
abbrev aX : Type := Option (Option aV × aM)
def aNo : aS := .inl none
def aGo (pc : Nat) (L S : List aV) (M : aM) : aS := .inl (some (pc, L, S, M))
def tgt (pc : Nat) (off : Int) : Nat := ((pc : Int) + off).toNat
/-- a jump: where it goes has to be a place -/
def aBr (pc : Nat) (off : Int) (c : Prop) [Decidable c] (L S : List aV) (M : aM) : aS := if 0 ≤ (pc : Int) + off then aGo (if c then tgt pc off else pc + 3) L S M else aNo
/-- one instruction (bz: the method's answer is a boolean; own: whose a method is) -/
def sem (own : Nat → Nat) (bz : Bool) (pc : Nat) (i : Instr) (P : aP) (L S : List aV) (M : aM) : aS :=
  match i with
  | .iconst n => if -128 ≤ n ∧ n < 128 then aGo (pc + 1) L (.inl n :: S) M else aNo
  | .bipush n => if -128 ≤ n ∧ n < 128 then aGo (pc + 2) L (.inl n :: S) M else aNo
  | .sipush n => if -32768 ≤ n ∧ n < 32768 then aGo (pc + 3) L (.inl n :: S) M else aNo
  | .ldc _ => if P.2.2.1 = 4 ∧ -2147483648 ≤ P.2.2.2 ∧ P.2.2.2 < 2147483648 then aGo (pc + 2) L (.inl P.2.2.2 :: S) M else aNo
  | .ldc_w _ => if P.2.2.1 = 4 ∧ -2147483648 ≤ P.2.2.2 ∧ P.2.2.2 < 2147483648 then aGo (pc + 3) L (.inl P.2.2.2 :: S) M else aNo
  | .iload n => match L[n]? with | some (.inl x) => aGo (pc + 2) L (.inl x :: S) M | _ => aNo
  | .iload_n n => match L[(n : Nat)]? with | some (.inl x) => aGo (pc + 1) L (.inl x :: S) M | _ => aNo
  | .aload n => match L[n]? with | some (.inr (some x)) => aGo (pc + 2) L (.inr (some x) :: S) M | _ => aNo
  | .aload_n n => match L[(n : Nat)]? with | some (.inr (some x)) => aGo (pc + 1) L (.inr (some x) :: S) M | _ => aNo
  | .istore n => match S with | .inl x :: S' => if n < L.length then aGo (pc + 2) (L.set n (.inl x)) S' M else aNo | _ => aNo
  | .istore_n n => match S with | .inl x :: S' => if (n : Nat) < L.length then aGo (pc + 1) (L.set n (.inl x)) S' M else aNo | _ => aNo
  | .astore n => match S with | .inr (some x) :: S' => if n < L.length then aGo (pc + 2) (L.set n (.inr (some x))) S' M else aNo | _ => aNo
  | .astore_n n => match S with | .inr (some x) :: S' => if (n : Nat) < L.length then aGo (pc + 1) (L.set n (.inr (some x))) S' M else aNo | _ => aNo
  | .iinc n c => match L[n]? with | some (.inl x) => aGo (pc + 3) (L.set n (.inl (wr (x + c)))) S M | _ => aNo
  | .iadd => match S with | .inl y :: .inl x :: S' => aGo (pc + 1) L (.inl (wr (x + y)) :: S') M | _ => aNo
  | .isub => match S with | .inl y :: .inl x :: S' => aGo (pc + 1) L (.inl (wr (x - y)) :: S') M | _ => aNo
  | .imul => match S with | .inl y :: .inl x :: S' => aGo (pc + 1) L (.inl (wr (x * y)) :: S') M | _ => aNo
  | .idiv => match S with | .inl y :: .inl x :: S' => if y = 0 then aNo else aGo (pc + 1) L (.inl (wr (x.tdiv y)) :: S') M | _ => aNo
  | .irem => match S with | .inl y :: .inl x :: S' => if y = 0 then aNo else aGo (pc + 1) L (.inl (x.tmod y) :: S') M | _ => aNo
  | .ineg => match S with | .inl x :: S' => aGo (pc + 1) L (.inl (wr (-x)) :: S') M | _ => aNo
  | .iand => match S with | .inl y :: .inl x :: S' => aGo (pc + 1) L (.inl (iAnd x y) :: S') M | _ => aNo
  | .ior => match S with | .inl y :: .inl x :: S' => aGo (pc + 1) L (.inl (iOr x y) :: S') M | _ => aNo
  | .ixor => match S with | .inl y :: .inl x :: S' => aGo (pc + 1) L (.inl (iXor x y) :: S') M | _ => aNo
  | .ishl => match S with | .inl y :: .inl x :: S' => aGo (pc + 1) L (.inl (iShl x y) :: S') M | _ => aNo
  | .ishr => match S with | .inl y :: .inl x :: S' => aGo (pc + 1) L (.inl (iShr x y) :: S') M | _ => aNo
  | .iushr => match S with | .inl y :: .inl x :: S' => aGo (pc + 1) L (.inl (iUshr x y) :: S') M | _ => aNo
  | .i2b => match S with | .inl x :: S' => aGo (pc + 1) L (.inl (b8 x) :: S') M | _ => aNo
  | .dup => match S with | v :: S' => aGo (pc + 1) L (v :: v :: S') M | _ => aNo
  | .dup2 => match S with | v :: w :: S' => aGo (pc + 1) L (v :: w :: v :: w :: S') M | _ => aNo
  | .pop => match S with | _ :: S' => aGo (pc + 1) L S' M | _ => aNo
  | .goto off => if 0 ≤ (pc : Int) + off then aGo (tgt pc off) L S M else aNo
  | .ifCond .eq off => match S with | .inl x :: S' => aBr pc off (x = 0) L S' M | _ => aNo
  | .ifCond .ne off => match S with | .inl x :: S' => aBr pc off (¬ x = 0) L S' M | _ => aNo
  | .ifCond .lt off => match S with | .inl x :: S' => aBr pc off (x < 0) L S' M | _ => aNo
  | .ifCond .ge off => match S with | .inl x :: S' => aBr pc off (0 ≤ x) L S' M | _ => aNo
  | .ifCond .gt off => match S with | .inl x :: S' => aBr pc off (0 < x) L S' M | _ => aNo
  | .ifCond .le off => match S with | .inl x :: S' => aBr pc off (x ≤ 0) L S' M | _ => aNo
  | .if_icmp .eq off => match S with | .inl y :: .inl x :: S' => aBr pc off (x = y) L S' M | _ => aNo
  | .if_icmp .ne off => match S with | .inl y :: .inl x :: S' => aBr pc off (¬ x = y) L S' M | _ => aNo
  | .if_icmp .lt off => match S with | .inl y :: .inl x :: S' => aBr pc off (x < y) L S' M | _ => aNo
  | .if_icmp .ge off => match S with | .inl y :: .inl x :: S' => aBr pc off (y ≤ x) L S' M | _ => aNo
  | .if_icmp .gt off => match S with | .inl y :: .inl x :: S' => aBr pc off (y < x) L S' M | _ => aNo
  | .if_icmp .le off => match S with | .inl y :: .inl x :: S' => aBr pc off (x ≤ y) L S' M | _ => aNo
  | .tableswitch d lo hi offs => match S with
    | .inl x :: S' => if x < lo ∨ hi < x then (if 0 ≤ (pc : Int) + d then aGo (tgt pc d) L S' M else aNo) else (match offs[(x - lo).toNat]? with | some off => if 0 ≤ (pc : Int) + off then aGo (tgt pc off) L S' M else aNo | none => aNo)
    | _ => aNo
  | .lookupswitch d ps => match S with
    | .inl x :: S' => if (ps.toList.zip (ps.toList.drop 1)).all (fun (a, next) => a.1 < next.1) = true ∧ 0 ≤ (pc : Int) + Op.lookupswitch.offset ps.toList d x then aGo (tgt pc (Op.lookupswitch.offset ps.toList d x)) L S' M else aNo
    | _ => aNo
  | .getfield _ => match S with
    | .inr (some q) :: S' => match lay0[q]? with
      | some (.inl (c, refs)) => if c = P.1 then (match refs[P.2.1]? with
        | some (some q') => if P.2.2.1 = 2 then aGo (pc + 3) L (.inr (some q') :: S') M else aNo
        | some none => if P.2.2.1 ≤ 1 then aGo (pc + 3) L (.inl (M q P.2.1) :: S') M else aNo
        | none => aNo) else aNo
      | _ => aNo
    | _ => aNo
  | .putfield _ => match S with
    | .inl x :: .inr (some q) :: S' => match lay0[q]? with
      | some (.inl (c, refs)) => if c = P.1 ∧ refs[P.2.1]? = some none ∧ (P.2.2.1 = 0 ∨ P.2.2.1 = 1 ∧ (x = 0 ∨ x = 1)) then aGo (pc + 3) L S' (upM M q P.2.1 x) else aNo
      | _ => aNo
    | _ => aNo
  | .iaload => match S with
    | .inl j :: .inr (some q) :: S' => match lay0[q]? with
      | some (.inr (t, n)) => if t = 0 then (if 0 ≤ j ∧ j < (n : Int) then aGo (pc + 1) L (.inl (M q j.toNat) :: S') M else aNo) else if t = 2 ∧ q = 0 then (if 0 ≤ j ∧ j < M 0 4000 then aGo (pc + 1) L (.inl (M 0 j.toNat) :: S') M else aNo) else aNo
      | _ => aNo
    | _ => aNo
  | .baload => match S with
    | .inl j :: .inr (some q) :: S' => match lay0[q]? with
      | some (.inr (t, n)) => if t = 1 then (if 0 ≤ j ∧ j < (n : Int) then aGo (pc + 1) L (.inl (M q j.toNat) :: S') M else aNo) else aNo
      | _ => aNo
    | _ => aNo
  | .iastore => match S with
    | .inl x :: .inl j :: .inr (some q) :: S' => match lay0[q]? with
      | some (.inr (t, n)) => if t = 0 then (if 0 ≤ j ∧ j < (n : Int) then aGo (pc + 1) L S' (upM M q j.toNat x) else aNo) else aNo
      | _ => aNo
    | _ => aNo
  | .bastore => match S with
    | .inl x :: .inl j :: .inr (some q) :: S' => match lay0[q]? with
      | some (.inr (t, n)) => if t = 1 then (if 0 ≤ j ∧ j < (n : Int) then aGo (pc + 1) L S' (upM M q j.toNat (b8 x)) else aNo) else aNo
      | _ => aNo
    | _ => aNo
  | .arraylength => match S with
    | .inr (some 0) :: S' => aGo (pc + 1) L (.inl (M 0 4000) :: S') M
    | _ => aNo
  | .invokestatic _ => if P.2.2.1 = 12 then (match S with
      | .inl n :: .inl dp :: .inr (some q1) :: .inl sp :: .inr (some q0) :: S' => match lay0[q0]?, lay0[q1]? with
        | some (.inr (0, n0)), some (.inr (0, n1)) => if (0 ≤ sp ∧ 0 ≤ dp ∧ 0 ≤ n ∧ sp + n ≤ (n0 : Int) ∧ dp + n ≤ (n1 : Int)) ∧ S'.length ≤ 8 then aGo (pc + 3) L S' (cpM M q0 q1 sp.toNat dp.toNat n.toNat) else aNo
        | _, _ => aNo
      | _ => aNo)
    else if P.2.2.1 = 13 then (match S with | .inl y :: .inl x :: S' => if S'.length ≤ 8 then aGo (pc + 3) L (.inl (max x y) :: S') M else aNo | _ => aNo)
    else if P.2.2.1 = 14 then (match S with | .inl y :: .inl x :: S' => if S'.length ≤ 8 then aGo (pc + 3) L (.inl (min x y) :: S') M else aNo | _ => aNo)
    else if P.2.2.1 = 10 ∧ P.2.1 ≤ S.length ∧ S.length ≤ P.2.1 + 8 then .inr (.inl (P.1, (S.take P.2.1).reverse, pc + 3, S.drop P.2.1)) else aNo
  | .invokevirtual _ => if P.2.2.1 = 11 ∧ P.2.1 ≤ S.length ∧ S.length ≤ P.2.1 + 8 then (match (S.take P.2.1).reverse with
      | .inr (some q) :: _ => match lay0[q]? with
        | some (.inl (c, _)) => if c = own P.1 then .inr (.inl (P.1, (S.take P.2.1).reverse, pc + 3, S.drop P.2.1)) else aNo
        | _ => aNo
      | _ => aNo) else aNo
  | .ireturn => match S with
    | [.inl x] => if bz = true → (x = 0 ∨ x = 1) then .inr (.inr (some (.inl x))) else aNo
    | _ => aNo
  | .return_ => match S with | [] => .inr (.inr none) | _ => aNo
  | _ => aNo
/-- which place of the constant pool an instruction names -/
def idxOf (i : Instr) : Option Nat := match i with
  | .getfield k => some k
  | .putfield k => some k
  | .invokestatic k => some k
  | .invokevirtual k => some k
  | .ldc k => some k
  | .ldc_w k => some k
  | _ => none
def okLen (i : Instr) (n : Nat) : Bool := match i with
  | .bipush _ => n == 2 | .ldc _ => n == 2 | .iload _ => n == 2 | .aload _ => n == 2 | .istore _ => n == 2 | .astore _ => n == 2
  | .sipush _ => n == 3 | .ldc_w _ => n == 3 | .iinc _ _ => n == 3 | .goto _ => n == 3 | .ifCond _ _ => n == 3 | .if_icmp _ _ => n == 3
  | .getfield _ => n == 3 | .putfield _ => n == 3 | .invokestatic _ => n == 3 | .invokevirtual _ => n == 3
  | .tableswitch .. => true | .lookupswitch .. => true
  | _ => n == 1
def mOwn (c : Nat) : Nat := match mTab[c]? with | some e => e.2.2.1 | none => 999
def mBz (c : Nat) : Bool := match mTab[c]? with | some e => e.2.2.2.2.2.1 == some .boolean | none => false
def mVd (c : Nat) : Bool := match mTab[c]? with | some e => e.2.2.2.2.2.1 == none | none => false
def mMx (c : Nat) : Nat := match mTab[c]? with | some e => e.2.2.2.1 | none => 0
/-- the instruction at a place of a method, with what its pool place holds -/
def rfI (c pc : Nat) : Option (Instr × aP) := match mTab[c]? with
  | some e => match decode e.1 pc with
    | .ok (i, n) => if okLen i n = true then (match idxOf i with
      | none => some (i, (0, 0, 0, 0))
      | some k => match aPl[e.2.2.1]? with
        | some l => (l.lookup k).map (fun z => (i, z.1))
        | none => none) else none
    | .error _ => none
  | none => none
def stp (c pc : Nat) (L S : List aV) (M : aM) : aS := match rfI c pc with
  | some (i, P) => sem mOwn (mBz c) pc i P L S M
  | none => aNo
def rkF (c : Nat) (a : List aV) : Nat := mRk.getD c 0 + (if mRec.contains c then 8 * (7 - (match a.getLast? with | some (.inl o) => o.toNat | _ => 7)) else 0)
def padF (c : Nat) (a : List aV) : List aV := a ++ List.replicate (mMx c - a.length) (.inr none)
/-- what goes on behind a call -/
def cnt (vd : Bool) (q : Option aV × aM) (f : List aV → aM → aX) : aX := match vd, q.1 with
  | true, none => f [] q.2
  | false, some (.inl v) => f [.inl v] q.2
  | _, _ => none
def ex : Nat → Nat → Nat → Nat → List aV → List aV → aM → aX
  | 0, _, _, _, _, _, _ => none
  | n + 1, r, c, pc, L, S, M => match stp c pc L S M with
    | .inl none => none
    | .inl (some (pc', L', S', M')) => ex n r c pc' L' S' M'
    | .inr (.inl (d, a, pc', S')) => if rkF d a < r then (ex n (rkF d a) d 0 (padF d a) [] M).bind (fun q => cnt (mVd d) q (fun v M' => ex n r c pc' L (v ++ S') M')) else none
    | .inr (.inr v) => some (v, M)
theorem cnt_mono {vd : Bool} {q : Option aV × aM} {f g : List aV → aM → aX} {x : Option aV × aM} (h : ∀ v M y, f v M = some y → g v M = some y) (hc : cnt vd q f = some x) : cnt vd q g = some x := by
  unfold cnt at hc ⊢
  split at hc
  · exact h _ _ _ hc
  · exact h _ _ _ hc
  · cases hc
theorem ex_mono : ∀ (n r c pc : Nat) (L S : List aV) (M : aM) (x : Option aV × aM), ex n r c pc L S M = some x → ex (n + 1) r c pc L S M = some x := by
  intro n
  induction n with
  | zero => intro r c pc L S M x h; cases h
  | succ n ih =>
    intro r c pc L S M x h
    rw [ex] at h ⊢
    split at h
    · cases h
    · exact ih _ _ _ _ _ _ _ h
    · split at h
      · next hr =>
        rw [if_pos hr]
        rw [Option.bind_eq_some_iff] at h ⊢
        obtain ⟨q, h1, h2⟩ := h
        exact ⟨q, ih _ _ _ _ _ _ _ h1, cnt_mono (fun v M y hy => ih _ _ _ _ _ _ _ hy) h2⟩
      · cases h
    · exact h
theorem ex_le {n m r c pc : Nat} {L S : List aV} {M : aM} {x : Option aV × aM} (h : n ≤ m) (hx : ex n r c pc L S M = some x) : ex m r c pc L S M = some x := by
  induction h with
  | refl => exact hx
  | step _ ih => exact ex_mono _ _ _ _ _ _ _ _ ih
theorem ex_det {n m r c pc : Nat} {L S : List aV} {M : aM} {x y : Option aV × aM} (hx : ex n r c pc L S M = some x) (hy : ex m r c pc L S M = some y) : x = y := by
  have h1 := ex_le (Nat.le_max_left n m) hx
  have h2 := ex_le (Nat.le_max_right n m) hy
  rw [h1] at h2
  exact Option.some.inj h2
/-- the whole run as a function -/
noncomputable def run (r c pc : Nat) (L S : List aV) (M : aM) : aX :=
  @dite _ (∃ (x : Option aV × aM) (n : Nat), ex n r c pc L S M = some x) (Classical.propDecidable _) (fun h => some (Classical.choose h)) (fun _ => none)
theorem run_iff {r c pc : Nat} {L S : List aV} {M : aM} {x : Option aV × aM} : run r c pc L S M = some x ↔ ∃ n, ex n r c pc L S M = some x := by
  unfold run
  by_cases h : ∃ (x : Option aV × aM) (n : Nat), ex n r c pc L S M = some x
  · rw [dif_pos h]
    obtain ⟨n, hn⟩ := Classical.choose_spec h
    constructor
    · intro e; exact ⟨n, by rw [hn, ← Option.some.inj e]⟩
    · rintro ⟨m, hm⟩; rw [ex_det hn hm]
  · rw [dif_neg h]
    constructor
    · intro e; cases e
    · rintro ⟨m, hm⟩; exact absurd ⟨x, m, hm⟩ h
theorem run_ext {a b : aX} (h : ∀ x, a = some x ↔ b = some x) : a = b := by
  cases a with
  | none => cases b with
    | none => rfl
    | some y => exact ((h y).mpr rfl)
  | some x => exact ((h x).mp rfl).symm
noncomputable def fnA (c : Nat) (a : List aV) (M : aM) : aX := run (rkF c a) c 0 (padF c a) [] M
def bI (X : aX) (f : Int → aM → aX) : aX := match X with | some (some (.inl v), M) => f v M | _ => none
def bV (X : aX) (f : aM → aX) : aX := match X with | some (none, M) => f M | _ => none
theorem bI_s {v : Int} {M : aM} {f : Int → aM → aX} : bI (some (some (.inl v), M)) f = f v M := rfl
theorem bV_s {M : aM} {f : aM → aX} : bV (some (none, M)) f = f M := rfl
theorem run_go {r c pc pc' : Nat} {L S L' S' : List aV} {M M' : aM} (h : stp c pc L S M = aGo pc' L' S' M') : run r c pc L S M = run r c pc' L' S' M' := by
  refine run_ext fun x => ?_
  rw [run_iff, run_iff]
  constructor
  · rintro ⟨n, hn⟩
    cases n with
    | zero => cases hn
    | succ n => rw [ex, h] at hn; exact ⟨n, hn⟩
  · rintro ⟨n, hn⟩
    exact ⟨n + 1, by rw [ex, h]; exact hn⟩
theorem run_no {r c pc : Nat} {L S : List aV} {M : aM} (h : stp c pc L S M = aNo) : run r c pc L S M = none := by
  refine run_ext fun x => ?_
  rw [run_iff]
  constructor
  · rintro ⟨n, hn⟩
    cases n with
    | zero => cases hn
    | succ n => rw [ex, h] at hn; cases hn
  · intro h; cases h
theorem run_ret {r c pc : Nat} {L S : List aV} {M : aM} {v : Option aV} (h : stp c pc L S M = .inr (.inr v)) : run r c pc L S M = some (v, M) := run_iff.mpr ⟨1, by rw [ex, h]⟩
theorem run_call {r c pc d pc' : Nat} {L S a S' : List aV} {M : aM} (h : stp c pc L S M = .inr (.inl (d, a, pc', S'))) : run r c pc L S M = if rkF d a < r then (fnA d a M).bind (fun q => cnt (mVd d) q (fun v M' => run r c pc' L (v ++ S') M')) else none := by
  refine run_ext fun x => ?_
  rw [run_iff]
  by_cases hr : rkF d a < r
  · rw [if_pos hr, Option.bind_eq_some_iff]
    constructor
    · rintro ⟨n, hn⟩
      cases n with
      | zero => cases hn
      | succ n =>
        rw [ex, h] at hn
        dsimp only at hn
        rw [if_pos hr, Option.bind_eq_some_iff] at hn
        obtain ⟨q, h1, h2⟩ := hn
        exact ⟨q, run_iff.mpr ⟨n, h1⟩, cnt_mono (fun v M y hy => run_iff.mpr ⟨n, hy⟩) h2⟩
    · rintro ⟨q, h1, h2⟩
      obtain ⟨n, hn⟩ := run_iff.mp h1
      have hm : ∃ m, cnt (mVd d) q (fun v M' => ex m r c pc' L (v ++ S') M') = some x := by
        unfold cnt at h2 ⊢
        split at h2
        · exact run_iff.mp h2
        · exact run_iff.mp h2
        · cases h2
      obtain ⟨m, hm⟩ := hm
      refine ⟨max n m + 1, ?_⟩
      rw [ex, h]
      dsimp only
      rw [if_pos hr, Option.bind_eq_some_iff]
      exact ⟨q, ex_le (Nat.le_max_left n m) hn, cnt_mono (fun v M y hy => ex_le (Nat.le_max_right n m) hy) hm⟩
  · rw [if_neg hr]
    constructor
    · rintro ⟨n, hn⟩
      cases n with
      | zero => cases hn
      | succ n => rw [ex, h] at hn; dsimp only at hn; rw [if_neg hr] at hn; cases hn
    · intro h; cases h
theorem bind_bI {X : aX} {f : List aV → aM → aX} : X.bind (fun q => cnt false q f) = bI X (fun v M => f [.inl v] M) := by
  unfold bI cnt
  cases X with
  | none => rfl
  | some q =>
    obtain ⟨v, M⟩ := q
    rcases v with _ | (v | v) <;> rfl
theorem bind_bV {X : aX} {f : List aV → aM → aX} : X.bind (fun q => cnt true q f) = bV X (fun M => f [] M) := by
  unfold bV cnt
  cases X with
  | none => rfl
  | some q =>
    obtain ⟨v, M⟩ := q
    rcases v with _ | v <;> rfl
end
section
/-! What the tables say of the numbers of part 02: each word by its place. -/
def gT : List Jvm.Cond := lw_tbl.filter goodWord
def isNw : Jvm.Cond → Bool
  | .fieldLinkNest .. => true
  | .methodLinkNest .. => true
  | _ => false
def nT : List Jvm.Cond := lw_tbl.filter isNw
def nOK (U : State) : Prop := ∀ w ∈ nT, va_Nw w U
theorem nOK.warm {s U : State} (hW : s.WarmedH U.vm) (h : nOK s) : nOK U := by
  intro w hw
  have h1 := h w hw
  have h2 := (List.mem_filter.mp hw).2
  cases w <;> first | (exact va_Nw.warmF hW h1) | (exact va_Nw.warmM hW h1) | (exact absurd h2 (by simp [isNw]))
theorem nOK.same {s U : State} (e : s.vm = U.vm) (h : nOK s) : nOK U := by
  intro w hw
  have h1 := h w hw
  have h2 := (List.mem_filter.mp hw).2
  cases w <;> first | (exact va_Nw.same rfl e h1) | (exact absurd h2 (by simp [isNw]))
theorem gT_good : GoodIn gT gT := fun w h => ⟨h, good_of_word (List.mem_filter.mp h).2⟩
def chkW (p : Nat) (w : Jvm.Cond) : Bool := decide (lw_tbl[p]? = some w) && goodWord w
def chkN (p : Nat) (w : Jvm.Cond) : Bool := decide (lw_tbl[p]? = some w) && isNw w
theorem chkW_in {p : Nat} {w : Jvm.Cond} (h : chkW p w = true) : w ∈ gT := by
  simp only [chkW, Bool.and_eq_true, decide_eq_true_eq] at h
  exact List.mem_filter.mpr ⟨List.mem_of_getElem? h.1, h.2⟩
theorem chkN_in {p : Nat} {w : Jvm.Cond} (h : chkN p w = true) : w ∈ nT := by
  simp only [chkN, Bool.and_eq_true, decide_eq_true_eq] at h
  exact List.mem_filter.mpr ⟨List.mem_of_getElem? h.1, h.2⟩
def hostN : String := "ToadBank"
def clTy (c : Nat) : Nat → FieldType := match c with
  | 0 => tyX0
  | 1 => tyX1
  | 2 => tyX2
  | 3 => tyX3
  | 4 => tyX4
  | 5 => tyX5
  | 6 => tyX6
  | 7 => tyX7
  | 8 => tyX8
  | 9 => tyX9
  | 10 => tyX10
  | 11 => tyX11
  | 12 => tyX12
  | _ => fun _ => .int
theorem hosts : aCls.length = 17 := by decide +kernel
theorem clw_0 : (List.range 6).all (fun q => chkW (([270, 272, 274, 276, 278, 280] : List Nat).getD q 0) (u_lay RX0 TX0 q)) = true := by decide +kernel
theorem clg_0 : ∀ w ∈ u_ws RX0 TX0 6, w ∈ gT := by
  intro w hw
  obtain ⟨k, hk, rfl⟩ := List.mem_map.mp hw
  exact chkW_in (List.all_eq_true.mp clw_0 k hk)
theorem clw_1 : (List.range 7).all (fun q => chkW (([312, 314, 316, 318, 320, 322, 324] : List Nat).getD q 0) (u_lay RX1 TX1 q)) = true := by decide +kernel
theorem clg_1 : ∀ w ∈ u_ws RX1 TX1 7, w ∈ gT := by
  intro w hw
  obtain ⟨k, hk, rfl⟩ := List.mem_map.mp hw
  exact chkW_in (List.all_eq_true.mp clw_1 k hk)
theorem clw_2 : (List.range 6).all (fun q => chkW (([369, 371, 373, 375, 377, 379] : List Nat).getD q 0) (u_lay RX2 TX2 q)) = true := by decide +kernel
theorem clg_2 : ∀ w ∈ u_ws RX2 TX2 6, w ∈ gT := by
  intro w hw
  obtain ⟨k, hk, rfl⟩ := List.mem_map.mp hw
  exact chkW_in (List.all_eq_true.mp clw_2 k hk)
theorem clw_3 : (List.range 7).all (fun q => chkW (([238, 240, 242, 244, 246, 248, 250] : List Nat).getD q 0) (u_lay RX3 TX3 q)) = true := by decide +kernel
theorem clg_3 : ∀ w ∈ u_ws RX3 TX3 7, w ∈ gT := by
  intro w hw
  obtain ⟨k, hk, rfl⟩ := List.mem_map.mp hw
  exact chkW_in (List.all_eq_true.mp clw_3 k hk)
theorem clw_4 : (List.range 1).all (fun q => chkW (([255] : List Nat).getD q 0) (u_lay RX4 TX4 q)) = true := by decide +kernel
theorem clg_4 : ∀ w ∈ u_ws RX4 TX4 1, w ∈ gT := by
  intro w hw
  obtain ⟨k, hk, rfl⟩ := List.mem_map.mp hw
  exact chkW_in (List.all_eq_true.mp clw_4 k hk)
theorem clw_5 : (List.range 1).all (fun q => chkW (([208] : List Nat).getD q 0) (u_lay RX5 TX5 q)) = true := by decide +kernel
theorem clg_5 : ∀ w ∈ u_ws RX5 TX5 1, w ∈ gT := by
  intro w hw
  obtain ⟨k, hk, rfl⟩ := List.mem_map.mp hw
  exact chkW_in (List.all_eq_true.mp clw_5 k hk)
theorem clw_6 : (List.range 2).all (fun q => chkW (([293, 295] : List Nat).getD q 0) (u_lay RX6 TX6 q)) = true := by decide +kernel
theorem clg_6 : ∀ w ∈ u_ws RX6 TX6 2, w ∈ gT := by
  intro w hw
  obtain ⟨k, hk, rfl⟩ := List.mem_map.mp hw
  exact chkW_in (List.all_eq_true.mp clw_6 k hk)
theorem clw_7 : (List.range 4).all (fun q => chkW (([348, 350, 352, 354] : List Nat).getD q 0) (u_lay RX7 TX7 q)) = true := by decide +kernel
theorem clg_7 : ∀ w ∈ u_ws RX7 TX7 4, w ∈ gT := by
  intro w hw
  obtain ⟨k, hk, rfl⟩ := List.mem_map.mp hw
  exact chkW_in (List.all_eq_true.mp clw_7 k hk)
theorem clw_8 : (List.range 1).all (fun q => chkW (([334] : List Nat).getD q 0) (u_lay RX8 TX8 q)) = true := by decide +kernel
theorem clg_8 : ∀ w ∈ u_ws RX8 TX8 1, w ∈ gT := by
  intro w hw
  obtain ⟨k, hk, rfl⟩ := List.mem_map.mp hw
  exact chkW_in (List.all_eq_true.mp clw_8 k hk)
theorem clw_9 : (List.range 6).all (fun q => chkW (([148, 150, 152, 154, 156, 158] : List Nat).getD q 0) (u_lay RX9 TX9 q)) = true := by decide +kernel
theorem clg_9 : ∀ w ∈ u_ws RX9 TX9 6, w ∈ gT := by
  intro w hw
  obtain ⟨k, hk, rfl⟩ := List.mem_map.mp hw
  exact chkW_in (List.all_eq_true.mp clw_9 k hk)
theorem clw_10 : (List.range 8).all (fun q => chkW (([184, 186, 188, 190, 192, 194, 196, 198] : List Nat).getD q 0) (u_lay RX10 TX10 q)) = true := by decide +kernel
theorem clg_10 : ∀ w ∈ u_ws RX10 TX10 8, w ∈ gT := by
  intro w hw
  obtain ⟨k, hk, rfl⟩ := List.mem_map.mp hw
  exact chkW_in (List.all_eq_true.mp clw_10 k hk)
theorem clw_11 : (List.range 14).all (fun q => chkW (([398, 400, 402, 404, 406, 408, 410, 412, 414, 416, 418, 420, 422, 424] : List Nat).getD q 0) (u_lay RX11 TX11 q)) = true := by decide +kernel
theorem clg_11 : ∀ w ∈ u_ws RX11 TX11 14, w ∈ gT := by
  intro w hw
  obtain ⟨k, hk, rfl⟩ := List.mem_map.mp hw
  exact chkW_in (List.all_eq_true.mp clw_11 k hk)
theorem clw_12 : (List.range 50).all (fun q => chkW (([1232, 1234, 1236, 1238, 1240, 1242, 1244, 1246, 1248, 1250, 1252, 1254, 1256, 1258, 1260, 1262, 1264, 1266, 1268, 1270, 1272, 1274, 1276, 1278, 1280, 1282, 1284, 1286, 1288, 1290, 1292, 1294, 1296, 1298, 1300, 1302, 1304, 1306, 1308, 1310, 1312, 1314, 1316, 1318, 1320, 1322, 1324, 1326, 1328, 1330] : List Nat).getD q 0) (u_lay RX12 TX12 q)) = true := by decide +kernel
theorem clg_12 : ∀ w ∈ u_ws RX12 TX12 50, w ∈ gT := by
  intro w hw
  obtain ⟨k, hk, rfl⟩ := List.mem_map.mp hw
  exact chkW_in (List.all_eq_true.mp clw_12 k hk)
/-- what is known of the kind c -/
def clOK (c : Nat) (C : String) (T : u_T) (N : Nat) : Prop := (∀ w ∈ u_ws C T N, w ∈ gT) ∧ (∀ k, k < N → parseFieldDescriptor (T k).2.2.1 = some (clTy c k)) ∧ (∀ a, a < N → ∀ b, b < N → a ≠ b → (T a).2.1 ≠ (T b).2.1) ∧ aCls[c]? = some C
theorem cl_ok : ∀ (c : Nat) (q : vw_C), vwCl[c]? = some q → clOK c q.1 q.2.1 q.2.2
  | 0, q, h => by cases h; exact ⟨clg_0, tyX0_ok, nmX0, rfl⟩
  | 1, q, h => by cases h; exact ⟨clg_1, tyX1_ok, nmX1, rfl⟩
  | 2, q, h => by cases h; exact ⟨clg_2, tyX2_ok, nmX2, rfl⟩
  | 3, q, h => by cases h; exact ⟨clg_3, tyX3_ok, nmX3, rfl⟩
  | 4, q, h => by cases h; exact ⟨clg_4, tyX4_ok, nmX4, rfl⟩
  | 5, q, h => by cases h; exact ⟨clg_5, tyX5_ok, nmX5, rfl⟩
  | 6, q, h => by cases h; exact ⟨clg_6, tyX6_ok, nmX6, rfl⟩
  | 7, q, h => by cases h; exact ⟨clg_7, tyX7_ok, nmX7, rfl⟩
  | 8, q, h => by cases h; exact ⟨clg_8, tyX8_ok, nmX8, rfl⟩
  | 9, q, h => by cases h; exact ⟨clg_9, tyX9_ok, nmX9, rfl⟩
  | 10, q, h => by cases h; exact ⟨clg_10, tyX10_ok, nmX10, rfl⟩
  | 11, q, h => by cases h; exact ⟨clg_11, tyX11_ok, nmX11, rfl⟩
  | 12, q, h => by cases h; exact ⟨clg_12, tyX12_ok, nmX12, rfl⟩
  | _ + 13, q, h => by simp [vwCl] at h
theorem lay_obj : ∀ (q c : Nat) (refs : List (Option Nat)), lay0[q]? = some (.inl (c, refs)) → ∃ z : vw_C, vwCl[c]? = some z ∧ z.2.2 = refs.length := by
  intro q c refs h
  have hm := List.mem_of_getElem? h
  have hall : lay0.all (fun (e : aK) => match e with | .inl (c, refs) => (vwCl[c]?).map (fun z => z.2.2) == some refs.length | .inr (t, _) => t ≤ 2) = true := by decide +kernel
  have h1 := List.all_eq_true.mp hall _ hm
  simp only [beq_iff_eq, Option.map_eq_some_iff] at h1
  exact h1
theorem lay_zero : lay0[0]? = some (.inr (2, 0)) := rfl
/-- what is known of a method that is called: its words -/
def mOK (c : Nat) : Prop := ∃ (b : ByteArray) (y : MethodName) (o ml na : Nat) (rt : Option FieldType) (st : Bool), mTab[c]? = some (b, y, o, ml, na, rt, st) ∧ Jvm.Cond.code y b ml rt ∈ gT ∧ Jvm.Cond.initialized y.cls ∈ gT ∧ plainName y.cls = true ∧ aCls[o]? = some y.cls ∧ (y.cls ≠ "java/lang/invoke/MethodHandle" ∧ y.cls ≠ "java/lang/invoke/VarHandle" ∧ (parseMethodDescriptor y.desc).map (fun d => d.parameters.length) = some (if st = true then na else na - 1)) ∧ na ≤ ml ∧ ml ≤ 20 ∧ (st = false → 1 ≤ na ∧ Jvm.Cond.instanceMethod y ∈ gT ∧ Jvm.Cond.selects y.cls y y ∈ gT) ∧ (st = true → Jvm.Cond.static y ∈ gT)
theorem in_t1 : ∀ w ∈ tables_1_1, w ∈ lw_tbl := fun _ h => List.mem_append_right _ (List.mem_append_left _ h)
theorem in_t2 : ∀ w ∈ tables_1_2, w ∈ lw_tbl := fun _ h => List.mem_append_right _ (List.mem_append_right _ (List.mem_append_left _ h))
theorem in_t3 : ∀ w ∈ tables_1_3, w ∈ lw_tbl := fun _ h => List.mem_append_right _ (List.mem_append_right _ (List.mem_append_right _ (List.mem_append_left _ h)))
theorem in_t4 : ∀ w ∈ tables_1_4, w ∈ lw_tbl := fun _ h => List.mem_append_right _ (List.mem_append_right _ (List.mem_append_right _ (List.mem_append_right _ (List.mem_append_left _ h))))
theorem in_t5 : ∀ w ∈ tables_1_5, w ∈ lw_tbl := fun _ h => List.mem_append_right _ (List.mem_append_right _ (List.mem_append_right _ (List.mem_append_right _ (List.mem_append_right _ (List.mem_append_left _ h)))))
theorem in_t6 : ∀ w ∈ tables_1_6, w ∈ lw_tbl := fun _ h => List.mem_append_right _ (List.mem_append_right _ (List.mem_append_right _ (List.mem_append_right _ (List.mem_append_right _ (List.mem_append_right _ (List.mem_append_left _ h))))))
theorem in_t7 : ∀ w ∈ tables_1_7, w ∈ lw_tbl := fun _ h => List.mem_append_right _ (List.mem_append_right _ (List.mem_append_right _ (List.mem_append_right _ (List.mem_append_right _ (List.mem_append_right _ (List.mem_append_right _ h))))))
def chkM (y : MethodName) (pi ps px : Nat) (C : String) (na ml : Nat) (st : Bool) : Bool := chkW pi (.initialized y.cls) && (if st = true then chkW ps (.static y) else (chkW ps (.instanceMethod y) && chkW px (.selects y.cls y y) && decide (1 ≤ na))) && plainName y.cls && decide (C = y.cls) && decide (y.cls ≠ "java/lang/invoke/MethodHandle" ∧ y.cls ≠ "java/lang/invoke/VarHandle" ∧ (parseMethodDescriptor y.desc).map (fun d => d.parameters.length) = some (if st = true then na else na - 1)) && decide (na ≤ ml ∧ ml ≤ 20)
theorem mOK_of {c : Nat} {b : ByteArray} {y : MethodName} {o ml na : Nat} {rt : Option FieldType} {st : Bool} {pi ps px : Nat} {C : String} (h : mTab[c]? = some (b, y, o, ml, na, rt, st)) (hc : Jvm.Cond.code y b ml rt ∈ lw_tbl) (ho : aCls[o]? = some C) (k : chkM y pi ps px C na ml st = true) : mOK c := by
  simp only [chkM, Bool.and_eq_true, decide_eq_true_eq] at k
  obtain ⟨⟨⟨⟨⟨k1, k2⟩, k3⟩, k4⟩, k5⟩, k6⟩ := k
  refine ⟨b, y, o, ml, na, rt, st, h, List.mem_filter.mpr ⟨hc, rfl⟩, chkW_in k1, k3, by rw [ho, k4], k5, k6.1, k6.2, fun e => ?_, fun e => ?_⟩
  · subst e
    simp only [Bool.false_eq_true, if_false, Bool.and_eq_true, decide_eq_true_eq] at k2
    exact ⟨k2.2, chkW_in k2.1.1, chkW_in k2.1.2⟩
  · subst e
    simp only [if_true] at k2
    exact chkW_in k2
theorem mok_1 : mOK 1 := mOK_of (pi := 112) (ps := 679) (px := 680) (C := RX0) rfl (in_t3 _ (List.mem_of_getElem? (i := 96) rfl)) rfl (by decide +kernel)
theorem mok_2 : mOK 2 := mOK_of (pi := 112) (ps := 683) (px := 684) (C := RX0) rfl (in_t3 _ (List.mem_of_getElem? (i := 100) rfl)) rfl (by decide +kernel)
theorem mok_3 : mOK 3 := mOK_of (pi := 112) (ps := 687) (px := 688) (C := RX0) rfl (in_t3 _ (List.mem_of_getElem? (i := 104) rfl)) rfl (by decide +kernel)
theorem mok_4 : mOK 4 := mOK_of (pi := 112) (ps := 767) (px := 768) (C := RX0) rfl (in_t3 _ (List.mem_of_getElem? (i := 184) rfl)) rfl (by decide +kernel)
theorem mok_5 : mOK 5 := mOK_of (pi := 112) (ps := 692) (px := 16) (C := RX0) rfl (in_t3 _ (List.mem_of_getElem? (i := 108) rfl)) rfl (by decide +kernel)
theorem mok_6 : mOK 6 := mOK_of (pi := 112) (ps := 700) (px := 17) (C := RX0) rfl (in_t3 _ (List.mem_of_getElem? (i := 116) rfl)) rfl (by decide +kernel)
theorem mok_7 : mOK 7 := mOK_of (pi := 112) (ps := 704) (px := 18) (C := RX0) rfl (in_t3 _ (List.mem_of_getElem? (i := 120) rfl)) rfl (by decide +kernel)
theorem mok_8 : mOK 8 := mOK_of (pi := 112) (ps := 708) (px := 19) (C := RX0) rfl (in_t3 _ (List.mem_of_getElem? (i := 124) rfl)) rfl (by decide +kernel)
theorem mok_9 : mOK 9 := mOK_of (pi := 112) (ps := 712) (px := 20) (C := RX0) rfl (in_t3 _ (List.mem_of_getElem? (i := 128) rfl)) rfl (by decide +kernel)
theorem mok_10 : mOK 10 := mOK_of (pi := 112) (ps := 725) (px := 21) (C := RX0) rfl (in_t3 _ (List.mem_of_getElem? (i := 141) rfl)) rfl (by decide +kernel)
theorem mok_11 : mOK 11 := mOK_of (pi := 112) (ps := 729) (px := 22) (C := RX0) rfl (in_t3 _ (List.mem_of_getElem? (i := 145) rfl)) rfl (by decide +kernel)
theorem mok_13 : mOK 13 := mOK_of (pi := 114) (ps := 830) (px := 831) (C := RX1) rfl (in_t4 _ (List.mem_of_getElem? (i := 7) rfl)) rfl (by decide +kernel)
theorem mok_14 : mOK 14 := mOK_of (pi := 114) (ps := 880) (px := 881) (C := RX1) rfl (in_t4 _ (List.mem_of_getElem? (i := 57) rfl)) rfl (by decide +kernel)
theorem mok_15 : mOK 15 := mOK_of (pi := 114) (ps := 837) (px := 838) (C := RX1) rfl (in_t4 _ (List.mem_of_getElem? (i := 14) rfl)) rfl (by decide +kernel)
theorem mok_16 : mOK 16 := mOK_of (pi := 114) (ps := 843) (px := 27) (C := RX1) rfl (in_t4 _ (List.mem_of_getElem? (i := 19) rfl)) rfl (by decide +kernel)
theorem mok_17 : mOK 17 := mOK_of (pi := 114) (ps := 847) (px := 28) (C := RX1) rfl (in_t4 _ (List.mem_of_getElem? (i := 23) rfl)) rfl (by decide +kernel)
theorem mok_18 : mOK 18 := mOK_of (pi := 114) (ps := 851) (px := 852) (C := RX1) rfl (in_t4 _ (List.mem_of_getElem? (i := 28) rfl)) rfl (by decide +kernel)
theorem mok_19 : mOK 19 := mOK_of (pi := 114) (ps := 856) (px := 857) (C := RX1) rfl (in_t4 _ (List.mem_of_getElem? (i := 33) rfl)) rfl (by decide +kernel)
theorem mok_20 : mOK 20 := mOK_of (pi := 114) (ps := 868) (px := 869) (C := RX1) rfl (in_t4 _ (List.mem_of_getElem? (i := 45) rfl)) rfl (by decide +kernel)
theorem mok_21 : mOK 21 := mOK_of (pi := 114) (ps := 860) (px := 861) (C := RX1) rfl (in_t4 _ (List.mem_of_getElem? (i := 37) rfl)) rfl (by decide +kernel)
theorem mok_23 : mOK 23 := mOK_of (pi := 117) (ps := 1054) (px := 1055) (C := RX2) rfl (in_t4 _ (List.mem_of_getElem? (i := 231) rfl)) rfl (by decide +kernel)
theorem mok_24 : mOK 24 := mOK_of (pi := 117) (ps := 1077) (px := 1078) (C := RX2) rfl (in_t5 _ (List.mem_of_getElem? (i := 14) rfl)) rfl (by decide +kernel)
theorem mok_25 : mOK 25 := mOK_of (pi := 117) (ps := 1082) (px := 41) (C := RX2) rfl (in_t5 _ (List.mem_of_getElem? (i := 18) rfl)) rfl (by decide +kernel)
theorem mok_26 : mOK 26 := mOK_of (pi := 117) (ps := 1172) (px := 1173) (C := RX2) rfl (in_t5 _ (List.mem_of_getElem? (i := 109) rfl)) rfl (by decide +kernel)
theorem mok_27 : mOK 27 := mOK_of (pi := 117) (ps := 1067) (px := 1068) (C := RX2) rfl (in_t5 _ (List.mem_of_getElem? (i := 4) rfl)) rfl (by decide +kernel)
theorem mok_28 : mOK 28 := mOK_of (pi := 117) (ps := 1074) (px := 40) (C := RX2) rfl (in_t5 _ (List.mem_of_getElem? (i := 10) rfl)) rfl (by decide +kernel)
theorem mok_29 : mOK 29 := mOK_of (pi := 117) (ps := 1086) (px := 1087) (C := RX2) rfl (in_t5 _ (List.mem_of_getElem? (i := 23) rfl)) rfl (by decide +kernel)
theorem mok_30 : mOK 30 := mOK_of (pi := 117) (ps := 1091) (px := 42) (C := RX2) rfl (in_t5 _ (List.mem_of_getElem? (i := 27) rfl)) rfl (by decide +kernel)
theorem mok_31 : mOK 31 := mOK_of (pi := 117) (ps := 1095) (px := 1096) (C := RX2) rfl (in_t5 _ (List.mem_of_getElem? (i := 32) rfl)) rfl (by decide +kernel)
theorem mok_32 : mOK 32 := mOK_of (pi := 117) (ps := 1099) (px := 1100) (C := RX2) rfl (in_t5 _ (List.mem_of_getElem? (i := 36) rfl)) rfl (by decide +kernel)
theorem mok_33 : mOK 33 := mOK_of (pi := 117) (ps := 1104) (px := 43) (C := RX2) rfl (in_t5 _ (List.mem_of_getElem? (i := 40) rfl)) rfl (by decide +kernel)
theorem mok_34 : mOK 34 := mOK_of (pi := 117) (ps := 1111) (px := 1112) (C := RX2) rfl (in_t5 _ (List.mem_of_getElem? (i := 48) rfl)) rfl (by decide +kernel)
theorem mok_35 : mOK 35 := mOK_of (pi := 117) (ps := 1116) (px := 44) (C := RX2) rfl (in_t5 _ (List.mem_of_getElem? (i := 52) rfl)) rfl (by decide +kernel)
theorem mok_36 : mOK 36 := mOK_of (pi := 117) (ps := 1127) (px := 1128) (C := RX2) rfl (in_t5 _ (List.mem_of_getElem? (i := 64) rfl)) rfl (by decide +kernel)
theorem mok_37 : mOK 37 := mOK_of (pi := 117) (ps := 1132) (px := 45) (C := RX2) rfl (in_t5 _ (List.mem_of_getElem? (i := 68) rfl)) rfl (by decide +kernel)
theorem mok_38 : mOK 38 := mOK_of (pi := 117) (ps := 1139) (px := 1140) (C := RX2) rfl (in_t5 _ (List.mem_of_getElem? (i := 76) rfl)) rfl (by decide +kernel)
theorem mok_39 : mOK 39 := mOK_of (pi := 117) (ps := 1144) (px := 46) (C := RX2) rfl (in_t5 _ (List.mem_of_getElem? (i := 80) rfl)) rfl (by decide +kernel)
theorem mok_40 : mOK 40 := mOK_of (pi := 117) (ps := 1148) (px := 47) (C := RX2) rfl (in_t5 _ (List.mem_of_getElem? (i := 84) rfl)) rfl (by decide +kernel)
theorem mok_42 : mOK 42 := mOK_of (pi := 111) (ps := 496) (px := 497) (C := RX3) rfl (in_t2 _ (List.mem_of_getElem? (i := 153) rfl)) rfl (by decide +kernel)
theorem mok_43 : mOK 43 := mOK_of (pi := 111) (ps := 600) (px := 601) (C := RX3) rfl (in_t3 _ (List.mem_of_getElem? (i := 17) rfl)) rfl (by decide +kernel)
theorem mok_44 : mOK 44 := mOK_of (pi := 111) (ps := 523) (px := 524) (C := RX3) rfl (in_t2 _ (List.mem_of_getElem? (i := 180) rfl)) rfl (by decide +kernel)
theorem mok_45 : mOK 45 := mOK_of (pi := 111) (ps := 560) (px := 561) (C := RX3) rfl (in_t2 _ (List.mem_of_getElem? (i := 217) rfl)) rfl (by decide +kernel)
theorem mok_46 : mOK 46 := mOK_of (pi := 111) (ps := 588) (px := 589) (C := RX3) rfl (in_t3 _ (List.mem_of_getElem? (i := 5) rfl)) rfl (by decide +kernel)
theorem mok_47 : mOK 47 := mOK_of (pi := 111) (ps := 549) (px := 550) (C := RX3) rfl (in_t2 _ (List.mem_of_getElem? (i := 206) rfl)) rfl (by decide +kernel)
theorem mok_48 : mOK 48 := mOK_of (pi := 111) (ps := 584) (px := 585) (C := RX3) rfl (in_t3 _ (List.mem_of_getElem? (i := 1) rfl)) rfl (by decide +kernel)
theorem mok_49 : mOK 49 := mOK_of (pi := 111) (ps := 695) (px := 696) (C := RX3) rfl (in_t3 _ (List.mem_of_getElem? (i := 112) rfl)) rfl (by decide +kernel)
theorem mok_51 : mOK 51 := mOK_of (pi := 110) (ps := 488) (px := 489) (C := RX4) rfl (in_t2 _ (List.mem_of_getElem? (i := 145) rfl)) rfl (by decide +kernel)
theorem mok_52 : mOK 52 := mOK_of (pi := 110) (ps := 501) (px := 0) (C := RX4) rfl (in_t2 _ (List.mem_of_getElem? (i := 157) rfl)) rfl (by decide +kernel)
theorem mok_53 : mOK 53 := mOK_of (pi := 110) (ps := 565) (px := 5) (C := RX4) rfl (in_t2 _ (List.mem_of_getElem? (i := 221) rfl)) rfl (by decide +kernel)
theorem mok_54 : mOK 54 := mOK_of (pi := 110) (ps := 569) (px := 6) (C := RX4) rfl (in_t2 _ (List.mem_of_getElem? (i := 225) rfl)) rfl (by decide +kernel)
theorem mok_55 : mOK 55 := mOK_of (pi := 110) (ps := 581) (px := 9) (C := RX4) rfl (in_t2 _ (List.mem_of_getElem? (i := 237) rfl)) rfl (by decide +kernel)
theorem mok_56 : mOK 56 := mOK_of (pi := 110) (ps := 573) (px := 7) (C := RX4) rfl (in_t2 _ (List.mem_of_getElem? (i := 229) rfl)) rfl (by decide +kernel)
theorem mok_57 : mOK 57 := mOK_of (pi := 110) (ps := 577) (px := 8) (C := RX4) rfl (in_t2 _ (List.mem_of_getElem? (i := 233) rfl)) rfl (by decide +kernel)
theorem mok_58 : mOK 58 := mOK_of (pi := 110) (ps := 528) (px := 1) (C := RX4) rfl (in_t2 _ (List.mem_of_getElem? (i := 184) rfl)) rfl (by decide +kernel)
theorem mok_59 : mOK 59 := mOK_of (pi := 110) (ps := 532) (px := 2) (C := RX4) rfl (in_t2 _ (List.mem_of_getElem? (i := 188) rfl)) rfl (by decide +kernel)
theorem mok_60 : mOK 60 := mOK_of (pi := 110) (ps := 536) (px := 3) (C := RX4) rfl (in_t2 _ (List.mem_of_getElem? (i := 192) rfl)) rfl (by decide +kernel)
theorem mok_61 : mOK 61 := mOK_of (pi := 110) (ps := 546) (px := 4) (C := RX4) rfl (in_t2 _ (List.mem_of_getElem? (i := 202) rfl)) rfl (by decide +kernel)
theorem mok_63 : mOK 63 := mOK_of (pi := 109) (ps := 616) (px := 617) (C := RX5) rfl (in_t3 _ (List.mem_of_getElem? (i := 33) rfl)) rfl (by decide +kernel)
theorem mok_64 : mOK 64 := mOK_of (pi := 109) (ps := 622) (px := 10) (C := RX5) rfl (in_t3 _ (List.mem_of_getElem? (i := 38) rfl)) rfl (by decide +kernel)
theorem mok_65 : mOK 65 := mOK_of (pi := 109) (ps := 631) (px := 11) (C := RX5) rfl (in_t3 _ (List.mem_of_getElem? (i := 47) rfl)) rfl (by decide +kernel)
theorem mok_66 : mOK 66 := mOK_of (pi := 109) (ps := 637) (px := 12) (C := RX5) rfl (in_t3 _ (List.mem_of_getElem? (i := 53) rfl)) rfl (by decide +kernel)
theorem mok_67 : mOK 67 := mOK_of (pi := 109) (ps := 641) (px := 13) (C := RX5) rfl (in_t3 _ (List.mem_of_getElem? (i := 57) rfl)) rfl (by decide +kernel)
theorem mok_68 : mOK 68 := mOK_of (pi := 109) (ps := 653) (px := 14) (C := RX5) rfl (in_t3 _ (List.mem_of_getElem? (i := 69) rfl)) rfl (by decide +kernel)
theorem mok_70 : mOK 70 := mOK_of (pi := 113) (ps := 670) (px := 671) (C := RX6) rfl (in_t3 _ (List.mem_of_getElem? (i := 87) rfl)) rfl (by decide +kernel)
theorem mok_71 : mOK 71 := mOK_of (pi := 113) (ps := 675) (px := 15) (C := RX6) rfl (in_t3 _ (List.mem_of_getElem? (i := 91) rfl)) rfl (by decide +kernel)
theorem mok_72 : mOK 72 := mOK_of (pi := 113) (ps := 757) (px := 24) (C := RX6) rfl (in_t3 _ (List.mem_of_getElem? (i := 173) rfl)) rfl (by decide +kernel)
theorem mok_73 : mOK 73 := mOK_of (pi := 113) (ps := 764) (px := 25) (C := RX6) rfl (in_t3 _ (List.mem_of_getElem? (i := 180) rfl)) rfl (by decide +kernel)
theorem mok_74 : mOK 74 := mOK_of (pi := 113) (ps := 746) (px := 23) (C := RX6) rfl (in_t3 _ (List.mem_of_getElem? (i := 162) rfl)) rfl (by decide +kernel)
theorem mok_76 : mOK 76 := mOK_of (pi := 116) (ps := 918) (px := 919) (C := RX7) rfl (in_t4 _ (List.mem_of_getElem? (i := 95) rfl)) rfl (by decide +kernel)
theorem mok_77 : mOK 77 := mOK_of (pi := 116) (ps := 925) (px := 30) (C := RX7) rfl (in_t4 _ (List.mem_of_getElem? (i := 101) rfl)) rfl (by decide +kernel)
theorem mok_78 : mOK 78 := mOK_of (pi := 116) (ps := 929) (px := 31) (C := RX7) rfl (in_t4 _ (List.mem_of_getElem? (i := 105) rfl)) rfl (by decide +kernel)
theorem mok_79 : mOK 79 := mOK_of (pi := 116) (ps := 970) (px := 971) (C := RX7) rfl (in_t4 _ (List.mem_of_getElem? (i := 147) rfl)) rfl (by decide +kernel)
theorem mok_80 : mOK 80 := mOK_of (pi := 116) (ps := 976) (px := 33) (C := RX7) rfl (in_t4 _ (List.mem_of_getElem? (i := 152) rfl)) rfl (by decide +kernel)
theorem mok_81 : mOK 81 := mOK_of (pi := 116) (ps := 980) (px := 34) (C := RX7) rfl (in_t4 _ (List.mem_of_getElem? (i := 156) rfl)) rfl (by decide +kernel)
theorem mok_82 : mOK 82 := mOK_of (pi := 116) (ps := 984) (px := 35) (C := RX7) rfl (in_t4 _ (List.mem_of_getElem? (i := 160) rfl)) rfl (by decide +kernel)
theorem mok_83 : mOK 83 := mOK_of (pi := 116) (ps := 988) (px := 989) (C := RX7) rfl (in_t4 _ (List.mem_of_getElem? (i := 165) rfl)) rfl (by decide +kernel)
theorem mok_84 : mOK 84 := mOK_of (pi := 116) (ps := 992) (px := 993) (C := RX7) rfl (in_t4 _ (List.mem_of_getElem? (i := 169) rfl)) rfl (by decide +kernel)
theorem mok_86 : mOK 86 := mOK_of (pi := 115) (ps := 937) (px := 938) (C := RX8) rfl (in_t4 _ (List.mem_of_getElem? (i := 114) rfl)) rfl (by decide +kernel)
theorem mok_87 : mOK 87 := mOK_of (pi := 115) (ps := 942) (px := 32) (C := RX8) rfl (in_t4 _ (List.mem_of_getElem? (i := 118) rfl)) rfl (by decide +kernel)
theorem mok_88 : mOK 88 := mOK_of (pi := 115) (ps := 945) (px := 946) (C := RX8) rfl (in_t4 _ (List.mem_of_getElem? (i := 122) rfl)) rfl (by decide +kernel)
theorem mok_89 : mOK 89 := mOK_of (pi := 115) (ps := 953) (px := 954) (C := RX8) rfl (in_t4 _ (List.mem_of_getElem? (i := 130) rfl)) rfl (by decide +kernel)
theorem mok_90 : mOK 90 := mOK_of (pi := 115) (ps := 962) (px := 963) (C := RX8) rfl (in_t4 _ (List.mem_of_getElem? (i := 139) rfl)) rfl (by decide +kernel)
theorem mok_92 : mOK 92 := mOK_of (pi := 107) (ps := 476) (px := 477) (C := RX9) rfl (in_t2 _ (List.mem_of_getElem? (i := 133) rfl)) rfl (by decide +kernel)
theorem mok_93 : mOK 93 := mOK_of (pi := 107) (ps := 480) (px := 481) (C := RX9) rfl (in_t2 _ (List.mem_of_getElem? (i := 137) rfl)) rfl (by decide +kernel)
theorem mok_94 : mOK 94 := mOK_of (pi := 107) (ps := 596) (px := 597) (C := RX9) rfl (in_t3 _ (List.mem_of_getElem? (i := 13) rfl)) rfl (by decide +kernel)
theorem mok_95 : mOK 95 := mOK_of (pi := 107) (ps := 508) (px := 509) (C := RX9) rfl (in_t2 _ (List.mem_of_getElem? (i := 165) rfl)) rfl (by decide +kernel)
theorem mok_96 : mOK 96 := mOK_of (pi := 107) (ps := 1014) (px := 1015) (C := RX9) rfl (in_t4 _ (List.mem_of_getElem? (i := 191) rfl)) rfl (by decide +kernel)
theorem mok_97 : mOK 97 := mOK_of (pi := 107) (ps := 1049) (px := 1050) (C := RX9) rfl (in_t4 _ (List.mem_of_getElem? (i := 226) rfl)) rfl (by decide +kernel)
theorem mok_98 : mOK 98 := mOK_of (pi := 107) (ps := 1123) (px := 1124) (C := RX9) rfl (in_t5 _ (List.mem_of_getElem? (i := 60) rfl)) rfl (by decide +kernel)
theorem mok_99 : mOK 99 := mOK_of (pi := 107) (ps := 492) (px := 493) (C := RX9) rfl (in_t2 _ (List.mem_of_getElem? (i := 149) rfl)) rfl (by decide +kernel)
theorem mok_100 : mOK 100 := mOK_of (pi := 107) (ps := 592) (px := 593) (C := RX9) rfl (in_t3 _ (List.mem_of_getElem? (i := 9) rfl)) rfl (by decide +kernel)
theorem mok_101 : mOK 101 := mOK_of (pi := 107) (ps := 504) (px := 505) (C := RX9) rfl (in_t2 _ (List.mem_of_getElem? (i := 161) rfl)) rfl (by decide +kernel)
theorem mok_102 : mOK 102 := mOK_of (pi := 107) (ps := 519) (px := 520) (C := RX9) rfl (in_t2 _ (List.mem_of_getElem? (i := 176) rfl)) rfl (by decide +kernel)
theorem mok_103 : mOK 103 := mOK_of (pi := 107) (ps := 512) (px := 513) (C := RX9) rfl (in_t2 _ (List.mem_of_getElem? (i := 169) rfl)) rfl (by decide +kernel)
theorem mok_104 : mOK 104 := mOK_of (pi := 107) (ps := 661) (px := 662) (C := RX9) rfl (in_t3 _ (List.mem_of_getElem? (i := 78) rfl)) rfl (by decide +kernel)
theorem mok_105 : mOK 105 := mOK_of (pi := 107) (ps := 539) (px := 540) (C := RX9) rfl (in_t2 _ (List.mem_of_getElem? (i := 196) rfl)) rfl (by decide +kernel)
theorem mok_106 : mOK 106 := mOK_of (pi := 107) (ps := 553) (px := 554) (C := RX9) rfl (in_t2 _ (List.mem_of_getElem? (i := 210) rfl)) rfl (by decide +kernel)
theorem mok_108 : mOK 108 := mOK_of (pi := 108) (ps := 611) (px := 612) (C := RX10) rfl (in_t3 _ (List.mem_of_getElem? (i := 28) rfl)) rfl (by decide +kernel)
theorem mok_109 : mOK 109 := mOK_of (pi := 108) (ps := 775) (px := 776) (C := RX10) rfl (in_t3 _ (List.mem_of_getElem? (i := 192) rfl)) rfl (by decide +kernel)
theorem mok_110 : mOK 110 := mOK_of (pi := 108) (ps := 448) (px := 449) (C := RX10) rfl (in_t2 _ (List.mem_of_getElem? (i := 105) rfl)) rfl (by decide +kernel)
theorem mok_111 : mOK 111 := mOK_of (pi := 108) (ps := 815) (px := 816) (C := RX10) rfl (in_t3 _ (List.mem_of_getElem? (i := 232) rfl)) rfl (by decide +kernel)
theorem mok_112 : mOK 112 := mOK_of (pi := 108) (ps := 444) (px := 445) (C := RX10) rfl (in_t2 _ (List.mem_of_getElem? (i := 101) rfl)) rfl (by decide +kernel)
theorem mok_113 : mOK 113 := mOK_of (pi := 108) (ps := 435) (px := 436) (C := RX10) rfl (in_t2 _ (List.mem_of_getElem? (i := 92) rfl)) rfl (by decide +kernel)
theorem mok_114 : mOK 114 := mOK_of (pi := 108) (ps := 644) (px := 645) (C := RX10) rfl (in_t3 _ (List.mem_of_getElem? (i := 61) rfl)) rfl (by decide +kernel)
theorem mok_115 : mOK 115 := mOK_of (pi := 108) (ps := 648) (px := 649) (C := RX10) rfl (in_t3 _ (List.mem_of_getElem? (i := 65) rfl)) rfl (by decide +kernel)
theorem mok_116 : mOK 116 := mOK_of (pi := 108) (ps := 656) (px := 657) (C := RX10) rfl (in_t3 _ (List.mem_of_getElem? (i := 73) rfl)) rfl (by decide +kernel)
theorem mok_117 : mOK 117 := mOK_of (pi := 108) (ps := 452) (px := 453) (C := RX10) rfl (in_t2 _ (List.mem_of_getElem? (i := 109) rfl)) rfl (by decide +kernel)
theorem mok_118 : mOK 118 := mOK_of (pi := 108) (ps := 464) (px := 465) (C := RX10) rfl (in_t2 _ (List.mem_of_getElem? (i := 121) rfl)) rfl (by decide +kernel)
theorem mok_119 : mOK 119 := mOK_of (pi := 108) (ps := 468) (px := 469) (C := RX10) rfl (in_t2 _ (List.mem_of_getElem? (i := 125) rfl)) rfl (by decide +kernel)
theorem mok_120 : mOK 120 := mOK_of (pi := 108) (ps := 460) (px := 461) (C := RX10) rfl (in_t2 _ (List.mem_of_getElem? (i := 117) rfl)) rfl (by decide +kernel)
theorem mok_121 : mOK 121 := mOK_of (pi := 108) (ps := 716) (px := 717) (C := RX10) rfl (in_t3 _ (List.mem_of_getElem? (i := 133) rfl)) rfl (by decide +kernel)
theorem mok_122 : mOK 122 := mOK_of (pi := 108) (ps := 720) (px := 721) (C := RX10) rfl (in_t3 _ (List.mem_of_getElem? (i := 137) rfl)) rfl (by decide +kernel)
theorem mok_123 : mOK 123 := mOK_of (pi := 108) (ps := 798) (px := 799) (C := RX10) rfl (in_t3 _ (List.mem_of_getElem? (i := 215) rfl)) rfl (by decide +kernel)
theorem mok_124 : mOK 124 := mOK_of (pi := 108) (ps := 779) (px := 780) (C := RX10) rfl (in_t3 _ (List.mem_of_getElem? (i := 196) rfl)) rfl (by decide +kernel)
theorem mok_125 : mOK 125 := mOK_of (pi := 108) (ps := 784) (px := 785) (C := RX10) rfl (in_t3 _ (List.mem_of_getElem? (i := 201) rfl)) rfl (by decide +kernel)
theorem mok_126 : mOK 126 := mOK_of (pi := 108) (ps := 908) (px := 909) (C := RX10) rfl (in_t4 _ (List.mem_of_getElem? (i := 85) rfl)) rfl (by decide +kernel)
theorem mok_127 : mOK 127 := mOK_of (pi := 108) (ps := 803) (px := 804) (C := RX10) rfl (in_t3 _ (List.mem_of_getElem? (i := 220) rfl)) rfl (by decide +kernel)
theorem mok_128 : mOK 128 := mOK_of (pi := 108) (ps := 808) (px := 26) (C := RX10) rfl (in_t3 _ (List.mem_of_getElem? (i := 224) rfl)) rfl (by decide +kernel)
theorem mok_129 : mOK 129 := mOK_of (pi := 108) (ps := 749) (px := 750) (C := RX10) rfl (in_t3 _ (List.mem_of_getElem? (i := 166) rfl)) rfl (by decide +kernel)
theorem mok_130 : mOK 130 := mOK_of (pi := 108) (ps := 1000) (px := 1001) (C := RX10) rfl (in_t4 _ (List.mem_of_getElem? (i := 177) rfl)) rfl (by decide +kernel)
theorem mok_131 : mOK 131 := mOK_of (pi := 108) (ps := 738) (px := 739) (C := RX10) rfl (in_t3 _ (List.mem_of_getElem? (i := 155) rfl)) rfl (by decide +kernel)
theorem mok_133 : mOK 133 := mOK_of (pi := 106) (ps := 428) (px := 429) (C := RX11) rfl (in_t2 _ (List.mem_of_getElem? (i := 85) rfl)) rfl (by decide +kernel)
theorem mok_134 : mOK 134 := mOK_of (pi := 106) (ps := 440) (px := 441) (C := RX11) rfl (in_t2 _ (List.mem_of_getElem? (i := 97) rfl)) rfl (by decide +kernel)
theorem mok_135 : mOK 135 := mOK_of (pi := 106) (ps := 456) (px := 457) (C := RX11) rfl (in_t2 _ (List.mem_of_getElem? (i := 113) rfl)) rfl (by decide +kernel)
theorem mok_136 : mOK 136 := mOK_of (pi := 106) (ps := 472) (px := 473) (C := RX11) rfl (in_t2 _ (List.mem_of_getElem? (i := 129) rfl)) rfl (by decide +kernel)
theorem mok_137 : mOK 137 := mOK_of (pi := 106) (ps := 484) (px := 485) (C := RX11) rfl (in_t2 _ (List.mem_of_getElem? (i := 141) rfl)) rfl (by decide +kernel)
theorem mok_138 : mOK 138 := mOK_of (pi := 106) (ps := 607) (px := 608) (C := RX11) rfl (in_t3 _ (List.mem_of_getElem? (i := 24) rfl)) rfl (by decide +kernel)
theorem mok_139 : mOK 139 := mOK_of (pi := 106) (ps := 666) (px := 667) (C := RX11) rfl (in_t3 _ (List.mem_of_getElem? (i := 83) rfl)) rfl (by decide +kernel)
theorem mok_140 : mOK 140 := mOK_of (pi := 106) (ps := 771) (px := 772) (C := RX11) rfl (in_t3 _ (List.mem_of_getElem? (i := 188) rfl)) rfl (by decide +kernel)
theorem mok_141 : mOK 141 := mOK_of (pi := 106) (ps := 790) (px := 791) (C := RX11) rfl (in_t3 _ (List.mem_of_getElem? (i := 207) rfl)) rfl (by decide +kernel)
theorem mok_142 : mOK 142 := mOK_of (pi := 106) (ps := 811) (px := 812) (C := RX11) rfl (in_t3 _ (List.mem_of_getElem? (i := 228) rfl)) rfl (by decide +kernel)
theorem mok_143 : mOK 143 := mOK_of (pi := 106) (ps := 821) (px := 822) (C := RX11) rfl (in_t3 _ (List.mem_of_getElem? (i := 238) rfl)) rfl (by decide +kernel)
theorem mok_144 : mOK 144 := mOK_of (pi := 106) (ps := 826) (px := 827) (C := RX11) rfl (in_t4 _ (List.mem_of_getElem? (i := 3) rfl)) rfl (by decide +kernel)
theorem mok_145 : mOK 145 := mOK_of (pi := 106) (ps := 864) (px := 865) (C := RX11) rfl (in_t4 _ (List.mem_of_getElem? (i := 41) rfl)) rfl (by decide +kernel)
theorem mok_146 : mOK 146 := mOK_of (pi := 106) (ps := 872) (px := 873) (C := RX11) rfl (in_t4 _ (List.mem_of_getElem? (i := 49) rfl)) rfl (by decide +kernel)
theorem mok_147 : mOK 147 := mOK_of (pi := 106) (ps := 891) (px := 892) (C := RX11) rfl (in_t4 _ (List.mem_of_getElem? (i := 68) rfl)) rfl (by decide +kernel)
theorem mok_148 : mOK 148 := mOK_of (pi := 106) (ps := 877) (px := 29) (C := RX11) rfl (in_t4 _ (List.mem_of_getElem? (i := 53) rfl)) rfl (by decide +kernel)
theorem mok_149 : mOK 149 := mOK_of (pi := 106) (ps := 895) (px := 896) (C := RX11) rfl (in_t4 _ (List.mem_of_getElem? (i := 72) rfl)) rfl (by decide +kernel)
theorem mok_150 : mOK 150 := mOK_of (pi := 106) (ps := 899) (px := 900) (C := RX11) rfl (in_t4 _ (List.mem_of_getElem? (i := 76) rfl)) rfl (by decide +kernel)
theorem mok_151 : mOK 151 := mOK_of (pi := 106) (ps := 904) (px := 905) (C := RX11) rfl (in_t4 _ (List.mem_of_getElem? (i := 81) rfl)) rfl (by decide +kernel)
theorem mok_152 : mOK 152 := mOK_of (pi := 106) (ps := 914) (px := 915) (C := RX11) rfl (in_t4 _ (List.mem_of_getElem? (i := 91) rfl)) rfl (by decide +kernel)
theorem mok_153 : mOK 153 := mOK_of (pi := 106) (ps := 933) (px := 934) (C := RX11) rfl (in_t4 _ (List.mem_of_getElem? (i := 110) rfl)) rfl (by decide +kernel)
theorem mok_154 : mOK 154 := mOK_of (pi := 106) (ps := 958) (px := 959) (C := RX11) rfl (in_t4 _ (List.mem_of_getElem? (i := 135) rfl)) rfl (by decide +kernel)
theorem mok_155 : mOK 155 := mOK_of (pi := 106) (ps := 966) (px := 967) (C := RX11) rfl (in_t4 _ (List.mem_of_getElem? (i := 143) rfl)) rfl (by decide +kernel)
theorem mok_156 : mOK 156 := mOK_of (pi := 106) (ps := 996) (px := 997) (C := RX11) rfl (in_t4 _ (List.mem_of_getElem? (i := 173) rfl)) rfl (by decide +kernel)
theorem mok_157 : mOK 157 := mOK_of (pi := 106) (ps := 1006) (px := 1007) (C := RX11) rfl (in_t4 _ (List.mem_of_getElem? (i := 183) rfl)) rfl (by decide +kernel)
theorem mok_158 : mOK 158 := mOK_of (pi := 106) (ps := 1011) (px := 36) (C := RX11) rfl (in_t4 _ (List.mem_of_getElem? (i := 187) rfl)) rfl (by decide +kernel)
theorem mok_159 : mOK 159 := mOK_of (pi := 106) (ps := 1018) (px := 1019) (C := RX11) rfl (in_t4 _ (List.mem_of_getElem? (i := 195) rfl)) rfl (by decide +kernel)
theorem mok_160 : mOK 160 := mOK_of (pi := 106) (ps := 1023) (px := 37) (C := RX11) rfl (in_t4 _ (List.mem_of_getElem? (i := 199) rfl)) rfl (by decide +kernel)
theorem mok_161 : mOK 161 := mOK_of (pi := 106) (ps := 1027) (px := 38) (C := RX11) rfl (in_t4 _ (List.mem_of_getElem? (i := 203) rfl)) rfl (by decide +kernel)
theorem mok_162 : mOK 162 := mOK_of (pi := 106) (ps := 1031) (px := 1032) (C := RX11) rfl (in_t4 _ (List.mem_of_getElem? (i := 208) rfl)) rfl (by decide +kernel)
theorem mok_163 : mOK 163 := mOK_of (pi := 106) (ps := 1035) (px := 0) (C := RX11) rfl (in_t4 _ (List.mem_of_getElem? (i := 211) rfl)) rfl (by decide +kernel)
theorem mok_164 : mOK 164 := mOK_of (pi := 106) (ps := 1038) (px := 0) (C := RX11) rfl (in_t4 _ (List.mem_of_getElem? (i := 214) rfl)) rfl (by decide +kernel)
theorem mok_165 : mOK 165 := mOK_of (pi := 106) (ps := 1041) (px := 1042) (C := RX11) rfl (in_t4 _ (List.mem_of_getElem? (i := 218) rfl)) rfl (by decide +kernel)
theorem mok_166 : mOK 166 := mOK_of (pi := 106) (ps := 1045) (px := 1046) (C := RX11) rfl (in_t4 _ (List.mem_of_getElem? (i := 222) rfl)) rfl (by decide +kernel)
theorem mok_167 : mOK 167 := mOK_of (pi := 106) (ps := 1059) (px := 1060) (C := RX11) rfl (in_t4 _ (List.mem_of_getElem? (i := 236) rfl)) rfl (by decide +kernel)
theorem mok_168 : mOK 168 := mOK_of (pi := 106) (ps := 1064) (px := 39) (C := RX11) rfl (in_t5 _ (List.mem_of_getElem? (i := 0) rfl)) rfl (by decide +kernel)
theorem mok_169 : mOK 169 := mOK_of (pi := 106) (ps := 1107) (px := 1108) (C := RX11) rfl (in_t5 _ (List.mem_of_getElem? (i := 44) rfl)) rfl (by decide +kernel)
theorem mok_170 : mOK 170 := mOK_of (pi := 106) (ps := 1119) (px := 1120) (C := RX11) rfl (in_t5 _ (List.mem_of_getElem? (i := 56) rfl)) rfl (by decide +kernel)
theorem mok_171 : mOK 171 := mOK_of (pi := 106) (ps := 1135) (px := 1136) (C := RX11) rfl (in_t5 _ (List.mem_of_getElem? (i := 72) rfl)) rfl (by decide +kernel)
theorem mok_172 : mOK 172 := mOK_of (pi := 106) (ps := 1151) (px := 1152) (C := RX11) rfl (in_t5 _ (List.mem_of_getElem? (i := 88) rfl)) rfl (by decide +kernel)
theorem mok_173 : mOK 173 := mOK_of (pi := 106) (ps := 1156) (px := 1157) (C := RX11) rfl (in_t5 _ (List.mem_of_getElem? (i := 93) rfl)) rfl (by decide +kernel)
theorem mok_174 : mOK 174 := mOK_of (pi := 106) (ps := 1160) (px := 1161) (C := RX11) rfl (in_t5 _ (List.mem_of_getElem? (i := 97) rfl)) rfl (by decide +kernel)
theorem mok_175 : mOK 175 := mOK_of (pi := 106) (ps := 1164) (px := 1165) (C := RX11) rfl (in_t5 _ (List.mem_of_getElem? (i := 101) rfl)) rfl (by decide +kernel)
theorem mok_176 : mOK 176 := mOK_of (pi := 106) (ps := 1168) (px := 1169) (C := RX11) rfl (in_t5 _ (List.mem_of_getElem? (i := 105) rfl)) rfl (by decide +kernel)
theorem mok_177 : mOK 177 := mOK_of (pi := 106) (ps := 432) (px := 0) (C := RX11) rfl (in_t2 _ (List.mem_of_getElem? (i := 88) rfl)) rfl (by decide +kernel)
theorem mok_178 : mOK 178 := mOK_of (pi := 106) (ps := 557) (px := 0) (C := RX11) rfl (in_t2 _ (List.mem_of_getElem? (i := 213) rfl)) rfl (by decide +kernel)
theorem mok_179 : mOK 179 := mOK_of (pi := 106) (ps := 516) (px := 0) (C := RX11) rfl (in_t2 _ (List.mem_of_getElem? (i := 172) rfl)) rfl (by decide +kernel)
theorem mok_181 : mOK 181 := mOK_of (pi := 118) (ps := 1339) (px := 0) (C := RX12) rfl (in_t6 _ (List.mem_of_getElem? (i := 35) rfl)) rfl (by decide +kernel)
theorem mok_182 : mOK 182 := mOK_of (pi := 118) (ps := 1529) (px := 0) (C := RX12) rfl (in_t6 _ (List.mem_of_getElem? (i := 225) rfl)) rfl (by decide +kernel)
theorem mok_183 : mOK 183 := mOK_of (pi := 118) (ps := 1589) (px := 0) (C := RX12) rfl (in_t7 _ (List.mem_of_getElem? (i := 45) rfl)) rfl (by decide +kernel)
theorem mok_184 : mOK 184 := mOK_of (pi := 118) (ps := 1358) (px := 0) (C := RX12) rfl (in_t6 _ (List.mem_of_getElem? (i := 54) rfl)) rfl (by decide +kernel)
theorem mok_185 : mOK 185 := mOK_of (pi := 118) (ps := 1608) (px := 0) (C := RX12) rfl (in_t7 _ (List.mem_of_getElem? (i := 64) rfl)) rfl (by decide +kernel)
theorem mok_186 : mOK 186 := mOK_of (pi := 118) (ps := 1470) (px := 0) (C := RX12) rfl (in_t6 _ (List.mem_of_getElem? (i := 166) rfl)) rfl (by decide +kernel)
theorem mok_187 : mOK 187 := mOK_of (pi := 118) (ps := 1355) (px := 50) (C := RX12) rfl (in_t6 _ (List.mem_of_getElem? (i := 51) rfl)) rfl (by decide +kernel)
theorem mok_188 : mOK 188 := mOK_of (pi := 118) (ps := 1351) (px := 49) (C := RX12) rfl (in_t6 _ (List.mem_of_getElem? (i := 47) rfl)) rfl (by decide +kernel)
theorem mok_189 : mOK 189 := mOK_of (pi := 118) (ps := 1347) (px := 48) (C := RX12) rfl (in_t6 _ (List.mem_of_getElem? (i := 43) rfl)) rfl (by decide +kernel)
theorem mok_190 : mOK 190 := mOK_of (pi := 118) (ps := 1361) (px := 0) (C := RX12) rfl (in_t6 _ (List.mem_of_getElem? (i := 57) rfl)) rfl (by decide +kernel)
theorem mok_191 : mOK 191 := mOK_of (pi := 118) (ps := 1368) (px := 0) (C := RX12) rfl (in_t6 _ (List.mem_of_getElem? (i := 64) rfl)) rfl (by decide +kernel)
theorem mok_192 : mOK 192 := mOK_of (pi := 118) (ps := 1510) (px := 79) (C := RX12) rfl (in_t6 _ (List.mem_of_getElem? (i := 206) rfl)) rfl (by decide +kernel)
theorem mok_193 : mOK 193 := mOK_of (pi := 118) (ps := 1514) (px := 80) (C := RX12) rfl (in_t6 _ (List.mem_of_getElem? (i := 210) rfl)) rfl (by decide +kernel)
theorem mok_194 : mOK 194 := mOK_of (pi := 118) (ps := 1557) (px := 88) (C := RX12) rfl (in_t7 _ (List.mem_of_getElem? (i := 13) rfl)) rfl (by decide +kernel)
theorem mok_195 : mOK 195 := mOK_of (pi := 118) (ps := 1565) (px := 89) (C := RX12) rfl (in_t7 _ (List.mem_of_getElem? (i := 21) rfl)) rfl (by decide +kernel)
theorem mok_196 : mOK 196 := mOK_of (pi := 118) (ps := 1335) (px := 1336) (C := RX12) rfl (in_t6 _ (List.mem_of_getElem? (i := 32) rfl)) rfl (by decide +kernel)
theorem mok_197 : mOK 197 := mOK_of (pi := 118) (ps := 1342) (px := 1343) (C := RX12) rfl (in_t6 _ (List.mem_of_getElem? (i := 39) rfl)) rfl (by decide +kernel)
theorem mok_198 : mOK 198 := mOK_of (pi := 118) (ps := 1364) (px := 1365) (C := RX12) rfl (in_t6 _ (List.mem_of_getElem? (i := 61) rfl)) rfl (by decide +kernel)
theorem mok_199 : mOK 199 := mOK_of (pi := 118) (ps := 1376) (px := 51) (C := RX12) rfl (in_t6 _ (List.mem_of_getElem? (i := 72) rfl)) rfl (by decide +kernel)
theorem mok_200 : mOK 200 := mOK_of (pi := 118) (ps := 1371) (px := 1372) (C := RX12) rfl (in_t6 _ (List.mem_of_getElem? (i := 68) rfl)) rfl (by decide +kernel)
theorem mok_201 : mOK 201 := mOK_of (pi := 118) (ps := 1669) (px := 98) (C := RX12) rfl (in_t7 _ (List.mem_of_getElem? (i := 125) rfl)) rfl (by decide +kernel)
theorem mok_202 : mOK 202 := mOK_of (pi := 118) (ps := 1392) (px := 54) (C := RX12) rfl (in_t6 _ (List.mem_of_getElem? (i := 88) rfl)) rfl (by decide +kernel)
theorem mok_203 : mOK 203 := mOK_of (pi := 118) (ps := 1413) (px := 59) (C := RX12) rfl (in_t6 _ (List.mem_of_getElem? (i := 109) rfl)) rfl (by decide +kernel)
theorem mok_204 : mOK 204 := mOK_of (pi := 118) (ps := 1396) (px := 55) (C := RX12) rfl (in_t6 _ (List.mem_of_getElem? (i := 92) rfl)) rfl (by decide +kernel)
theorem mok_205 : mOK 205 := mOK_of (pi := 118) (ps := 1463) (px := 70) (C := RX12) rfl (in_t6 _ (List.mem_of_getElem? (i := 159) rfl)) rfl (by decide +kernel)
theorem mok_206 : mOK 206 := mOK_of (pi := 118) (ps := 1417) (px := 60) (C := RX12) rfl (in_t6 _ (List.mem_of_getElem? (i := 113) rfl)) rfl (by decide +kernel)
theorem mok_207 : mOK 207 := mOK_of (pi := 118) (ps := 1421) (px := 61) (C := RX12) rfl (in_t6 _ (List.mem_of_getElem? (i := 117) rfl)) rfl (by decide +kernel)
theorem mok_208 : mOK 208 := mOK_of (pi := 118) (ps := 1408) (px := 58) (C := RX12) rfl (in_t6 _ (List.mem_of_getElem? (i := 104) rfl)) rfl (by decide +kernel)
theorem mok_209 : mOK 209 := mOK_of (pi := 118) (ps := 1435) (px := 63) (C := RX12) rfl (in_t6 _ (List.mem_of_getElem? (i := 131) rfl)) rfl (by decide +kernel)
theorem mok_210 : mOK 210 := mOK_of (pi := 118) (ps := 1424) (px := 0) (C := RX12) rfl (in_t6 _ (List.mem_of_getElem? (i := 120) rfl)) rfl (by decide +kernel)
theorem mok_211 : mOK 211 := mOK_of (pi := 118) (ps := 1427) (px := 0) (C := RX12) rfl (in_t6 _ (List.mem_of_getElem? (i := 123) rfl)) rfl (by decide +kernel)
theorem mok_212 : mOK 212 := mOK_of (pi := 118) (ps := 1431) (px := 62) (C := RX12) rfl (in_t6 _ (List.mem_of_getElem? (i := 127) rfl)) rfl (by decide +kernel)
theorem mok_213 : mOK 213 := mOK_of (pi := 118) (ps := 1404) (px := 57) (C := RX12) rfl (in_t6 _ (List.mem_of_getElem? (i := 100) rfl)) rfl (by decide +kernel)
theorem mok_214 : mOK 214 := mOK_of (pi := 118) (ps := 1439) (px := 64) (C := RX12) rfl (in_t6 _ (List.mem_of_getElem? (i := 135) rfl)) rfl (by decide +kernel)
theorem mok_215 : mOK 215 := mOK_of (pi := 118) (ps := 1400) (px := 56) (C := RX12) rfl (in_t6 _ (List.mem_of_getElem? (i := 96) rfl)) rfl (by decide +kernel)
theorem mok_216 : mOK 216 := mOK_of (pi := 118) (ps := 1451) (px := 67) (C := RX12) rfl (in_t6 _ (List.mem_of_getElem? (i := 147) rfl)) rfl (by decide +kernel)
theorem mok_217 : mOK 217 := mOK_of (pi := 118) (ps := 1455) (px := 68) (C := RX12) rfl (in_t6 _ (List.mem_of_getElem? (i := 151) rfl)) rfl (by decide +kernel)
theorem mok_218 : mOK 218 := mOK_of (pi := 118) (ps := 1459) (px := 69) (C := RX12) rfl (in_t6 _ (List.mem_of_getElem? (i := 155) rfl)) rfl (by decide +kernel)
theorem mok_219 : mOK 219 := mOK_of (pi := 118) (ps := 1447) (px := 66) (C := RX12) rfl (in_t6 _ (List.mem_of_getElem? (i := 143) rfl)) rfl (by decide +kernel)
theorem mok_220 : mOK 220 := mOK_of (pi := 118) (ps := 1443) (px := 65) (C := RX12) rfl (in_t6 _ (List.mem_of_getElem? (i := 139) rfl)) rfl (by decide +kernel)
theorem mok_221 : mOK 221 := mOK_of (pi := 118) (ps := 1388) (px := 53) (C := RX12) rfl (in_t6 _ (List.mem_of_getElem? (i := 84) rfl)) rfl (by decide +kernel)
theorem mok_222 : mOK 222 := mOK_of (pi := 118) (ps := 1384) (px := 52) (C := RX12) rfl (in_t6 _ (List.mem_of_getElem? (i := 80) rfl)) rfl (by decide +kernel)
theorem mok_223 : mOK 223 := mOK_of (pi := 118) (ps := 1379) (px := 1380) (C := RX12) rfl (in_t6 _ (List.mem_of_getElem? (i := 76) rfl)) rfl (by decide +kernel)
theorem mok_224 : mOK 224 := mOK_of (pi := 118) (ps := 1525) (px := 0) (C := RX12) rfl (in_t6 _ (List.mem_of_getElem? (i := 221) rfl)) rfl (by decide +kernel)
theorem mok_225 : mOK 225 := mOK_of (pi := 118) (ps := 1522) (px := 82) (C := RX12) rfl (in_t6 _ (List.mem_of_getElem? (i := 218) rfl)) rfl (by decide +kernel)
theorem mok_226 : mOK 226 := mOK_of (pi := 118) (ps := 1518) (px := 81) (C := RX12) rfl (in_t6 _ (List.mem_of_getElem? (i := 214) rfl)) rfl (by decide +kernel)
theorem mok_227 : mOK 227 := mOK_of (pi := 118) (ps := 1545) (px := 86) (C := RX12) rfl (in_t7 _ (List.mem_of_getElem? (i := 1) rfl)) rfl (by decide +kernel)
theorem mok_228 : mOK 228 := mOK_of (pi := 118) (ps := 1506) (px := 78) (C := RX12) rfl (in_t6 _ (List.mem_of_getElem? (i := 202) rfl)) rfl (by decide +kernel)
theorem mok_229 : mOK 229 := mOK_of (pi := 118) (ps := 1478) (px := 72) (C := RX12) rfl (in_t6 _ (List.mem_of_getElem? (i := 174) rfl)) rfl (by decide +kernel)
theorem mok_230 : mOK 230 := mOK_of (pi := 118) (ps := 1482) (px := 73) (C := RX12) rfl (in_t6 _ (List.mem_of_getElem? (i := 178) rfl)) rfl (by decide +kernel)
theorem mok_231 : mOK 231 := mOK_of (pi := 118) (ps := 1486) (px := 74) (C := RX12) rfl (in_t6 _ (List.mem_of_getElem? (i := 182) rfl)) rfl (by decide +kernel)
theorem mok_232 : mOK 232 := mOK_of (pi := 118) (ps := 1474) (px := 71) (C := RX12) rfl (in_t6 _ (List.mem_of_getElem? (i := 170) rfl)) rfl (by decide +kernel)
theorem mok_233 : mOK 233 := mOK_of (pi := 118) (ps := 1466) (px := 1467) (C := RX12) rfl (in_t6 _ (List.mem_of_getElem? (i := 163) rfl)) rfl (by decide +kernel)
theorem mok_234 : mOK 234 := mOK_of (pi := 118) (ps := 1537) (px := 84) (C := RX12) rfl (in_t6 _ (List.mem_of_getElem? (i := 233) rfl)) rfl (by decide +kernel)
theorem mok_235 : mOK 235 := mOK_of (pi := 118) (ps := 1533) (px := 83) (C := RX12) rfl (in_t6 _ (List.mem_of_getElem? (i := 229) rfl)) rfl (by decide +kernel)
theorem mok_236 : mOK 236 := mOK_of (pi := 118) (ps := 1502) (px := 77) (C := RX12) rfl (in_t6 _ (List.mem_of_getElem? (i := 198) rfl)) rfl (by decide +kernel)
theorem mok_237 : mOK 237 := mOK_of (pi := 118) (ps := 1541) (px := 85) (C := RX12) rfl (in_t6 _ (List.mem_of_getElem? (i := 237) rfl)) rfl (by decide +kernel)
theorem mok_238 : mOK 238 := mOK_of (pi := 118) (ps := 1498) (px := 76) (C := RX12) rfl (in_t6 _ (List.mem_of_getElem? (i := 194) rfl)) rfl (by decide +kernel)
theorem mok_239 : mOK 239 := mOK_of (pi := 118) (ps := 1494) (px := 75) (C := RX12) rfl (in_t6 _ (List.mem_of_getElem? (i := 190) rfl)) rfl (by decide +kernel)
theorem mok_240 : mOK 240 := mOK_of (pi := 118) (ps := 1489) (px := 1490) (C := RX12) rfl (in_t6 _ (List.mem_of_getElem? (i := 186) rfl)) rfl (by decide +kernel)
theorem mok_241 : mOK 241 := mOK_of (pi := 118) (ps := 1553) (px := 87) (C := RX12) rfl (in_t7 _ (List.mem_of_getElem? (i := 9) rfl)) rfl (by decide +kernel)
theorem mok_242 : mOK 242 := mOK_of (pi := 118) (ps := 1548) (px := 1549) (C := RX12) rfl (in_t7 _ (List.mem_of_getElem? (i := 5) rfl)) rfl (by decide +kernel)
theorem mok_243 : mOK 243 := mOK_of (pi := 118) (ps := 1570) (px := 90) (C := RX12) rfl (in_t7 _ (List.mem_of_getElem? (i := 26) rfl)) rfl (by decide +kernel)
theorem mok_244 : mOK 244 := mOK_of (pi := 118) (ps := 1560) (px := 1561) (C := RX12) rfl (in_t7 _ (List.mem_of_getElem? (i := 17) rfl)) rfl (by decide +kernel)
theorem mok_245 : mOK 245 := mOK_of (pi := 118) (ps := 1573) (px := 1574) (C := RX12) rfl (in_t7 _ (List.mem_of_getElem? (i := 30) rfl)) rfl (by decide +kernel)
theorem mok_246 : mOK 246 := mOK_of (pi := 118) (ps := 1577) (px := 1578) (C := RX12) rfl (in_t7 _ (List.mem_of_getElem? (i := 34) rfl)) rfl (by decide +kernel)
theorem mok_247 : mOK 247 := mOK_of (pi := 118) (ps := 1597) (px := 93) (C := RX12) rfl (in_t7 _ (List.mem_of_getElem? (i := 53) rfl)) rfl (by decide +kernel)
theorem mok_248 : mOK 248 := mOK_of (pi := 118) (ps := 1593) (px := 92) (C := RX12) rfl (in_t7 _ (List.mem_of_getElem? (i := 49) rfl)) rfl (by decide +kernel)
theorem mok_249 : mOK 249 := mOK_of (pi := 118) (ps := 1586) (px := 91) (C := RX12) rfl (in_t7 _ (List.mem_of_getElem? (i := 42) rfl)) rfl (by decide +kernel)
theorem mok_250 : mOK 250 := mOK_of (pi := 118) (ps := 1581) (px := 1582) (C := RX12) rfl (in_t7 _ (List.mem_of_getElem? (i := 38) rfl)) rfl (by decide +kernel)
theorem mok_251 : mOK 251 := mOK_of (pi := 118) (ps := 1600) (px := 1601) (C := RX12) rfl (in_t7 _ (List.mem_of_getElem? (i := 57) rfl)) rfl (by decide +kernel)
theorem mok_252 : mOK 252 := mOK_of (pi := 118) (ps := 1604) (px := 1605) (C := RX12) rfl (in_t7 _ (List.mem_of_getElem? (i := 61) rfl)) rfl (by decide +kernel)
theorem mok_253 : mOK 253 := mOK_of (pi := 118) (ps := 1611) (px := 1612) (C := RX12) rfl (in_t7 _ (List.mem_of_getElem? (i := 68) rfl)) rfl (by decide +kernel)
theorem mok_254 : mOK 254 := mOK_of (pi := 118) (ps := 1615) (px := 1616) (C := RX12) rfl (in_t7 _ (List.mem_of_getElem? (i := 72) rfl)) rfl (by decide +kernel)
theorem mok_255 : mOK 255 := mOK_of (pi := 118) (ps := 1619) (px := 1620) (C := RX12) rfl (in_t7 _ (List.mem_of_getElem? (i := 76) rfl)) rfl (by decide +kernel)
theorem mok_256 : mOK 256 := mOK_of (pi := 118) (ps := 1623) (px := 1624) (C := RX12) rfl (in_t7 _ (List.mem_of_getElem? (i := 80) rfl)) rfl (by decide +kernel)
theorem mok_257 : mOK 257 := mOK_of (pi := 118) (ps := 1637) (px := 95) (C := RX12) rfl (in_t7 _ (List.mem_of_getElem? (i := 93) rfl)) rfl (by decide +kernel)
theorem mok_258 : mOK 258 := mOK_of (pi := 118) (ps := 1632) (px := 94) (C := RX12) rfl (in_t7 _ (List.mem_of_getElem? (i := 88) rfl)) rfl (by decide +kernel)
theorem mok_259 : mOK 259 := mOK_of (pi := 118) (ps := 1627) (px := 1628) (C := RX12) rfl (in_t7 _ (List.mem_of_getElem? (i := 84) rfl)) rfl (by decide +kernel)
theorem mok_260 : mOK 260 := mOK_of (pi := 118) (ps := 1640) (px := 1641) (C := RX12) rfl (in_t7 _ (List.mem_of_getElem? (i := 97) rfl)) rfl (by decide +kernel)
theorem mok_261 : mOK 261 := mOK_of (pi := 118) (ps := 1644) (px := 1645) (C := RX12) rfl (in_t7 _ (List.mem_of_getElem? (i := 101) rfl)) rfl (by decide +kernel)
theorem mok_262 : mOK 262 := mOK_of (pi := 118) (ps := 1653) (px := 96) (C := RX12) rfl (in_t7 _ (List.mem_of_getElem? (i := 109) rfl)) rfl (by decide +kernel)
theorem mok_263 : mOK 263 := mOK_of (pi := 118) (ps := 1648) (px := 1649) (C := RX12) rfl (in_t7 _ (List.mem_of_getElem? (i := 105) rfl)) rfl (by decide +kernel)
theorem mok_264 : mOK 264 := mOK_of (pi := 118) (ps := 1656) (px := 1657) (C := RX12) rfl (in_t7 _ (List.mem_of_getElem? (i := 113) rfl)) rfl (by decide +kernel)
theorem mok_265 : mOK 265 := mOK_of (pi := 118) (ps := 1665) (px := 97) (C := RX12) rfl (in_t7 _ (List.mem_of_getElem? (i := 121) rfl)) rfl (by decide +kernel)
theorem mok_266 : mOK 266 := mOK_of (pi := 118) (ps := 1660) (px := 1661) (C := RX12) rfl (in_t7 _ (List.mem_of_getElem? (i := 117) rfl)) rfl (by decide +kernel)
theorem mok_267 : mOK 267 := mOK_of (pi := 118) (ps := 1672) (px := 1673) (C := RX12) rfl (in_t7 _ (List.mem_of_getElem? (i := 129) rfl)) rfl (by decide +kernel)
theorem mok_268 : mOK 268 := mOK_of (pi := 118) (ps := 1680) (px := 0) (C := RX12) rfl (in_t7 _ (List.mem_of_getElem? (i := 136) rfl)) rfl (by decide +kernel)
theorem mok_269 : mOK 269 := mOK_of (pi := 118) (ps := 1676) (px := 1677) (C := RX12) rfl (in_t7 _ (List.mem_of_getElem? (i := 133) rfl)) rfl (by decide +kernel)
theorem mok_270 : mOK 270 := mOK_of (pi := 118) (ps := 1683) (px := 1684) (C := RX12) rfl (in_t7 _ (List.mem_of_getElem? (i := 140) rfl)) rfl (by decide +kernel)
theorem mok_271 : mOK 271 := mOK_of (pi := 118) (ps := 1692) (px := 99) (C := RX12) rfl (in_t7 _ (List.mem_of_getElem? (i := 148) rfl)) rfl (by decide +kernel)
theorem mok_272 : mOK 272 := mOK_of (pi := 118) (ps := 1696) (px := 100) (C := RX12) rfl (in_t7 _ (List.mem_of_getElem? (i := 152) rfl)) rfl (by decide +kernel)
theorem mok_273 : mOK 273 := mOK_of (pi := 118) (ps := 1687) (px := 1688) (C := RX12) rfl (in_t7 _ (List.mem_of_getElem? (i := 144) rfl)) rfl (by decide +kernel)
theorem mok_274 : mOK 274 := mOK_of (pi := 118) (ps := 1704) (px := 101) (C := RX12) rfl (in_t7 _ (List.mem_of_getElem? (i := 160) rfl)) rfl (by decide +kernel)
theorem mok_275 : mOK 275 := mOK_of (pi := 118) (ps := 1699) (px := 1700) (C := RX12) rfl (in_t7 _ (List.mem_of_getElem? (i := 156) rfl)) rfl (by decide +kernel)
theorem mok_276 : mOK 276 := mOK_of (pi := 118) (ps := 1713) (px := 102) (C := RX12) rfl (in_t7 _ (List.mem_of_getElem? (i := 169) rfl)) rfl (by decide +kernel)
theorem mok_277 : mOK 277 := mOK_of (pi := 118) (ps := 1708) (px := 1709) (C := RX12) rfl (in_t7 _ (List.mem_of_getElem? (i := 165) rfl)) rfl (by decide +kernel)
theorem mok_278 : mOK 278 := mOK_of (pi := 118) (ps := 1721) (px := 103) (C := RX12) rfl (in_t7 _ (List.mem_of_getElem? (i := 177) rfl)) rfl (by decide +kernel)
theorem mok_279 : mOK 279 := mOK_of (pi := 118) (ps := 1716) (px := 1717) (C := RX12) rfl (in_t7 _ (List.mem_of_getElem? (i := 173) rfl)) rfl (by decide +kernel)
theorem mok_280 : mOK 280 := mOK_of (pi := 118) (ps := 1729) (px := 104) (C := RX12) rfl (in_t7 _ (List.mem_of_getElem? (i := 185) rfl)) rfl (by decide +kernel)
theorem mok_281 : mOK 281 := mOK_of (pi := 118) (ps := 1724) (px := 1725) (C := RX12) rfl (in_t7 _ (List.mem_of_getElem? (i := 181) rfl)) rfl (by decide +kernel)
theorem mok_282 : mOK 282 := mOK_of (pi := 118) (ps := 1732) (px := 1733) (C := RX12) rfl (in_t7 _ (List.mem_of_getElem? (i := 189) rfl)) rfl (by decide +kernel)
theorem mok_283 : mOK 283 := mOK_of (pi := 118) (ps := 1737) (px := 1738) (C := RX12) rfl (in_t7 _ (List.mem_of_getElem? (i := 194) rfl)) rfl (by decide +kernel)
theorem mok_284 : mOK 284 := mOK_of (pi := 118) (ps := 1741) (px := 1742) (C := RX12) rfl (in_t7 _ (List.mem_of_getElem? (i := 198) rfl)) rfl (by decide +kernel)
theorem mok_285 : mOK 285 := mOK_of (pi := 118) (ps := 1745) (px := 1746) (C := RX12) rfl (in_t7 _ (List.mem_of_getElem? (i := 202) rfl)) rfl (by decide +kernel)
theorem mok_286 : mOK 286 := mOK_of (pi := 118) (ps := 1749) (px := 1750) (C := RX12) rfl (in_t7 _ (List.mem_of_getElem? (i := 206) rfl)) rfl (by decide +kernel)
theorem mok_287 : mOK 287 := mOK_of (pi := 121) (ps := 885) (px := 0) (C := RJ6) rfl (in_t4 _ (List.mem_of_getElem? (i := 61) rfl)) rfl (by decide +kernel)
def mCalled : List Nat := [1, 2, 3, 4, 5, 6, 7, 8, 9, 10, 11, 13, 14, 15, 16, 17, 18, 19, 20, 21, 23, 24, 25, 26, 27, 28, 29, 30, 31, 32, 33, 34, 35, 36, 37, 38, 39, 40, 42, 43, 44, 45, 46, 47, 48, 49, 51, 52, 53, 54, 55, 56, 57, 58, 59, 60, 61, 63, 64, 65, 66, 67, 68, 70, 71, 72, 73, 74, 76, 77, 78, 79, 80, 81, 82, 83, 84, 86, 87, 88, 89, 90, 92, 93, 94, 95, 96, 97, 98, 99, 100, 101, 102, 103, 104, 105, 106, 108, 109, 110, 111, 112, 113, 114, 115, 116, 117, 118, 119, 120, 121, 122, 123, 124, 125, 126, 127, 128, 129, 130, 131, 133, 134, 135, 136, 137, 138, 139, 140, 141, 142, 143, 144, 145, 146, 147, 148, 149, 150, 151, 152, 153, 154, 155, 156, 157, 158, 159, 160, 161, 162, 163, 164, 165, 166, 167, 168, 169, 170, 171, 172, 173, 174, 175, 176, 177, 178, 179, 181, 182, 183, 184, 185, 186, 187, 188, 189, 190, 191, 192, 193, 194, 195, 196, 197, 198, 199, 200, 201, 202, 203, 204, 205, 206, 207, 208, 209, 210, 211, 212, 213, 214, 215, 216, 217, 218, 219, 220, 221, 222, 223, 224, 225, 226, 227, 228, 229, 230, 231, 232, 233, 234, 235, 236, 237, 238, 239, 240, 241, 242, 243, 244, 245, 246, 247, 248, 249, 250, 251, 252, 253, 254, 255, 256, 257, 258, 259, 260, 261, 262, 263, 264, 265, 266, 267, 268, 269, 270, 271, 272, 273, 274, 275, 276, 277, 278, 279, 280, 281, 282, 283, 284, 285, 286, 287]
theorem mokc_0 : ∀ c ∈ [1, 2, 3, 4, 5, 6, 7, 8, 9, 10, 11, 13, 14, 15, 16, 17, 18, 19, 20, 21, 23, 24, 25, 26, 27, 28, 29, 30, 31, 32, 33, 34, 35, 36, 37, 38, 39, 40, 42, 43, 44, 45, 46, 47, 48, 49, 51, 52], mOK c := List.forall_mem_cons.mpr ⟨mok_1, List.forall_mem_cons.mpr ⟨mok_2, List.forall_mem_cons.mpr ⟨mok_3, List.forall_mem_cons.mpr ⟨mok_4, List.forall_mem_cons.mpr ⟨mok_5, List.forall_mem_cons.mpr ⟨mok_6, List.forall_mem_cons.mpr ⟨mok_7, List.forall_mem_cons.mpr ⟨mok_8, List.forall_mem_cons.mpr ⟨mok_9, List.forall_mem_cons.mpr ⟨mok_10, List.forall_mem_cons.mpr ⟨mok_11, List.forall_mem_cons.mpr ⟨mok_13, List.forall_mem_cons.mpr ⟨mok_14, List.forall_mem_cons.mpr ⟨mok_15, List.forall_mem_cons.mpr ⟨mok_16, List.forall_mem_cons.mpr ⟨mok_17, List.forall_mem_cons.mpr ⟨mok_18, List.forall_mem_cons.mpr ⟨mok_19, List.forall_mem_cons.mpr ⟨mok_20, List.forall_mem_cons.mpr ⟨mok_21, List.forall_mem_cons.mpr ⟨mok_23, List.forall_mem_cons.mpr ⟨mok_24, List.forall_mem_cons.mpr ⟨mok_25, List.forall_mem_cons.mpr ⟨mok_26, List.forall_mem_cons.mpr ⟨mok_27, List.forall_mem_cons.mpr ⟨mok_28, List.forall_mem_cons.mpr ⟨mok_29, List.forall_mem_cons.mpr ⟨mok_30, List.forall_mem_cons.mpr ⟨mok_31, List.forall_mem_cons.mpr ⟨mok_32, List.forall_mem_cons.mpr ⟨mok_33, List.forall_mem_cons.mpr ⟨mok_34, List.forall_mem_cons.mpr ⟨mok_35, List.forall_mem_cons.mpr ⟨mok_36, List.forall_mem_cons.mpr ⟨mok_37, List.forall_mem_cons.mpr ⟨mok_38, List.forall_mem_cons.mpr ⟨mok_39, List.forall_mem_cons.mpr ⟨mok_40, List.forall_mem_cons.mpr ⟨mok_42, List.forall_mem_cons.mpr ⟨mok_43, List.forall_mem_cons.mpr ⟨mok_44, List.forall_mem_cons.mpr ⟨mok_45, List.forall_mem_cons.mpr ⟨mok_46, List.forall_mem_cons.mpr ⟨mok_47, List.forall_mem_cons.mpr ⟨mok_48, List.forall_mem_cons.mpr ⟨mok_49, List.forall_mem_cons.mpr ⟨mok_51, List.forall_mem_cons.mpr ⟨mok_52, fun _ h => absurd h List.not_mem_nil⟩⟩⟩⟩⟩⟩⟩⟩⟩⟩⟩⟩⟩⟩⟩⟩⟩⟩⟩⟩⟩⟩⟩⟩⟩⟩⟩⟩⟩⟩⟩⟩⟩⟩⟩⟩⟩⟩⟩⟩⟩⟩⟩⟩⟩⟩⟩⟩
theorem mokc_1 : ∀ c ∈ [53, 54, 55, 56, 57, 58, 59, 60, 61, 63, 64, 65, 66, 67, 68, 70, 71, 72, 73, 74, 76, 77, 78, 79, 80, 81, 82, 83, 84, 86, 87, 88, 89, 90, 92, 93, 94, 95, 96, 97, 98, 99, 100, 101, 102, 103, 104, 105], mOK c := List.forall_mem_cons.mpr ⟨mok_53, List.forall_mem_cons.mpr ⟨mok_54, List.forall_mem_cons.mpr ⟨mok_55, List.forall_mem_cons.mpr ⟨mok_56, List.forall_mem_cons.mpr ⟨mok_57, List.forall_mem_cons.mpr ⟨mok_58, List.forall_mem_cons.mpr ⟨mok_59, List.forall_mem_cons.mpr ⟨mok_60, List.forall_mem_cons.mpr ⟨mok_61, List.forall_mem_cons.mpr ⟨mok_63, List.forall_mem_cons.mpr ⟨mok_64, List.forall_mem_cons.mpr ⟨mok_65, List.forall_mem_cons.mpr ⟨mok_66, List.forall_mem_cons.mpr ⟨mok_67, List.forall_mem_cons.mpr ⟨mok_68, List.forall_mem_cons.mpr ⟨mok_70, List.forall_mem_cons.mpr ⟨mok_71, List.forall_mem_cons.mpr ⟨mok_72, List.forall_mem_cons.mpr ⟨mok_73, List.forall_mem_cons.mpr ⟨mok_74, List.forall_mem_cons.mpr ⟨mok_76, List.forall_mem_cons.mpr ⟨mok_77, List.forall_mem_cons.mpr ⟨mok_78, List.forall_mem_cons.mpr ⟨mok_79, List.forall_mem_cons.mpr ⟨mok_80, List.forall_mem_cons.mpr ⟨mok_81, List.forall_mem_cons.mpr ⟨mok_82, List.forall_mem_cons.mpr ⟨mok_83, List.forall_mem_cons.mpr ⟨mok_84, List.forall_mem_cons.mpr ⟨mok_86, List.forall_mem_cons.mpr ⟨mok_87, List.forall_mem_cons.mpr ⟨mok_88, List.forall_mem_cons.mpr ⟨mok_89, List.forall_mem_cons.mpr ⟨mok_90, List.forall_mem_cons.mpr ⟨mok_92, List.forall_mem_cons.mpr ⟨mok_93, List.forall_mem_cons.mpr ⟨mok_94, List.forall_mem_cons.mpr ⟨mok_95, List.forall_mem_cons.mpr ⟨mok_96, List.forall_mem_cons.mpr ⟨mok_97, List.forall_mem_cons.mpr ⟨mok_98, List.forall_mem_cons.mpr ⟨mok_99, List.forall_mem_cons.mpr ⟨mok_100, List.forall_mem_cons.mpr ⟨mok_101, List.forall_mem_cons.mpr ⟨mok_102, List.forall_mem_cons.mpr ⟨mok_103, List.forall_mem_cons.mpr ⟨mok_104, List.forall_mem_cons.mpr ⟨mok_105, fun _ h => absurd h List.not_mem_nil⟩⟩⟩⟩⟩⟩⟩⟩⟩⟩⟩⟩⟩⟩⟩⟩⟩⟩⟩⟩⟩⟩⟩⟩⟩⟩⟩⟩⟩⟩⟩⟩⟩⟩⟩⟩⟩⟩⟩⟩⟩⟩⟩⟩⟩⟩⟩⟩
theorem mokc_2 : ∀ c ∈ [106, 108, 109, 110, 111, 112, 113, 114, 115, 116, 117, 118, 119, 120, 121, 122, 123, 124, 125, 126, 127, 128, 129, 130, 131, 133, 134, 135, 136, 137, 138, 139, 140, 141, 142, 143, 144, 145, 146, 147, 148, 149, 150, 151, 152, 153, 154, 155], mOK c := List.forall_mem_cons.mpr ⟨mok_106, List.forall_mem_cons.mpr ⟨mok_108, List.forall_mem_cons.mpr ⟨mok_109, List.forall_mem_cons.mpr ⟨mok_110, List.forall_mem_cons.mpr ⟨mok_111, List.forall_mem_cons.mpr ⟨mok_112, List.forall_mem_cons.mpr ⟨mok_113, List.forall_mem_cons.mpr ⟨mok_114, List.forall_mem_cons.mpr ⟨mok_115, List.forall_mem_cons.mpr ⟨mok_116, List.forall_mem_cons.mpr ⟨mok_117, List.forall_mem_cons.mpr ⟨mok_118, List.forall_mem_cons.mpr ⟨mok_119, List.forall_mem_cons.mpr ⟨mok_120, List.forall_mem_cons.mpr ⟨mok_121, List.forall_mem_cons.mpr ⟨mok_122, List.forall_mem_cons.mpr ⟨mok_123, List.forall_mem_cons.mpr ⟨mok_124, List.forall_mem_cons.mpr ⟨mok_125, List.forall_mem_cons.mpr ⟨mok_126, List.forall_mem_cons.mpr ⟨mok_127, List.forall_mem_cons.mpr ⟨mok_128, List.forall_mem_cons.mpr ⟨mok_129, List.forall_mem_cons.mpr ⟨mok_130, List.forall_mem_cons.mpr ⟨mok_131, List.forall_mem_cons.mpr ⟨mok_133, List.forall_mem_cons.mpr ⟨mok_134, List.forall_mem_cons.mpr ⟨mok_135, List.forall_mem_cons.mpr ⟨mok_136, List.forall_mem_cons.mpr ⟨mok_137, List.forall_mem_cons.mpr ⟨mok_138, List.forall_mem_cons.mpr ⟨mok_139, List.forall_mem_cons.mpr ⟨mok_140, List.forall_mem_cons.mpr ⟨mok_141, List.forall_mem_cons.mpr ⟨mok_142, List.forall_mem_cons.mpr ⟨mok_143, List.forall_mem_cons.mpr ⟨mok_144, List.forall_mem_cons.mpr ⟨mok_145, List.forall_mem_cons.mpr ⟨mok_146, List.forall_mem_cons.mpr ⟨mok_147, List.forall_mem_cons.mpr ⟨mok_148, List.forall_mem_cons.mpr ⟨mok_149, List.forall_mem_cons.mpr ⟨mok_150, List.forall_mem_cons.mpr ⟨mok_151, List.forall_mem_cons.mpr ⟨mok_152, List.forall_mem_cons.mpr ⟨mok_153, List.forall_mem_cons.mpr ⟨mok_154, List.forall_mem_cons.mpr ⟨mok_155, fun _ h => absurd h List.not_mem_nil⟩⟩⟩⟩⟩⟩⟩⟩⟩⟩⟩⟩⟩⟩⟩⟩⟩⟩⟩⟩⟩⟩⟩⟩⟩⟩⟩⟩⟩⟩⟩⟩⟩⟩⟩⟩⟩⟩⟩⟩⟩⟩⟩⟩⟩⟩⟩⟩
theorem mokc_3 : ∀ c ∈ [156, 157, 158, 159, 160, 161, 162, 163, 164, 165, 166, 167, 168, 169, 170, 171, 172, 173, 174, 175, 176, 177, 178, 179, 181, 182, 183, 184, 185, 186, 187, 188, 189, 190, 191, 192, 193, 194, 195, 196, 197, 198, 199, 200, 201, 202, 203, 204], mOK c := List.forall_mem_cons.mpr ⟨mok_156, List.forall_mem_cons.mpr ⟨mok_157, List.forall_mem_cons.mpr ⟨mok_158, List.forall_mem_cons.mpr ⟨mok_159, List.forall_mem_cons.mpr ⟨mok_160, List.forall_mem_cons.mpr ⟨mok_161, List.forall_mem_cons.mpr ⟨mok_162, List.forall_mem_cons.mpr ⟨mok_163, List.forall_mem_cons.mpr ⟨mok_164, List.forall_mem_cons.mpr ⟨mok_165, List.forall_mem_cons.mpr ⟨mok_166, List.forall_mem_cons.mpr ⟨mok_167, List.forall_mem_cons.mpr ⟨mok_168, List.forall_mem_cons.mpr ⟨mok_169, List.forall_mem_cons.mpr ⟨mok_170, List.forall_mem_cons.mpr ⟨mok_171, List.forall_mem_cons.mpr ⟨mok_172, List.forall_mem_cons.mpr ⟨mok_173, List.forall_mem_cons.mpr ⟨mok_174, List.forall_mem_cons.mpr ⟨mok_175, List.forall_mem_cons.mpr ⟨mok_176, List.forall_mem_cons.mpr ⟨mok_177, List.forall_mem_cons.mpr ⟨mok_178, List.forall_mem_cons.mpr ⟨mok_179, List.forall_mem_cons.mpr ⟨mok_181, List.forall_mem_cons.mpr ⟨mok_182, List.forall_mem_cons.mpr ⟨mok_183, List.forall_mem_cons.mpr ⟨mok_184, List.forall_mem_cons.mpr ⟨mok_185, List.forall_mem_cons.mpr ⟨mok_186, List.forall_mem_cons.mpr ⟨mok_187, List.forall_mem_cons.mpr ⟨mok_188, List.forall_mem_cons.mpr ⟨mok_189, List.forall_mem_cons.mpr ⟨mok_190, List.forall_mem_cons.mpr ⟨mok_191, List.forall_mem_cons.mpr ⟨mok_192, List.forall_mem_cons.mpr ⟨mok_193, List.forall_mem_cons.mpr ⟨mok_194, List.forall_mem_cons.mpr ⟨mok_195, List.forall_mem_cons.mpr ⟨mok_196, List.forall_mem_cons.mpr ⟨mok_197, List.forall_mem_cons.mpr ⟨mok_198, List.forall_mem_cons.mpr ⟨mok_199, List.forall_mem_cons.mpr ⟨mok_200, List.forall_mem_cons.mpr ⟨mok_201, List.forall_mem_cons.mpr ⟨mok_202, List.forall_mem_cons.mpr ⟨mok_203, List.forall_mem_cons.mpr ⟨mok_204, fun _ h => absurd h List.not_mem_nil⟩⟩⟩⟩⟩⟩⟩⟩⟩⟩⟩⟩⟩⟩⟩⟩⟩⟩⟩⟩⟩⟩⟩⟩⟩⟩⟩⟩⟩⟩⟩⟩⟩⟩⟩⟩⟩⟩⟩⟩⟩⟩⟩⟩⟩⟩⟩⟩
theorem mokc_4 : ∀ c ∈ [205, 206, 207, 208, 209, 210, 211, 212, 213, 214, 215, 216, 217, 218, 219, 220, 221, 222, 223, 224, 225, 226, 227, 228, 229, 230, 231, 232, 233, 234, 235, 236, 237, 238, 239, 240, 241, 242, 243, 244, 245, 246, 247, 248, 249, 250, 251, 252], mOK c := List.forall_mem_cons.mpr ⟨mok_205, List.forall_mem_cons.mpr ⟨mok_206, List.forall_mem_cons.mpr ⟨mok_207, List.forall_mem_cons.mpr ⟨mok_208, List.forall_mem_cons.mpr ⟨mok_209, List.forall_mem_cons.mpr ⟨mok_210, List.forall_mem_cons.mpr ⟨mok_211, List.forall_mem_cons.mpr ⟨mok_212, List.forall_mem_cons.mpr ⟨mok_213, List.forall_mem_cons.mpr ⟨mok_214, List.forall_mem_cons.mpr ⟨mok_215, List.forall_mem_cons.mpr ⟨mok_216, List.forall_mem_cons.mpr ⟨mok_217, List.forall_mem_cons.mpr ⟨mok_218, List.forall_mem_cons.mpr ⟨mok_219, List.forall_mem_cons.mpr ⟨mok_220, List.forall_mem_cons.mpr ⟨mok_221, List.forall_mem_cons.mpr ⟨mok_222, List.forall_mem_cons.mpr ⟨mok_223, List.forall_mem_cons.mpr ⟨mok_224, List.forall_mem_cons.mpr ⟨mok_225, List.forall_mem_cons.mpr ⟨mok_226, List.forall_mem_cons.mpr ⟨mok_227, List.forall_mem_cons.mpr ⟨mok_228, List.forall_mem_cons.mpr ⟨mok_229, List.forall_mem_cons.mpr ⟨mok_230, List.forall_mem_cons.mpr ⟨mok_231, List.forall_mem_cons.mpr ⟨mok_232, List.forall_mem_cons.mpr ⟨mok_233, List.forall_mem_cons.mpr ⟨mok_234, List.forall_mem_cons.mpr ⟨mok_235, List.forall_mem_cons.mpr ⟨mok_236, List.forall_mem_cons.mpr ⟨mok_237, List.forall_mem_cons.mpr ⟨mok_238, List.forall_mem_cons.mpr ⟨mok_239, List.forall_mem_cons.mpr ⟨mok_240, List.forall_mem_cons.mpr ⟨mok_241, List.forall_mem_cons.mpr ⟨mok_242, List.forall_mem_cons.mpr ⟨mok_243, List.forall_mem_cons.mpr ⟨mok_244, List.forall_mem_cons.mpr ⟨mok_245, List.forall_mem_cons.mpr ⟨mok_246, List.forall_mem_cons.mpr ⟨mok_247, List.forall_mem_cons.mpr ⟨mok_248, List.forall_mem_cons.mpr ⟨mok_249, List.forall_mem_cons.mpr ⟨mok_250, List.forall_mem_cons.mpr ⟨mok_251, List.forall_mem_cons.mpr ⟨mok_252, fun _ h => absurd h List.not_mem_nil⟩⟩⟩⟩⟩⟩⟩⟩⟩⟩⟩⟩⟩⟩⟩⟩⟩⟩⟩⟩⟩⟩⟩⟩⟩⟩⟩⟩⟩⟩⟩⟩⟩⟩⟩⟩⟩⟩⟩⟩⟩⟩⟩⟩⟩⟩⟩⟩
theorem mokc_5 : ∀ c ∈ [253, 254, 255, 256, 257, 258, 259, 260, 261, 262, 263, 264, 265, 266, 267, 268, 269, 270, 271, 272, 273, 274, 275, 276, 277, 278, 279, 280, 281, 282, 283, 284, 285, 286, 287], mOK c := List.forall_mem_cons.mpr ⟨mok_253, List.forall_mem_cons.mpr ⟨mok_254, List.forall_mem_cons.mpr ⟨mok_255, List.forall_mem_cons.mpr ⟨mok_256, List.forall_mem_cons.mpr ⟨mok_257, List.forall_mem_cons.mpr ⟨mok_258, List.forall_mem_cons.mpr ⟨mok_259, List.forall_mem_cons.mpr ⟨mok_260, List.forall_mem_cons.mpr ⟨mok_261, List.forall_mem_cons.mpr ⟨mok_262, List.forall_mem_cons.mpr ⟨mok_263, List.forall_mem_cons.mpr ⟨mok_264, List.forall_mem_cons.mpr ⟨mok_265, List.forall_mem_cons.mpr ⟨mok_266, List.forall_mem_cons.mpr ⟨mok_267, List.forall_mem_cons.mpr ⟨mok_268, List.forall_mem_cons.mpr ⟨mok_269, List.forall_mem_cons.mpr ⟨mok_270, List.forall_mem_cons.mpr ⟨mok_271, List.forall_mem_cons.mpr ⟨mok_272, List.forall_mem_cons.mpr ⟨mok_273, List.forall_mem_cons.mpr ⟨mok_274, List.forall_mem_cons.mpr ⟨mok_275, List.forall_mem_cons.mpr ⟨mok_276, List.forall_mem_cons.mpr ⟨mok_277, List.forall_mem_cons.mpr ⟨mok_278, List.forall_mem_cons.mpr ⟨mok_279, List.forall_mem_cons.mpr ⟨mok_280, List.forall_mem_cons.mpr ⟨mok_281, List.forall_mem_cons.mpr ⟨mok_282, List.forall_mem_cons.mpr ⟨mok_283, List.forall_mem_cons.mpr ⟨mok_284, List.forall_mem_cons.mpr ⟨mok_285, List.forall_mem_cons.mpr ⟨mok_286, List.forall_mem_cons.mpr ⟨mok_287, fun _ h => absurd h List.not_mem_nil⟩⟩⟩⟩⟩⟩⟩⟩⟩⟩⟩⟩⟩⟩⟩⟩⟩⟩⟩⟩⟩⟩⟩⟩⟩⟩⟩⟩⟩⟩⟩⟩⟩⟩⟩
set_option maxRecDepth 100000 in
theorem mok_all : ∀ c ∈ mCalled, mOK c := by
  have h : ∀ c ∈ ([1, 2, 3, 4, 5, 6, 7, 8, 9, 10, 11, 13, 14, 15, 16, 17, 18, 19, 20, 21, 23, 24, 25, 26, 27, 28, 29, 30, 31, 32, 33, 34, 35, 36, 37, 38, 39, 40, 42, 43, 44, 45, 46, 47, 48, 49, 51, 52] : List Nat) ++ (([53, 54, 55, 56, 57, 58, 59, 60, 61, 63, 64, 65, 66, 67, 68, 70, 71, 72, 73, 74, 76, 77, 78, 79, 80, 81, 82, 83, 84, 86, 87, 88, 89, 90, 92, 93, 94, 95, 96, 97, 98, 99, 100, 101, 102, 103, 104, 105] : List Nat) ++ (([106, 108, 109, 110, 111, 112, 113, 114, 115, 116, 117, 118, 119, 120, 121, 122, 123, 124, 125, 126, 127, 128, 129, 130, 131, 133, 134, 135, 136, 137, 138, 139, 140, 141, 142, 143, 144, 145, 146, 147, 148, 149, 150, 151, 152, 153, 154, 155] : List Nat) ++ (([156, 157, 158, 159, 160, 161, 162, 163, 164, 165, 166, 167, 168, 169, 170, 171, 172, 173, 174, 175, 176, 177, 178, 179, 181, 182, 183, 184, 185, 186, 187, 188, 189, 190, 191, 192, 193, 194, 195, 196, 197, 198, 199, 200, 201, 202, 203, 204] : List Nat) ++ (([205, 206, 207, 208, 209, 210, 211, 212, 213, 214, 215, 216, 217, 218, 219, 220, 221, 222, 223, 224, 225, 226, 227, 228, 229, 230, 231, 232, 233, 234, 235, 236, 237, 238, 239, 240, 241, 242, 243, 244, 245, 246, 247, 248, 249, 250, 251, 252] : List Nat) ++ (([253, 254, 255, 256, 257, 258, 259, 260, 261, 262, 263, 264, 265, 266, 267, 268, 269, 270, 271, 272, 273, 274, 275, 276, 277, 278, 279, 280, 281, 282, 283, 284, 285, 286, 287] : List Nat)))))), mOK c := List.forall_mem_append.mpr ⟨mokc_0, List.forall_mem_append.mpr ⟨mokc_1, List.forall_mem_append.mpr ⟨mokc_2, List.forall_mem_append.mpr ⟨mokc_3, List.forall_mem_append.mpr ⟨mokc_4, mokc_5⟩⟩⟩⟩⟩
  exact h
/-- a place of the pool of class o is what its word says -/
def chkP (o : Nat) (z : Nat × aP × Bool × Nat) : Bool :=
  match aCls[o]? with
  | none => false
  | some O => match z.2.1.2.2.1 with
    | 4 => chkW z.2.2.2 (.constant O z.1 (Int32.ofInt z.2.1.2.2.2))
    | 10 => (match mTab[z.2.1.1]? with | some e => mCalled.contains z.2.1.1 && e.2.2.2.2.1 == z.2.1.2.1 && e.2.2.2.2.2.2 && (if z.2.2.1 = true then chkN z.2.2.2 (.methodLinkNest O z.1 e.2.1 hostN) else chkW z.2.2.2 (.methodLink O z.1 e.2.1)) | none => false)
    | 11 => (match mTab[z.2.1.1]? with | some e => mCalled.contains z.2.1.1 && e.2.2.2.2.1 == z.2.1.2.1 && !e.2.2.2.2.2.2 && chkW z.2.2.2 (.methodLink O z.1 e.2.1) | none => false)
    | 12 => chkW z.2.2.2 (.methodLink O z.1 arraycopyName)
    | 13 => chkW z.2.2.2 (.methodLink O z.1 Lib.Math.max.name)
    | 14 => chkW z.2.2.2 (.methodLink O z.1 Lib.Math.min.name)
    | k => (match vwCl[z.2.1.1]? with | some (C, T, N) => decide (z.2.1.2.1 < N) && (if z.2.2.1 = true then chkN z.2.2.2 (.fieldLinkNest O z.1 C (T z.2.1.2.1).2.1 (T z.2.1.2.1).2.2.1 hostN) else chkW z.2.2.2 (.fieldLink O z.1 C (T z.2.1.2.1).2.1 (T z.2.1.2.1).2.2.1)) && (T z.2.1.2.1).1 == C && (if k = 0 then clTy z.2.1.1 z.2.1.2.1 == .int && !(T z.2.1.2.1).2.2.2 else if k = 1 then clTy z.2.1.1 z.2.1.2.1 == .boolean && !(T z.2.1.2.1).2.2.2 else k == 2) | none => false)
theorem pl_0 : aPl_0.all (chkP 0) = true := by decide +kernel
theorem pl_1 : aPl_1.all (chkP 1) = true := by decide +kernel
theorem pl_2 : aPl_2.all (chkP 2) = true := by decide +kernel
theorem pl_3 : aPl_3.all (chkP 3) = true := by decide +kernel
theorem pl_4 : aPl_4.all (chkP 4) = true := by decide +kernel
theorem pl_5 : aPl_5.all (chkP 5) = true := by decide +kernel
theorem pl_6 : aPl_6.all (chkP 6) = true := by decide +kernel
theorem pl_7 : aPl_7.all (chkP 7) = true := by decide +kernel
theorem pl_8 : aPl_8.all (chkP 8) = true := by decide +kernel
theorem pl_9 : aPl_9.all (chkP 9) = true := by decide +kernel
theorem pl_10 : aPl_10.all (chkP 10) = true := by decide +kernel
theorem pl_11 : aPl_11.all (chkP 11) = true := by decide +kernel
theorem pl_12 : aPl_12.all (chkP 12) = true := by decide +kernel
theorem pl_13 : aPl_13.all (chkP 13) = true := by decide +kernel
theorem pl_14 : aPl_14.all (chkP 14) = true := by decide +kernel
theorem pl_15 : aPl_15.all (chkP 15) = true := by decide +kernel
theorem pl_16 : aPl_16.all (chkP 16) = true := by decide +kernel
theorem pl_ok : ∀ (c : Nat) (l : List (Nat × aP × Bool × Nat)), aPl[c]? = some l → l.all (chkP c) = true
  | 0, l, h => by cases h; exact pl_0
  | 1, l, h => by cases h; exact pl_1
  | 2, l, h => by cases h; exact pl_2
  | 3, l, h => by cases h; exact pl_3
  | 4, l, h => by cases h; exact pl_4
  | 5, l, h => by cases h; exact pl_5
  | 6, l, h => by cases h; exact pl_6
  | 7, l, h => by cases h; exact pl_7
  | 8, l, h => by cases h; exact pl_8
  | 9, l, h => by cases h; exact pl_9
  | 10, l, h => by cases h; exact pl_10
  | 11, l, h => by cases h; exact pl_11
  | 12, l, h => by cases h; exact pl_12
  | 13, l, h => by cases h; exact pl_13
  | 14, l, h => by cases h; exact pl_14
  | 15, l, h => by cases h; exact pl_15
  | 16, l, h => by cases h; exact pl_16
  | _ + 17, l, h => by simp [aPl] at h
theorem lookup_in {l : List (Nat × aP × Bool × Nat)} {k : Nat} {z : aP × Bool × Nat} (h : l.lookup k = some z) : (k, z) ∈ l := by
  induction l with
  | nil => cases h
  | cons a l ih =>
    obtain ⟨a1, a2⟩ := a
    rw [List.lookup_cons] at h
    by_cases e : (k == a1) = true
    · rw [e] at h
      cases h
      rw [beq_iff_eq] at e
      subst e
      exact List.mem_cons_self
    · simp only [Bool.not_eq_true] at e
      rw [e] at h
      exact List.mem_cons_of_mem _ (ih h)
theorem acp_words : Jvm.Cond.native arraycopyName ∈ gT ∧ Jvm.Cond.static arraycopyName ∈ gT ∧ Jvm.Cond.initialized "java/lang/System" ∈ gT := ⟨chkW_in (p := 605) (by decide +kernel), chkW_in (p := 604) (by decide +kernel), chkW_in (p := 119) (by decide +kernel)⟩
theorem math_words : (Jvm.Cond.static Lib.Math.max.name ∈ gT ∧ Jvm.Cond.static Lib.Math.min.name ∈ gT ∧ Jvm.Cond.initialized "java/lang/Math" ∈ gT) ∧ Jvm.Cond.code Lib.Math.max.name Lib.Math.max.code 2 (some .int) ∈ gT ∧ Jvm.Cond.code Lib.Math.min.name Lib.Math.min.code 2 (some .int) ∈ gT := ⟨⟨chkW_in (p := 735) (by decide +kernel), chkW_in (p := 732) (by decide +kernel), chkW_in (p := 120) (by decide +kernel)⟩, List.mem_filter.mpr ⟨in_t3 _ (List.mem_of_getElem? (i := 151) rfl), rfl⟩, List.mem_filter.mpr ⟨in_t3 _ (List.mem_of_getElem? (i := 148) rfl), rfl⟩⟩
/-- an instruction as the small machine reads it is the method's, and its pool place is right -/
theorem rfI_ok {c pc : Nat} {i : Instr} {P : aP} (h : rfI c pc = some (i, P)) : ∃ (e : ByteArray × MethodName × Nat × Nat × Nat × Option FieldType × Bool) (n : Nat), mTab[c]? = some e ∧ decode e.1 pc = .ok (i, n) ∧ okLen i n = true ∧ ∀ k, idxOf i = some k → ∃ (nb : Bool) (p : Nat), chkP e.2.2.1 (k, P, nb, p) = true := by
  unfold rfI at h
  split at h
  · next e he =>
    refine ⟨e, ?_⟩
    split at h
    · next j n hd =>
      split at h
      · next hl =>
        split at h
        · next hi =>
          cases h
          exact ⟨n, he, hd, hl, fun k hk => by rw [hi] at hk; cases hk⟩
        · next k hi =>
          split at h
          · next l hl2 =>
            rw [Option.map_eq_some_iff] at h
            obtain ⟨z, h1, h2⟩ := h
            cases h2
            refine ⟨n, he, hd, hl, fun k' hk => ?_⟩
            rw [hi] at hk
            cases hk
            exact ⟨z.2.1, z.2.2, List.all_eq_true.mp (pl_ok _ _ hl2) _ (lookup_in h1)⟩
          · cases h
      · cases h
    · cases h
  · cases h
end
section
/-! The small machine's memory and the heap: numbers, cells, locals. -/
theorem w_of (z : Int) : Int32.ofInt (wr z) = Int32.ofInt z := by
  apply Int32.toInt_inj.mp
  rw [Int32.toInt_ofInt, Int32.toInt_ofInt]
  show Int.bmod (wr z) 4294967296 = Int.bmod z 4294967296
  rw [Int.bmod_def, Int.bmod_def]
  unfold wr
  split <;> split <;> omega
theorem w_in (z : Int) : inR (wr z) := by unfold inR wr; omega
theorem w_id {z : Int} (h : inR z) : wr z = z := by unfold inR at h; unfold wr; omega
theorem i_toI {x : Int} (h : inR x) : (Int32.ofInt x).toInt = x := Int32.toInt_ofInt_of_le (by have := h.1; omega) (by have := h.2; omega)
theorem i_inR (x : Int32) : inR x.toInt := ⟨by have := x.le_toInt; omega, by have := x.toInt_lt; omega⟩
theorem i_eq {x y : Int} (hx : inR x) (hy : inR y) : Int32.ofInt x = Int32.ofInt y ↔ x = y := by rw [← Int32.toInt_inj, i_toI hx, i_toI hy]
theorem i_lt {x y : Int} (hx : inR x) (hy : inR y) : Int32.ofInt x < Int32.ofInt y ↔ x < y := by rw [Int32.lt_iff_toInt_lt, i_toI hx, i_toI hy]
theorem i_le {x y : Int} (hx : inR x) (hy : inR y) : Int32.ofInt x ≤ Int32.ofInt y ↔ x ≤ y := by rw [Int32.le_iff_toInt_le, i_toI hx, i_toI hy]
theorem i_0 : Int32.ofInt 0 = 0 := rfl
theorem inR_0 : inR 0 := by unfold inR; omega
theorem i_add (x y : Int) : Int32.ofInt x + Int32.ofInt y = Int32.ofInt (wr (x + y)) := by rw [w_of, Int32.ofInt_add]
theorem i_sub (x y : Int) : Int32.ofInt x - Int32.ofInt y = Int32.ofInt (wr (x - y)) := by rw [w_of, Int32.ofInt_sub]
theorem i_mul (x y : Int) : Int32.ofInt x * Int32.ofInt y = Int32.ofInt (wr (x * y)) := by rw [w_of, Int32.ofInt_mul]
theorem i_neg (x : Int) : -Int32.ofInt x = Int32.ofInt (wr (-x)) := by rw [w_of, Int32.ofInt_neg]
theorem i_div {x y : Int} (hx : inR x) (hy : inR y) : Int32.ofInt x / Int32.ofInt y = Int32.ofInt (wr (x.tdiv y)) := by
  rw [w_of]
  apply Int32.toInt_inj.mp
  rw [Int32.toInt_ofInt, Int32.toInt_div, i_toI hx, i_toI hy]
theorem i_rem {x y : Int} (hx : inR x) (hy : inR y) : Int32.ofInt x - Int32.ofInt x / Int32.ofInt y * Int32.ofInt y = Int32.ofInt (x.tmod y) := by
  rw [i_div hx hy, w_of, ← Int32.ofInt_mul, ← Int32.ofInt_sub]
  congr 1
  have h := Int.mul_tdiv_add_tmod x y
  rw [Int.mul_comm] at h
  omega
theorem i_remR {x y : Int} (hx : inR x) (hy : inR y) : inR (x.tmod y) := by
  have h := i_inR (Int32.ofInt x % Int32.ofInt y)
  rw [Int32.toInt_mod, i_toI hx, i_toI hy] at h
  exact h
theorem i_bit (x : Int32) : Int32.ofInt x.toInt = x := Int32.ofInt_toInt x
theorem i_cl {i : Int} (h : inR i) : (Int32.ofInt i).toNatClampNeg = i.toNat := Int32.toNatClampNeg_ofInt_of_le (by have := h.1; omega) (by have := h.2; omega)
theorem i_vp {i : Int} {n : Nat} (h : inR i) (h0 : 0 ≤ i) (h1 : i < (n : Int)) : vp_in (Int32.ofInt i) n := vp_in_iff.mpr (by rw [i_toI h]; exact ⟨h0, h1⟩)
theorem i_b8 (x : Int) : (Int32.ofInt x).toInt8.toInt32 = Int32.ofInt (b8 x) := by
  have hb : inR (b8 x) := by unfold inR b8; omega
  apply Int32.toInt_inj.mp
  rw [i_toI hb, Int32.toInt8_ofInt, Int8.toInt_toInt32, Int8.toInt_ofInt]
  show Int.bmod x 256 = b8 x
  rw [Int.bmod_def]
  unfold b8
  split <;> omega
theorem b8_in (x : Int) : inR (b8 x) := by unfold inR b8; omega
-- cells
def cvo (adr : Nat → Nat) : aV → Option Value
  | .inl x => some (.int (Int32.ofInt x))
  | .inr (some k) => some (.ref (adr k))
  | .inr none => none
def cv (adr : Nat → Nat) : aV → Value
  | .inl x => .int (Int32.ofInt x)
  | .inr (some k) => .ref (adr k)
  | .inr none => .null
def fldOf (adr : Nat → Nat) (refs : List (Option Nat)) (row : Nat → Int) (j : Nat) : Value := match refs[j]? with
  | some (some q) => .ref (adr q)
  | _ => .int (Int32.ofInt (row j))
def cellOf (adr : Nat → Nat) (cA : Nat → ClassId) (kd : aK) (row : Nat → Int) : va_E := match kd with
  | .inl (c, refs) => .inr (c, (List.range refs.length).map (fldOf adr refs row))
  | .inr (t, n) => .inl (cA t, n, .inl (fun j => Int32.ofInt (row j)))
def wsOf (adr : Nat → Nat) (cA : Nat → ClassId) (M : aM) : va_W := (List.range (lay0.length - 1)).map (fun k => (adr (k + 1), cellOf adr cA (lay0.getD (k + 1) (.inr (0, 0))) (M (k + 1))))
section RELW
variable {adr : Nat → Nat} {cA : Nat → ClassId} {M M' : aM}
theorem ws_get {q : Nat} {e : aK} (h : lay0[q + 1]? = some e) : (wsOf adr cA M)[q]? = some (adr (q + 1), cellOf adr cA e (M (q + 1))) := by
  have hl : q + 1 < lay0.length := (List.getElem?_eq_some_iff.mp h).1
  unfold wsOf
  rw [List.getElem?_map, List.getElem?_range (by omega)]
  simp only [Option.map_some, List.getD_eq_getElem?_getD, h, Option.getD_some]
theorem ws_set {q : Nat} {e : aK} (h : lay0[q + 1]? = some e) (hM : ∀ a, a ≠ q + 1 → M' a = M a) : (wsOf adr cA M).set q (adr (q + 1), cellOf adr cA e (M' (q + 1))) = wsOf adr cA M' := by
  have hl : q + 1 < lay0.length := (List.getElem?_eq_some_iff.mp h).1
  apply List.ext_getElem?
  intro k
  by_cases hk : k = q
  · subst hk
    rw [List.getElem?_set_self (by simp [wsOf]; omega), ws_get h]
  · rw [List.getElem?_set_ne (Ne.symm hk)]
    unfold wsOf
    rw [List.getElem?_map, List.getElem?_map]
    by_cases hz : k < lay0.length - 1
    · rw [List.getElem?_range hz]
      simp only [Option.map_some]
      rw [hM (k + 1) (by omega)]
    · rw [List.getElem?_eq_none (by simp; omega)]
      rfl
theorem up_ne {q j : Nat} {x : Int} {a : Nat} (h : a ≠ q) : upM M q j x a = M a := by unfold upM; rw [if_neg h]
theorem up_eq {q j : Nat} {x : Int} : upM M q j x q = fun b => if b = j then x else M q b := by unfold upM; rw [if_pos rfl]
theorem cell_put {c j : Nat} {refs : List (Option Nat)} {row : Nat → Int} {x : Int} (h : refs[j]? = some none) : cellOf adr cA (.inl (c, refs)) (fun b => if b = j then x else row b) = .inr (c, ((List.range refs.length).map (fldOf adr refs row)).set j (.int (Int32.ofInt x))) := by
  have hl : j < refs.length := (List.getElem?_eq_some_iff.mp h).1
  unfold cellOf
  dsimp only
  congr 2
  apply List.ext_getElem?
  intro k
  rw [List.getElem?_map]
  by_cases hk : k = j
  · subst hk
    rw [List.getElem?_set_self (by simpa using hl), List.getElem?_range hl]
    simp [fldOf, h]
  · rw [List.getElem?_set_ne (Ne.symm hk), List.getElem?_map]
    by_cases hz : k < refs.length
    · rw [List.getElem?_range hz]
      simp [fldOf, hk]
    · rw [List.getElem?_eq_none (by simp; omega)]
      rfl
theorem cell_arr {t n j : Nat} {row : Nat → Int} {x : Int} : cellOf adr cA (.inr (t, n)) (fun b => if b = j then x else row b) = .inl (cA t, n, .inl (upd (fun b => Int32.ofInt (row b)) j (Int32.ofInt x))) := by
  unfold cellOf
  dsimp only
  congr 4
  funext b
  unfold upd
  by_cases h : b = j <;> simp [h]
end RELW
-- locals and stack
def lvl (adr : Nat → Nat) (Lo : List aV) : List (Nat × Value) := (List.range Lo.length).filterMap (fun i => (Lo[i]?.bind (cvo adr)).map (fun w => (i, w)))
section RELL
variable {adr : Nat → Nat}
theorem lvl_in {Lo : List aV} {i : Nat} {v : aV} {w : Value} (h : Lo[i]? = some v) (hc : cvo adr v = some w) : (i, w) ∈ lvl adr Lo := by
  refine List.mem_filterMap.mpr ⟨i, List.mem_range.mpr (List.getElem?_eq_some_iff.mp h).1, ?_⟩
  simp [h, hc]
theorem lvl_of {Lo : List aV} {i : Nat} {w : Value} (h : (i, w) ∈ lvl adr Lo) : ∃ v, Lo[i]? = some v ∧ cvo adr v = some w := by
  obtain ⟨j, -, hj⟩ := List.mem_filterMap.mp h
  rw [Option.map_eq_some_iff] at hj
  obtain ⟨z, h1, h2⟩ := hj
  cases h2
  rw [Option.bind_eq_some_iff] at h1
  exact h1
theorem lvh_mono {ls : Array Slot} {n : Nat} {l l' : List (Nat × Value)} (h : lv_has ls n l) (hm : ∀ q ∈ l', q ∈ l) : lv_has ls n l' := ⟨h.1, h.2.1, fun q hq => h.2.2 q (hm q hq)⟩
theorem cvo_cat {v : aV} {w : Value} (h : cvo adr v = some w) : w.category = 1 := by
  rcases v with x | (_ | k)
  · cases h; rfl
  · cases h
  · cases h; rfl
theorem lvl_set {ls : Array Slot} {n i : Nat} {Lo : List aV} {v : aV} {w : Value} (h : lv_has ls n ((i, w) :: (lvl adr Lo).filter (fun q => !(q.1 == i) && !(q.1 + 1 == i && q.2.category == 2)))) (hc : cvo adr v = some w) : lv_has ls n (lvl adr (Lo.set i v)) := by
  refine lvh_mono h fun q hq => ?_
  obtain ⟨j, z⟩ := q
  obtain ⟨u, h1, h2⟩ := lvl_of hq
  by_cases hj : j = i
  · subst hj
    have hl : j < Lo.length := by have := (List.getElem?_eq_some_iff.mp h1).1; simpa using this
    rw [List.getElem?_set_self hl] at h1
    cases h1
    rw [hc] at h2
    cases h2
    exact List.mem_cons_self
  · rw [List.getElem?_set_ne (Ne.symm hj)] at h1
    refine List.mem_cons_of_mem _ (List.mem_filter.mpr ⟨lvl_in h1 h2, ?_⟩)
    have hcat := cvo_cat h2
    simp [hj, hcat]
end RELL
def okV : aV → Prop
  | .inl x => inR x
  | .inr _ => True
def okS : aV → Prop
  | .inl x => inR x
  | .inr (some _) => True
  | .inr none => False
theorem okS_cvo {adr : Nat → Nat} {v : aV} (h : okS v) : cvo adr v = some (cv adr v) := by
  rcases v with x | (_ | k)
  · rfl
  · cases h
  · rfl
theorem okS_V {v : aV} (h : okS v) : okV v := by
  rcases v with x | (_ | k)
  · exact h
  · trivial
  · trivial
theorem cv_cat (adr : Nat → Nat) (v : aV) : (cv adr v).category = 1 := by rcases v with x | (_ | k) <;> rfl
theorem cv_sum (adr : Nat → Nat) (S : List aV) : ((S.map (cv adr)).map fun v => v.category).sum = S.length := by
  induction S with
  | nil => rfl
  | cons a S ih => simp only [List.map_cons, List.sum_cons, List.length_cons, ih, cv_cat]; omega
def soF (adr : Nat → Nat) (nL : Nat) (Lo St : List aV) (ls : Array Slot) : Prop := lv_has ls nL (lvl adr Lo) ∧ Lo.length = nL ∧ (∀ v ∈ Lo, okV v) ∧ ∀ v ∈ St, okS v
section SOF
variable {adr : Nat → Nat} {nL : Nat} {Lo St S' : List aV} {ls ls' : Array Slot} {v w : aV}
theorem soF.push (h : soF adr nL Lo St ls) (hv : okS v) : soF adr nL Lo (v :: St) ls := ⟨h.1, h.2.1, h.2.2.1, fun u hu => (List.mem_cons.mp hu).elim (fun e => e ▸ hv) (h.2.2.2 u)⟩
theorem soF.tail (h : soF adr nL Lo (v :: St) ls) : soF adr nL Lo St ls := ⟨h.1, h.2.1, h.2.2.1, fun u hu => h.2.2.2 u (List.mem_cons_of_mem _ hu)⟩
theorem soF.top (h : soF adr nL Lo (v :: St) ls) : okS v := h.2.2.2 v List.mem_cons_self
theorem soF.get {i : Nat} (h : soF adr nL Lo St ls) (hv : Lo[i]? = some v) : okV v := h.2.2.1 v (List.mem_of_getElem? hv)
theorem soF.read {i : Nat} {z : Value} (h : soF adr nL Lo St ls) (hv : Lo[i]? = some v) (hc : cvo adr v = some z) : ls[i]? = some (.val z) := h.1.2.2 (i, z) (lvl_in hv hc)
theorem soF.put {i : Nat} {z : Value} (h : soF adr nL Lo St ls) (h' : lv_has ls' nL ((i, z) :: (lvl adr Lo).filter (fun q => !(q.1 == i) && !(q.1 + 1 == i && q.2.category == 2)))) (hv : okS v) (hc : cvo adr v = some z) : soF adr nL (Lo.set i v) St ls' :=
  ⟨lvl_set h' hc, by rw [List.length_set]; exact h.2.1, fun u hu => (List.mem_or_eq_of_mem_set hu).elim (h.2.2.1 u) (fun e => e ▸ okS_V hv), h.2.2.2⟩
end SOF
end
section
/-! One step of the small machine is a step of the machine. -/
def soM (M : aM) (L : Nat) (xs : Nat → Int32) : Prop := (∀ q j, inR (M q j)) ∧ M 0 4000 = (L : Int) ∧ L ≤ 3072 ∧ ∀ j, j < L → M 0 j = (xs j).toInt
def soH (D : va_G) (cA : Nat → ClassId) (adr : Nat → Nat) (A : Nat → Prop) (s : State) (M : aM) (H : Heap) (locs : List Loc) : Prop := va_P D vwCl (wsOf adr cA M) H ∧ va_D A (wsOf adr cA M) ∧ va_S A s.heap H locs
def soX (s : State) (A : Nat → Prop) (adr : Nat → Nat) (L : Nat) (xs : Nat → Int32) : Prop := va_X (adr 0) L xs s s.heap ∧ adr 0 < s.heap.size ∧ ¬ A (adr 0) ∧ ∀ q, s.heap.size ≤ q → A q
def tysO (cA : Nat → ClassId) : List (ClassId × FieldType) := [(cA 0, .int), (cA 1, .byte)]
def soK (p : Program) (s : State) (m : MethodId) (args : Array Value) (c : Code) (O : String) (cc : ByteArray) (nL : Nat) (D : va_G) (cA : Nat → ClassId) : Prop := p.tables.exec = Jvm.exec ∧ c.code = cc ∧ c.maxLocals = nL ∧ s.vm.findClass O = some m.cls ∧ (∀ w ∈ gT, w.before args s = true) ∧ nOK s ∧ va_K D vwCl (tysO cA) s
theorem up_M {M : aM} {L : Nat} {xs : Nat → Int32} {q j : Nat} {x : Int} (h : soM M L xs) (hx : inR x) : soM (upM M (q + 1) j x) L xs := by
  refine ⟨fun a b => ?_, ?_, h.2.2.1, fun i hi => ?_⟩
  · by_cases e : a = q + 1
    · subst e
      rw [up_eq]
      dsimp only
      split
      · exact hx
      · exact h.1 _ _
    · rw [up_ne e]; exact h.1 _ _
  · rw [up_ne (by omega)]; exact h.2.1
  · rw [up_ne (by omega)]; exact h.2.2.2 i hi
theorem lay_pos {q : Nat} {e : aK} (h : lay0[q]? = some e) (hn : ∀ n, e ≠ .inr (2, n)) : ∃ k, q = k + 1 := by
  cases q with
  | zero => exact absurd (Option.some.inj (lay_zero.symm.trans h)).symm (hn 0)
  | succ k => exact ⟨k, rfl⟩
def rfV (adr : Nat → Nat) (x : Int) : Option Nat → Value
  | some q => .ref (adr q)
  | none => .int (Int32.ofInt x)
theorem fld_at {adr : Nat → Nat} {refs : List (Option Nat)} {row : Nat → Int} {j : Nat} {o : Option Nat} (h : refs[j]? = some o) : ((List.range refs.length).map (fldOf adr refs row))[j]? = some (rfV adr (row j) o) := by
  have hl : j < refs.length := (List.getElem?_eq_some_iff.mp h).1
  rw [List.getElem?_map, List.getElem?_range hl]
  cases o <;> simp [fldOf, rfV, h]
set_option maxHeartbeats 8000000 in
set_option maxRecDepth 20000 in
theorem so_step {p : Program} {l : Launch} {e : Env} {R : Room} {s : State} {m : MethodId} {args : Array Value} {below : List Frame} {meth : Method} {c : Code} {H : Heap} {locs : List Loc} {cells slots : Nat} {Q : State → Prop}
    {O : String} {cc : ByteArray} {nL on : Nat} {D : va_G} {cA : Nat → ClassId} {adr : Nat → Nat} {A : Nat → Prop} {L : Nat} {xs : Nat → Int32} {own : Nat → Nat} {bz : Bool} {pc n : Nat} {i : Instr} {P : aP} {Lo St : List aV} {M : aM} {ls : Array Slot}
    {pc' : Nat} {Lo' St' : List aV} {M' : aM}
    (K : soK p s m args c O cc nL D cA) (hO : aCls[on]? = some O) (X : soX s A adr L xs) (hR : 2 ≤ R.frames ∧ 60 ≤ R.locals ∧ cells ≤ R.cells ∧ slots ≤ R.slots)
    (hd : decode cc pc = .ok (i, n)) (hl : okLen i n = true) (hp : ∀ k, idxOf i = some k → ∃ (nb : Bool) (z : Nat), chkP on (k, P, nb, z) = true)
    (h : sem own bz pc i P Lo St M = aGo pc' Lo' St' M') (hM : soM M L xs) (hH : soH D cA adr A s M H locs) (hF : soF adr nL Lo St ls)
    (kont : ∀ (H' : Heap) (locs' : List Loc) (ls' : Array Slot), soM M' L xs → soH D cA adr A s M' H' locs' → soF adr nL Lo' St' ls' → W p l e R s m args below meth c H' locs' cells slots Q (F0 m pc' ls' (St'.map (cv adr)))) :
    W p l e R s m args below meth c H locs cells slots Q (F0 m pc ls (St.map (cv adr))) := by
  obtain ⟨hx, hb, hml, hown, hts, hN, hK⟩ := K
  cases i with
  | iconst k =>
    simp only [sem] at h
    split at h
    · next hk =>
      cases h
      simp only [okLen, beq_iff_eq] at hl; subst hl
      exact lv_iconst hx hb hd rfl (kont H locs ls hM hH (hF.push (v := .inl k) ⟨by omega, by omega⟩))
    · cases h
  | bipush k =>
    simp only [sem] at h
    split at h
    · next hk =>
      cases h
      simp only [okLen, beq_iff_eq] at hl; subst hl
      refine lv_bipush hx hb hd ?_ (kont H locs ls hM hH (hF.push (v := .inl k) ⟨by omega, by omega⟩))
      apply Int32.toInt_inj.mp
      rw [Int8.toInt_toInt32, Int8.toInt_ofInt_of_le (by omega) (by omega), i_toI ⟨by omega, by omega⟩]
    · cases h
  | sipush k =>
    simp only [sem] at h
    split at h
    · next hk =>
      cases h
      simp only [okLen, beq_iff_eq] at hl; subst hl
      refine lv_sipush hx hb hd ?_ (kont H locs ls hM hH (hF.push (v := .inl k) ⟨by omega, by omega⟩))
      apply Int32.toInt_inj.mp
      rw [Int16.toInt_toInt32, Int16.toInt_ofInt_of_le (by omega) (by omega), i_toI ⟨by omega, by omega⟩]
    · cases h
  | ldc k =>
    simp only [sem] at h
    split at h
    · next hk =>
      cases h
      simp only [okLen, beq_iff_eq] at hl; subst hl
      obtain ⟨nb, z, hz⟩ := hp k rfl
      simp only [chkP, hO, hk.1] at hz
      exact lv_ldc hx hb hown (hts _ (chkW_in hz)) hd (kont H locs ls hM hH (hF.push (v := .inl P.2.2.2) ⟨hk.2.1, hk.2.2⟩))
    · cases h
  | ldc_w k =>
    simp only [sem] at h
    split at h
    · next hk =>
      cases h
      simp only [okLen, beq_iff_eq] at hl; subst hl
      obtain ⟨nb, z, hz⟩ := hp k rfl
      simp only [chkP, hO, hk.1] at hz
      exact lv_ldcw hx hb hown (hts _ (chkW_in hz)) hd (kont H locs ls hM hH (hF.push (v := .inl P.2.2.2) ⟨hk.2.1, hk.2.2⟩))
    · cases h
  | iload k =>
    simp only [sem] at h
    split at h
    · next x hv =>
      cases h
      simp only [okLen, beq_iff_eq] at hl; subst hl
      exact lv_iload hx hb hd (hF.read hv rfl) (kont H locs ls hM hH (hF.push (v := .inl x) (hF.get hv)))
    · cases h
  | iload_n k =>
    simp only [sem] at h
    split at h
    · next x hv =>
      cases h
      simp only [okLen, beq_iff_eq] at hl; subst hl
      exact lv_iload_n hx hb hd rfl (hF.read hv rfl) (kont H locs ls hM hH (hF.push (v := .inl x) (hF.get hv)))
    · cases h
  | aload k =>
    simp only [sem] at h
    split at h
    · next x hv =>
      cases h
      simp only [okLen, beq_iff_eq] at hl; subst hl
      exact lv_aload hx hb hd (hF.read hv rfl) (kont H locs ls hM hH (hF.push (v := .inr (some x)) trivial))
    · cases h
  | aload_n k =>
    simp only [sem] at h
    split at h
    · next x hv =>
      cases h
      simp only [okLen, beq_iff_eq] at hl; subst hl
      exact lv_aload_n hx hb hd rfl (hF.read hv rfl) (kont H locs ls hM hH (hF.push (v := .inr (some x)) trivial))
    · cases h
  | istore k =>
    simp only [sem] at h
    split at h
    · next x S' =>
      split at h
      · next hk =>
        cases h
        simp only [okLen, beq_iff_eq] at hl; subst hl
        exact lv_istore hx hb hd hF.1 (by rw [← hF.2.1]; exact hk) rfl (fun ls' h' => kont H locs ls' hM hH (hF.tail.put h' hF.top rfl))
      · cases h
    · cases h
  | istore_n k =>
    simp only [sem] at h
    split at h
    · next x S' =>
      split at h
      · next hk =>
        cases h
        simp only [okLen, beq_iff_eq] at hl; subst hl
        exact lv_istore_n hx hb hd rfl hF.1 (by rw [← hF.2.1]; exact hk) rfl (fun ls' h' => kont H locs ls' hM hH (hF.tail.put h' hF.top rfl))
      · cases h
    · cases h
  | astore k =>
    simp only [sem] at h
    split at h
    · next x S' =>
      split at h
      · next hk =>
        cases h
        simp only [okLen, beq_iff_eq] at hl; subst hl
        exact lv_astore hx hb hd hF.1 (by rw [← hF.2.1]; exact hk) rfl (fun ls' h' => kont H locs ls' hM hH (hF.tail.put h' hF.top rfl))
      · cases h
    · cases h
  | astore_n k =>
    simp only [sem] at h
    split at h
    · next x S' =>
      split at h
      · next hk =>
        cases h
        simp only [okLen, beq_iff_eq] at hl; subst hl
        exact lv_astore_n hx hb hd rfl hF.1 (by rw [← hF.2.1]; exact hk) rfl (fun ls' h' => kont H locs ls' hM hH (hF.tail.put h' hF.top rfl))
      · cases h
    · cases h
  | iinc k d =>
    simp only [sem] at h
    split at h
    · next x hv =>
      cases h
      simp only [okLen, beq_iff_eq] at hl; subst hl
      obtain ⟨kk, hkk⟩ := List.getElem?_of_mem (lvl_in (adr := adr) hv rfl)
      exact lv_iinc hx hb hd hF.1 hkk (by rw [← Int32.ofInt_add, ← w_of]) (by rw [← hF.2.1]; exact (List.getElem?_eq_some_iff.mp hv).1) rfl (fun ls' h' => kont H locs ls' hM hH (hF.put (v := .inl (wr (x + d))) h' (w_in _) rfl))
    · cases h
  | iadd =>
    simp only [sem] at h
    split at h
    · next y x S' =>
      cases h
      simp only [okLen, beq_iff_eq] at hl; subst hl
      exact lv_iadd hx hb hd (by rw [i_add]; exact kont H locs ls hM hH (hF.tail.tail.push (v := .inl (wr (x + y))) (w_in _)))
    · cases h
  | isub =>
    simp only [sem] at h
    split at h
    · next y x S' =>
      cases h
      simp only [okLen, beq_iff_eq] at hl; subst hl
      exact lv_isub hx hb hd (by rw [i_sub]; exact kont H locs ls hM hH (hF.tail.tail.push (v := .inl (wr (x - y))) (w_in _)))
    · cases h
  | imul =>
    simp only [sem] at h
    split at h
    · next y x S' =>
      cases h
      simp only [okLen, beq_iff_eq] at hl; subst hl
      exact lv_imul hx hb hd (by rw [i_mul]; exact kont H locs ls hM hH (hF.tail.tail.push (v := .inl (wr (x * y))) (w_in _)))
    · cases h
  | idiv =>
    simp only [sem] at h
    split at h
    · next y x S' =>
      split at h
      · cases h
      · next hy =>
        cases h
        simp only [okLen, beq_iff_eq] at hl; subst hl
        have hy' : ¬ Int32.ofInt y = 0 := fun q => hy ((i_eq hF.top inR_0).mp q)
        exact lv_idiv hx hb hd hy' (by rw [i_div hF.tail.top hF.top]; exact kont H locs ls hM hH (hF.tail.tail.push (v := .inl (wr (x.tdiv y))) (w_in _)))
    · cases h
  | irem =>
    simp only [sem] at h
    split at h
    · next y x S' =>
      split at h
      · cases h
      · next hy =>
        cases h
        simp only [okLen, beq_iff_eq] at hl; subst hl
        have hy' : ¬ Int32.ofInt y = 0 := fun q => hy ((i_eq hF.top inR_0).mp q)
        exact lv_irem hx hb hd hy' (by rw [i_rem hF.tail.top hF.top]; exact kont H locs ls hM hH (hF.tail.tail.push (v := .inl (x.tmod y)) (i_remR hF.tail.top hF.top)))
    · cases h
  | ineg =>
    simp only [sem] at h
    split at h
    · next x S' =>
      cases h
      simp only [okLen, beq_iff_eq] at hl; subst hl
      exact lv_ineg hx hb hd (by rw [i_neg]; exact kont H locs ls hM hH (hF.tail.push (v := .inl (wr (-x))) (w_in _)))
    · cases h
  | iand =>
    simp only [sem] at h
    split at h
    · next y x S' =>
      cases h
      simp only [okLen, beq_iff_eq] at hl; subst hl
      exact lv_iand hx hb hd (by rw [← i_bit (Int32.ofInt x &&& Int32.ofInt y)]; exact kont H locs ls hM hH (hF.tail.tail.push (v := .inl (iAnd x y)) (i_inR _)))
    · cases h
  | ior =>
    simp only [sem] at h
    split at h
    · next y x S' =>
      cases h
      simp only [okLen, beq_iff_eq] at hl; subst hl
      exact lv_ior hx hb hd (by rw [← i_bit (Int32.ofInt x ||| Int32.ofInt y)]; exact kont H locs ls hM hH (hF.tail.tail.push (v := .inl (iOr x y)) (i_inR _)))
    · cases h
  | ixor =>
    simp only [sem] at h
    split at h
    · next y x S' =>
      cases h
      simp only [okLen, beq_iff_eq] at hl; subst hl
      exact lv_ixor hx hb hd (by rw [← i_bit (Int32.ofInt x ^^^ Int32.ofInt y)]; exact kont H locs ls hM hH (hF.tail.tail.push (v := .inl (iXor x y)) (i_inR _)))
    · cases h
  | ishl =>
    simp only [sem] at h
    split at h
    · next y x S' =>
      cases h
      simp only [okLen, beq_iff_eq] at hl; subst hl
      exact lv_ishl hx hb hd (by rw [← i_bit (Int32.ofInt x <<< (Int32.ofInt y &&& 31))]; exact kont H locs ls hM hH (hF.tail.tail.push (v := .inl (iShl x y)) (i_inR _)))
    · cases h
  | ishr =>
    simp only [sem] at h
    split at h
    · next y x S' =>
      cases h
      simp only [okLen, beq_iff_eq] at hl; subst hl
      exact lv_ishr hx hb hd (by rw [← i_bit (Int32.ofInt x >>> (Int32.ofInt y &&& 31))]; exact kont H locs ls hM hH (hF.tail.tail.push (v := .inl (iShr x y)) (i_inR _)))
    · cases h
  | iushr =>
    simp only [sem] at h
    split at h
    · next y x S' =>
      cases h
      simp only [okLen, beq_iff_eq] at hl; subst hl
      exact lv_iushr hx hb hd (i_bit _).symm (kont H locs ls hM hH (hF.tail.tail.push (v := .inl (iUshr x y)) (i_inR _)))
    · cases h
  | i2b =>
    simp only [sem] at h
    split at h
    · next x S' =>
      cases h
      simp only [okLen, beq_iff_eq] at hl; subst hl
      exact lv_i2b hx hb hd (i_b8 x) (kont H locs ls hM hH (hF.tail.push (v := .inl (b8 x)) (b8_in _)))
    · cases h
  | dup =>
    simp only [sem] at h
    split at h
    · next v S' =>
      cases h
      simp only [okLen, beq_iff_eq] at hl; subst hl
      exact lv_dup hx hb hd (cv_cat adr v) (kont H locs ls hM hH (hF.push hF.top))
    · cases h
  | dup2 =>
    simp only [sem] at h
    split at h
    · next v w S' =>
      cases h
      simp only [okLen, beq_iff_eq] at hl; subst hl
      exact lv_dup2_11 hx hb hd (cv_cat adr v) (cv_cat adr w) (kont H locs ls hM hH ((hF.push hF.tail.top).push hF.top))
    · cases h
  | pop =>
    simp only [sem] at h
    split at h
    · next v S' =>
      cases h
      simp only [okLen, beq_iff_eq] at hl; subst hl
      exact lv_pop hx hb hd (cv_cat adr v) (kont H locs ls hM hH hF.tail)
    · cases h
  | goto off =>
    simp only [sem] at h
    split at h
    · next ho =>
      cases h
      simp only [okLen, beq_iff_eq] at hl; subst hl
      exact lv_goto hx hb hd (by unfold tgt; omega) (kont H locs ls hM hH hF)
    · cases h
  | ifCond cd off =>
    cases cd with
    | eq =>
      simp only [sem] at h
      split at h
      · next x S' =>
        unfold aBr at h
        split at h
        · next ho =>
          cases h
          simp only [okLen, beq_iff_eq] at hl; subst hl
          have hq := i_eq hF.top inR_0
          refine lv_if_eq hx hb hd (tgt := tgt pc off) (by unfold tgt; omega) (fun q => ?_) (fun q => ?_)
          · rw [if_pos (hq.mp q)] at kont; exact kont H locs ls hM hH hF.tail
          · rw [if_neg (fun z => q (hq.mpr z))] at kont; exact kont H locs ls hM hH hF.tail
        · cases h
      · cases h
    | ne =>
      simp only [sem] at h
      split at h
      · next x S' =>
        unfold aBr at h
        split at h
        · next ho =>
          cases h
          simp only [okLen, beq_iff_eq] at hl; subst hl
          have hq := i_eq hF.top inR_0
          refine lv_if_ne hx hb hd (tgt := tgt pc off) (by unfold tgt; omega) (fun q => ?_) (fun q => ?_)
          · rw [if_pos (fun z => q (hq.mpr z))] at kont; exact kont H locs ls hM hH hF.tail
          · rw [if_neg (fun z => z (hq.mp q))] at kont; exact kont H locs ls hM hH hF.tail
        · cases h
      · cases h
    | lt =>
      simp only [sem] at h
      split at h
      · next x S' =>
        unfold aBr at h
        split at h
        · next ho =>
          cases h
          simp only [okLen, beq_iff_eq] at hl; subst hl
          have hq := i_lt hF.top inR_0
          refine lv_if_lt hx hb hd (tgt := tgt pc off) (by unfold tgt; omega) (fun q => ?_) (fun q => ?_)
          · rw [if_pos (hq.mp q)] at kont; exact kont H locs ls hM hH hF.tail
          · rw [if_neg (fun z => q (hq.mpr z))] at kont; exact kont H locs ls hM hH hF.tail
        · cases h
      · cases h
    | ge =>
      simp only [sem] at h
      split at h
      · next x S' =>
        unfold aBr at h
        split at h
        · next ho =>
          cases h
          simp only [okLen, beq_iff_eq] at hl; subst hl
          have hq := i_le inR_0 hF.top
          refine lv_if_ge hx hb hd (tgt := tgt pc off) (by unfold tgt; omega) (fun q => ?_) (fun q => ?_)
          · rw [if_pos (hq.mp q)] at kont; exact kont H locs ls hM hH hF.tail
          · rw [if_neg (fun z => q (hq.mpr z))] at kont; exact kont H locs ls hM hH hF.tail
        · cases h
      · cases h
    | gt =>
      simp only [sem] at h
      split at h
      · next x S' =>
        unfold aBr at h
        split at h
        · next ho =>
          cases h
          simp only [okLen, beq_iff_eq] at hl; subst hl
          have hq := i_lt inR_0 hF.top
          refine lv_if_gt hx hb hd (tgt := tgt pc off) (by unfold tgt; omega) (fun q => ?_) (fun q => ?_)
          · rw [if_pos (hq.mp q)] at kont; exact kont H locs ls hM hH hF.tail
          · rw [if_neg (fun z => q (hq.mpr z))] at kont; exact kont H locs ls hM hH hF.tail
        · cases h
      · cases h
    | le =>
      simp only [sem] at h
      split at h
      · next x S' =>
        unfold aBr at h
        split at h
        · next ho =>
          cases h
          simp only [okLen, beq_iff_eq] at hl; subst hl
          have hq := i_le hF.top inR_0
          refine lv_if_le hx hb hd (tgt := tgt pc off) (by unfold tgt; omega) (fun q => ?_) (fun q => ?_)
          · rw [if_pos (hq.mp q)] at kont; exact kont H locs ls hM hH hF.tail
          · rw [if_neg (fun z => q (hq.mpr z))] at kont; exact kont H locs ls hM hH hF.tail
        · cases h
      · cases h
  | if_icmp cd off =>
    cases cd with
    | eq =>
      simp only [sem] at h
      split at h
      · next y x S' =>
        unfold aBr at h
        split at h
        · next ho =>
          cases h
          simp only [okLen, beq_iff_eq] at hl; subst hl
          have hq := i_eq hF.tail.top hF.top
          refine lv_icmp_eq hx hb hd (tgt := tgt pc off) (by unfold tgt; omega) (fun q => ?_) (fun q => ?_)
          · rw [if_pos (hq.mp q)] at kont; exact kont H locs ls hM hH hF.tail.tail
          · rw [if_neg (fun z => q (hq.mpr z))] at kont; exact kont H locs ls hM hH hF.tail.tail
        · cases h
      · cases h
    | ne =>
      simp only [sem] at h
      split at h
      · next y x S' =>
        unfold aBr at h
        split at h
        · next ho =>
          cases h
          simp only [okLen, beq_iff_eq] at hl; subst hl
          have hq := i_eq hF.tail.top hF.top
          refine lv_icmp_ne hx hb hd (tgt := tgt pc off) (by unfold tgt; omega) (fun q => ?_) (fun q => ?_)
          · rw [if_pos (fun z => q (hq.mpr z))] at kont; exact kont H locs ls hM hH hF.tail.tail
          · rw [if_neg (fun z => z (hq.mp q))] at kont; exact kont H locs ls hM hH hF.tail.tail
        · cases h
      · cases h
    | lt =>
      simp only [sem] at h
      split at h
      · next y x S' =>
        unfold aBr at h
        split at h
        · next ho =>
          cases h
          simp only [okLen, beq_iff_eq] at hl; subst hl
          have hq := i_lt hF.tail.top hF.top
          refine lv_icmp_lt hx hb hd (tgt := tgt pc off) (by unfold tgt; omega) (fun q => ?_) (fun q => ?_)
          · rw [if_pos (hq.mp q)] at kont; exact kont H locs ls hM hH hF.tail.tail
          · rw [if_neg (fun z => q (hq.mpr z))] at kont; exact kont H locs ls hM hH hF.tail.tail
        · cases h
      · cases h
    | ge =>
      simp only [sem] at h
      split at h
      · next y x S' =>
        unfold aBr at h
        split at h
        · next ho =>
          cases h
          simp only [okLen, beq_iff_eq] at hl; subst hl
          have hq := i_le hF.top hF.tail.top
          refine lv_icmp_ge hx hb hd (tgt := tgt pc off) (by unfold tgt; omega) (fun q => ?_) (fun q => ?_)
          · rw [if_pos (hq.mp q)] at kont; exact kont H locs ls hM hH hF.tail.tail
          · rw [if_neg (fun z => q (hq.mpr z))] at kont; exact kont H locs ls hM hH hF.tail.tail
        · cases h
      · cases h
    | gt =>
      simp only [sem] at h
      split at h
      · next y x S' =>
        unfold aBr at h
        split at h
        · next ho =>
          cases h
          simp only [okLen, beq_iff_eq] at hl; subst hl
          have hq := i_lt hF.top hF.tail.top
          refine lv_icmp_gt hx hb hd (tgt := tgt pc off) (by unfold tgt; omega) (fun q => ?_) (fun q => ?_)
          · rw [if_pos (hq.mp q)] at kont; exact kont H locs ls hM hH hF.tail.tail
          · rw [if_neg (fun z => q (hq.mpr z))] at kont; exact kont H locs ls hM hH hF.tail.tail
        · cases h
      · cases h
    | le =>
      simp only [sem] at h
      split at h
      · next y x S' =>
        unfold aBr at h
        split at h
        · next ho =>
          cases h
          simp only [okLen, beq_iff_eq] at hl; subst hl
          have hq := i_le hF.tail.top hF.top
          refine lv_icmp_le hx hb hd (tgt := tgt pc off) (by unfold tgt; omega) (fun q => ?_) (fun q => ?_)
          · rw [if_pos (hq.mp q)] at kont; exact kont H locs ls hM hH hF.tail.tail
          · rw [if_neg (fun z => q (hq.mpr z))] at kont; exact kont H locs ls hM hH hF.tail.tail
        · cases h
      · cases h
  | tableswitch d lo hi offs =>
    simp only [sem] at h
    split at h
    · next x S' =>
      have e := i_toI hF.top
      split at h
      · next ho =>
        split at h
        · next hz =>
          cases h
          exact lv_tableOut hx hb hd (by rw [e]; exact ho) (by unfold tgt; omega) (kont H locs ls hM hH hF.tail)
        · cases h
      · next ho =>
        split at h
        · next off hoff =>
          split at h
          · next hz =>
            cases h
            exact lv_tableIn hx hb hd (by rw [e]; omega) (by rw [e]; omega) (by rw [e]; exact hoff) (by unfold tgt; omega) (kont H locs ls hM hH hF.tail)
          · cases h
        · cases h
    · cases h
  | lookupswitch d ps =>
    simp only [sem] at h
    split at h
    · next x S' =>
      have e := i_toI hF.top
      split at h
      · next ho =>
        cases h
        exact lv_lookup hx hb hd ho.1 (by rw [e]) (by have := ho.2; unfold tgt; omega) (kont H locs ls hM hH hF.tail)
      · cases h
    · cases h
  | getfield k =>
    simp only [sem] at h
    split at h
    · next q S' =>
      split at h
      · next c0 refs hq =>
        split at h
        · next hc =>
          subst hc
          obtain ⟨q', rfl⟩ := lay_pos hq (by intro n e; cases e)
          obtain ⟨z, hz, hzn⟩ := lay_obj _ _ _ hq
          obtain ⟨C, T, N⟩ := z
          obtain ⟨cw, cty, cnm, caC⟩ := cl_ok _ _ hz
          dsimp only at cw cty cnm caC hzn
          subst hzn
          simp only [okLen, beq_iff_eq] at hl; subst hl
          obtain ⟨nb, zz, hpk⟩ := hp k rfl
          have hws := ws_get (adr := adr) (cA := cA) (M := M) hq
          have go : ∀ (o : Option Nat), refs[P.2.1]? = some o → P.2.2.1 ≤ 2 → W p l e R s m args below meth c H locs cells slots Q (F0 m (pc + 3) ls (rfV adr (M (q' + 1) P.2.1) o :: S'.map (cv adr))) → W p l e R s m args below meth c H locs cells slots Q (F0 m pc ls (.ref (adr (q' + 1)) :: S'.map (cv adr))) := by
            intro o ho hk2 kk
            have hk3 : P.2.2.1 = 0 ∨ P.2.2.1 = 1 ∨ P.2.2.1 = 2 := by omega
            have hlt : P.2.1 < refs.length := (List.getElem?_eq_some_iff.mp ho).1
            have hch : (if nb = true then chkN zz (.fieldLinkNest O k C (T P.2.1).2.1 (T P.2.1).2.2.1 hostN) else chkW zz (.fieldLink O k C (T P.2.1).2.1 (T P.2.1).2.2.1)) = true ∧ (T P.2.1).1 = C := by
              rcases hk3 with h3 | h3 | h3 <;> (simp only [chkP, hO, h3, hz, Bool.and_eq_true, beq_iff_eq] at hpk; exact ⟨hpk.1.1.2, hpk.1.2⟩)
            obtain ⟨h5, h6⟩ := hch
            cases nb with
            | true =>
              simp only [if_true] at h5
              exact va_getN hx hb hts cw hown hK hH.1 q' hws hz P.2.1 hlt (va_Nw.use rfl (hN _ (chkN_in h5))) (fun x hx => by rw [h6] at hx; exact hx) (fld_at ho) hd kk
            | false =>
              simp only [Bool.false_eq_true, if_false] at h5
              exact va_get hx hb hts cw hown hK hH.1 q' hws hz P.2.1 hlt (hts _ (chkW_in h5)) (fun x hx => by rw [h6] at hx; exact hx) (fld_at ho) hd kk
          split at h
          · next q2 ho =>
            split at h
            · next hk2 =>
              cases h
              exact go _ ho (by omega) (kont H locs ls hM hH (hF.tail.push (v := .inr (some q2)) trivial))
            · cases h
          · next ho =>
            split at h
            · next hk2 =>
              cases h
              exact go _ ho (by omega) (kont H locs ls hM hH (hF.tail.push (v := .inl (M (q' + 1) P.2.1)) (hM.1 _ _)))
            · cases h
          · cases h
        · cases h
      · cases h
    · cases h
  | putfield k =>
    simp only [sem] at h
    split at h
    · next x q S' =>
      split at h
      · next c0 refs hq =>
        split at h
        · next hc =>
          obtain ⟨hc, ho, hk2⟩ := hc
          subst hc
          cases h
          obtain ⟨q', rfl⟩ := lay_pos hq (by intro n e; cases e)
          obtain ⟨z, hz, hzn⟩ := lay_obj _ _ _ hq
          obtain ⟨C, T, N⟩ := z
          obtain ⟨cw, cty, cnm, caC⟩ := cl_ok _ _ hz
          dsimp only at cw cty cnm caC hzn
          subst hzn
          simp only [okLen, beq_iff_eq] at hl; subst hl
          obtain ⟨nb, zz, hpk⟩ := hp k rfl
          have hws := ws_get (adr := adr) (cA := cA) (M := M) hq
          have hlt : P.2.1 < refs.length := (List.getElem?_eq_some_iff.mp ho).1
          have hch : (if nb = true then chkN zz (.fieldLinkNest O k C (T P.2.1).2.1 (T P.2.1).2.2.1 hostN) else chkW zz (.fieldLink O k C (T P.2.1).2.1 (T P.2.1).2.2.1)) = true ∧ (T P.2.1).1 = C ∧ (T P.2.1).2.2.2 = false ∧ narrow (clTy P.1 P.2.1) (.int (Int32.ofInt x)) = .int (Int32.ofInt x) ∧ fits (clTy P.1 P.2.1) (.int (Int32.ofInt x)) = true := by
            rcases hk2 with h3 | ⟨h3, hx01⟩
            · simp only [chkP, hO, h3, hz, Bool.and_eq_true, beq_iff_eq, if_true, Bool.not_eq_true'] at hpk
              exact ⟨hpk.1.1.2, hpk.1.2, hpk.2.2, by rw [hpk.2.1]; rfl, by rw [hpk.2.1]; rfl⟩
            · simp only [chkP, hO, h3, hz, Bool.and_eq_true, beq_iff_eq, if_true, Nat.one_ne_zero, if_false, Bool.not_eq_true'] at hpk
              refine ⟨hpk.1.1.2, hpk.1.2, hpk.2.2, ?_, ?_⟩ <;> rw [hpk.2.1] <;> rcases hx01 with rfl | rfl <;> decide
          obtain ⟨h5, h6, h7, h8, h9⟩ := hch
          have e0 : (wsOf adr cA M).set q' (adr (q' + 1), .inr (P.1, ((List.range refs.length).map (fldOf adr refs (M (q' + 1)))).set P.2.1 (.int (Int32.ofInt x)))) = wsOf adr cA (upM M (q' + 1) P.2.1 x) := by
            rw [← cell_put (cA := cA) ho]
            have := ws_set (adr := adr) (cA := cA) (M := M) (M' := upM M (q' + 1) P.2.1 x) hq (fun a ha => up_ne ha)
            rw [up_eq] at this
            exact this
          have e1 : (wsOf adr cA M).set q' (adr (q' + 1), .inr (P.1, ((List.range refs.length).map (fldOf adr refs (M (q' + 1)))).set P.2.1 (cv adr (.inl x)))) = wsOf adr cA (upM M (q' + 1) P.2.1 x) := e0
          cases nb with
          | true =>
            simp only [if_true] at h5
            refine va_putN hx hb hts cw (clTy P.1) cty cnm hown hK hH.1 hH.2.1 hH.2.2 q' hws hz P.2.1 hlt (va_Nw.use rfl (hN _ (chkN_in h5))) (fun x hx => by rw [h6] at hx; exact hx) h7 (cty _ hlt) h8 h9 (by simpa using hlt) hd (fun H1 locs1 a1 a2 a3 => ?_)
            rw [e1] at a1 a2
            exact kont H1 locs1 ls (up_M hM hF.top) ⟨a1, a2, a3⟩ hF.tail.tail
          | false =>
            simp only [Bool.false_eq_true, if_false] at h5
            refine va_put hx hb hts cw (clTy P.1) cty cnm hown hK hH.1 hH.2.1 hH.2.2 q' hws hz P.2.1 hlt (hts _ (chkW_in h5)) (fun x hx => by rw [h6] at hx; exact hx) h7 (cty _ hlt) h8 h9 (by simpa using hlt) hd (fun H1 locs1 a1 a2 a3 => ?_)
            rw [e1] at a1 a2
            exact kont H1 locs1 ls (up_M hM hF.top) ⟨a1, a2, a3⟩ hF.tail.tail
        · cases h
      · cases h
    · cases h
  | iaload =>
    simp only [sem] at h
    split at h
    · next j q S' =>
      have hj : inR j := hF.top
      split at h
      · next t n0 hq =>
        simp only [okLen, beq_iff_eq] at hl; subst hl
        split at h
        · next ht =>
          subst ht
          split at h
          · next hr =>
            cases h
            obtain ⟨q', rfl⟩ := lay_pos hq (by intro n e; cases e)
            have hws := ws_get (adr := adr) (cA := cA) (M := M) hq
            refine va_iald hx hb hK hH.1 q' 0 hws rfl (i_vp hj hr.1 hr.2) hd ?_
            rw [i_cl hj]
            exact kont H locs ls hM hH (hF.tail.tail.push (v := .inl (M (q' + 1) j.toNat)) (hM.1 _ _))
          · cases h
        · split at h
          · next ht =>
            obtain ⟨rfl, rfl⟩ := ht
            split at h
            · next hr =>
              cases h
              rw [hM.2.1] at hr
              refine va_sld hx hb X.1 X.2.1 X.2.2.1 hH.2.2 (i_vp hj hr.1 hr.2) hd ?_
              rw [i_cl hj, ← i_bit (xs j.toNat), ← hM.2.2.2 j.toNat (by omega)]
              exact kont H locs ls hM hH (hF.tail.tail.push (v := .inl (M 0 j.toNat)) (hM.1 _ _))
            · cases h
          · cases h
      · cases h
    · cases h
  | baload =>
    simp only [sem] at h
    split at h
    · next j q S' =>
      have hj : inR j := hF.top
      split at h
      · next t n0 hq =>
        simp only [okLen, beq_iff_eq] at hl; subst hl
        split at h
        · next ht =>
          subst ht
          split at h
          · next hr =>
            cases h
            obtain ⟨q', rfl⟩ := lay_pos hq (by intro n e; cases e)
            have hws := ws_get (adr := adr) (cA := cA) (M := M) hq
            refine va_bald hx hb hK hH.1 q' 1 hws rfl (i_vp hj hr.1 hr.2) hd ?_
            rw [i_cl hj]
            exact kont H locs ls hM hH (hF.tail.tail.push (v := .inl (M (q' + 1) j.toNat)) (hM.1 _ _))
          · cases h
        · cases h
      · cases h
    · cases h
  | iastore =>
    simp only [sem] at h
    split at h
    · next x j q S' =>
      have hj : inR j := hF.tail.top
      split at h
      · next t n0 hq =>
        simp only [okLen, beq_iff_eq] at hl; subst hl
        split at h
        · next ht =>
          subst ht
          split at h
          · next hr =>
            cases h
            obtain ⟨q', rfl⟩ := lay_pos hq (by intro n e; cases e)
            have hws := ws_get (adr := adr) (cA := cA) (M := M) hq
            refine va_iast hx hb hK hH.1 hH.2.1 hH.2.2 q' 0 hws rfl (i_vp hj hr.1 hr.2) hd (fun H1 locs1 a1 a2 a3 => ?_)
            rw [i_cl hj] at a1 a2
            have e1 : (wsOf adr cA M).set q' (adr (q' + 1), .inl (cA 0, n0, .inl (upd (fun b => Int32.ofInt (M (q' + 1) b)) j.toNat (Int32.ofInt x)))) = wsOf adr cA (upM M (q' + 1) j.toNat x) := by
              rw [← cell_arr (adr := adr)]
              have := ws_set (adr := adr) (cA := cA) (M := M) (M' := upM M (q' + 1) j.toNat x) hq (fun a ha => up_ne ha)
              rw [up_eq] at this
              exact this
            rw [e1] at a1 a2
            exact kont H1 locs1 ls (up_M hM hF.top) ⟨a1, a2, a3⟩ hF.tail.tail.tail
          · cases h
        · cases h
      · cases h
    · cases h
  | bastore =>
    simp only [sem] at h
    split at h
    · next x j q S' =>
      have hj : inR j := hF.tail.top
      split at h
      · next t n0 hq =>
        simp only [okLen, beq_iff_eq] at hl; subst hl
        split at h
        · next ht =>
          subst ht
          split at h
          · next hr =>
            cases h
            obtain ⟨q', rfl⟩ := lay_pos hq (by intro n e; cases e)
            have hws := ws_get (adr := adr) (cA := cA) (M := M) hq
            refine va_bast hx hb hK hH.1 hH.2.1 hH.2.2 q' 1 hws rfl (i_vp hj hr.1 hr.2) hd (fun H1 locs1 a1 a2 a3 => ?_)
            rw [i_cl hj, vp_nar_byte, i_b8] at a1 a2
            have e1 : (wsOf adr cA M).set q' (adr (q' + 1), .inl (cA 1, n0, .inl (upd (fun b => Int32.ofInt (M (q' + 1) b)) j.toNat (Int32.ofInt (b8 x))))) = wsOf adr cA (upM M (q' + 1) j.toNat (b8 x)) := by
              rw [← cell_arr (adr := adr)]
              have := ws_set (adr := adr) (cA := cA) (M := M) (M' := upM M (q' + 1) j.toNat (b8 x)) hq (fun a ha => up_ne ha)
              rw [up_eq] at this
              exact this
            rw [e1] at a1 a2
            exact kont H1 locs1 ls (up_M hM (b8_in x)) ⟨a1, a2, a3⟩ hF.tail.tail.tail
          · cases h
        · cases h
      · cases h
    · cases h
  | arraylength =>
    simp only [sem] at h
    split at h
    · next S' =>
      cases h
      simp only [okLen, beq_iff_eq] at hl; subst hl
      refine va_slen hx hb X.1 X.2.1 X.2.2.1 hH.2.2 hd ?_
      have e1 : (Int32.ofNat L) = Int32.ofInt (M 0 4000) := by rw [hM.2.1, Int32.ofInt_eq_ofNat]
      rw [e1]
      exact kont H locs ls hM hH (hF.tail.push (v := .inl (M 0 4000)) (hM.1 _ _))
    · cases h
  | invokestatic k =>
    simp only [sem] at h
    simp only [okLen, beq_iff_eq] at hl; subst hl
    obtain ⟨nb, zz, hpk⟩ := hp k rfl
    have hsz : c.maxLocals = ls.size := by rw [hml]; exact hF.1.1.symm
    split at h
    · next hk =>
      simp only [chkP, hO, hk] at hpk
      split at h
      · next n2 dp q1 sp q0 S' =>
        split at h
        · next n0 n1 hq0 hq1 =>
          split at h
          · next hr =>
            cases h
            obtain ⟨⟨r1, r2, r3, r4, r5⟩, r6⟩ := hr
            have i1 : inR n2 := hF.top
            have i2 : inR dp := hF.tail.top
            have i3 : inR sp := hF.tail.tail.tail.top
            obtain ⟨a0, rfl⟩ := lay_pos hq0 (by intro n e; cases e)
            obtain ⟨a1, rfl⟩ := lay_pos hq1 (by intro n e; cases e)
            have hw0 := ws_get (adr := adr) (cA := cA) (M := M) hq0
            have hw1 := ws_get (adr := adr) (cA := cA) (M := M) hq1
            refine va_copyi hx hb hsz hown (hts _ (chkW_in hpk)) (hts _ acp_words.1) (hts _ acp_words.2.1) (hts _ acp_words.2.2) hK hH.1 hH.2.1 hH.2.2 a0 a1 0 0 hw0 hw1 rfl rfl rfl
              (fun q => absurd ((i_lt i3 inR_0).mp q) (by omega)) (fun q => absurd ((i_lt i2 inR_0).mp q) (by omega)) (fun q => absurd ((i_lt i1 inR_0).mp q) (by omega)) (by rw [i_cl i3, i_cl i1]; omega) (by rw [i_cl i2, i_cl i1]; omega) (fun _ _ => rfl) (by omega)
              (by rw [cv_sum]; have : nativeFrameWords "java/lang/System" "arraycopy" 5 ≤ 41 := by decide +kernel
                  omega) hd (fun H1 locs1 b1 b2 b3 => ?_)
            rw [i_cl i1, i_cl i2, i_cl i3] at b1 b2
            have e1 : (wsOf adr cA M).set a1 (adr (a1 + 1), .inl (cA 0, n1, .inl (va_cpy (fun j => Int32.ofInt (M (a0 + 1) j)) (fun j => Int32.ofInt (M (a1 + 1) j)) sp.toNat dp.toNat n2.toNat))) = wsOf adr cA (cpM M (a0 + 1) (a1 + 1) sp.toNat dp.toNat n2.toNat) := by
              have := ws_set (adr := adr) (cA := cA) (M := M) (M' := cpM M (a0 + 1) (a1 + 1) sp.toNat dp.toNat n2.toNat) hq1 (fun a ha => by unfold cpM; rw [if_neg ha])
              rw [← this]
              congr 2
              unfold cellOf cpM
              rw [if_pos rfl]
              dsimp only
              congr 4
              funext b
              unfold va_cpy
              by_cases hb : dp.toNat ≤ b ∧ b < dp.toNat + n2.toNat
              · rw [if_pos hb, if_pos hb]
              · rw [if_neg hb, if_neg hb]
            rw [e1] at b1 b2
            refine kont H1 locs1 ls ⟨fun a b => ?_, ?_, hM.2.2.1, fun i hi => ?_⟩ ⟨b1, b2, b3⟩ hF.tail.tail.tail.tail.tail
            · unfold cpM
              split
              · dsimp only
                split <;> exact hM.1 _ _
              · exact hM.1 _ _
            · unfold cpM; rw [if_neg (by omega)]; exact hM.2.1
            · unfold cpM; rw [if_neg (by omega)]; exact hM.2.2.2 i hi
          · cases h
        · cases h
      · cases h
    · split at h
      · next hk =>
        simp only [chkP, hO, hk] at hpk
        split at h
        · next y x S' =>
          split at h
          · next hr =>
            cases h
            refine va_mmax hx hb hsz hown (hts _ (chkW_in hpk)) (hts _ math_words.1.1) (hts _ math_words.1.2.2) (hts _ math_words.2.1) (by omega) (by rw [cv_sum]; omega) hR.2.2.1 hR.2.2.2 hd ?_
            have e1 : (if Int32.ofInt x < Int32.ofInt y then Int32.ofInt y else Int32.ofInt x) = Int32.ofInt (max x y) := by
              by_cases hc : x < y
              · rw [if_pos ((i_lt hF.tail.top hF.top).mpr hc), Int.max_eq_right (by omega)]
              · rw [if_neg (fun q => hc ((i_lt hF.tail.top hF.top).mp q)), Int.max_eq_left (by omega)]
            have e2 : (if Int32.ofInt x < Int32.ofInt y then (Value.int (Int32.ofInt y)) else (Value.int (Int32.ofInt x))) = Value.int (Int32.ofInt (max x y)) := by rw [← e1]; split <;> rfl
            have hm : inR (max x y) := by
              have h1 : inR x := hF.tail.top
              have h2 : inR y := hF.top
              rcases Int.le_total x y with q | q
              · rw [Int.max_eq_right q]; exact h2
              · rw [Int.max_eq_left q]; exact h1
            rw [e1]
            exact kont H locs ls hM hH (hF.tail.tail.push (v := .inl (max x y)) hm)
          · cases h
        · cases h
      · split at h
        · next hk =>
          simp only [chkP, hO, hk] at hpk
          split at h
          · next y x S' =>
            split at h
            · next hr =>
              cases h
              refine va_mmin hx hb hsz hown (hts _ (chkW_in hpk)) (hts _ math_words.1.2.1) (hts _ math_words.1.2.2) (hts _ math_words.2.2) (by omega) (by rw [cv_sum]; omega) hR.2.2.1 hR.2.2.2 hd ?_
              have e1 : (if Int32.ofInt y < Int32.ofInt x then Int32.ofInt y else Int32.ofInt x) = Int32.ofInt (min x y) := by
                by_cases hc : y < x
                · rw [if_pos ((i_lt hF.top hF.tail.top).mpr hc), Int.min_eq_right (by omega)]
                · rw [if_neg (fun q => hc ((i_lt hF.top hF.tail.top).mp q)), Int.min_eq_left (by omega)]
              have hm : inR (min x y) := by
                have h1 : inR x := hF.tail.top
                have h2 : inR y := hF.top
                rcases Int.le_total x y with q | q
                · rw [Int.min_eq_left q]; exact h1
                · rw [Int.min_eq_right q]; exact h2
              rw [e1]
              exact kont H locs ls hM hH (hF.tail.tail.push (v := .inl (min x y)) hm)
            · cases h
          · cases h
        · split at h <;> cases h
  | invokevirtual k =>
    simp only [sem] at h
    repeat' split at h
    all_goals cases h
  | ireturn =>
    simp only [sem] at h
    repeat' split at h
    all_goals cases h
  | return_ =>
    simp only [sem] at h
    repeat' split at h
    all_goals cases h
  | _ => simp only [sem] at h; cases h
end
section
/-! What the small machine answers the machine answers. -/
theorem mRt_ok : ∀ (c : Nat) (z : ByteArray × MethodName × Nat × Nat × Nat × Option FieldType × Bool), mTab[c]? = some z → z.2.2.2.2.2.1 = none ∨ z.2.2.2.2.2.1 = some .int ∨ z.2.2.2.2.2.1 = some .boolean := by
  intro c z h
  have hall : mTab.all (fun z => z.2.2.2.2.2.1 == none || (z.2.2.2.2.2.1 == some .int || z.2.2.2.2.2.1 == some .boolean)) = true := by decide +kernel
  have h1 := List.all_eq_true.mp hall _ (List.mem_of_getElem? h)
  simpa using h1
set_option maxHeartbeats 4000000 in
theorem sem_call {own : Nat → Nat} {bz : Bool} {pc : Nat} {i : Instr} {P : aP} {Lo St : List aV} {M : aM} {d pc' : Nat} {a S' : List aV} (h : sem own bz pc i P Lo St M = .inr (.inl (d, a, pc', S'))) :
    (d = P.1 ∧ a = (St.take P.2.1).reverse ∧ pc' = pc + 3 ∧ S' = St.drop P.2.1 ∧ P.2.1 ≤ St.length ∧ St.length ≤ P.2.1 + 8) ∧
    ((∃ k, i = .invokestatic k ∧ P.2.2.1 = 10) ∨ ∃ k q rest c refs, i = .invokevirtual k ∧ P.2.2.1 = 11 ∧ a = .inr (some q) :: rest ∧ lay0[q]? = some (.inl (c, refs)) ∧ c = own P.1) := by
  cases i with
  | invokestatic k =>
    simp only [sem] at h
    split at h
    · repeat' split at h
      all_goals cases h
    · split at h
      · repeat' split at h
        all_goals cases h
      · split at h
        · repeat' split at h
          all_goals cases h
        · split at h
          · next hk =>
            cases h
            exact ⟨⟨rfl, rfl, rfl, rfl, hk.2.1, hk.2.2⟩, Or.inl ⟨k, rfl, hk.1⟩⟩
          · cases h
  | invokevirtual k =>
    simp only [sem] at h
    split at h
    · next hk =>
      split at h
      · next q rest hr =>
        split at h
        · next c refs hq =>
          split at h
          · next hc =>
            cases h
            exact ⟨⟨rfl, rfl, rfl, rfl, hk.2.1, hk.2.2⟩, Or.inr ⟨k, q, rest, c, refs, rfl, hk.1, hr, hq, hc⟩⟩
          · cases h
        · cases h
      · cases h
    · cases h
  | ifCond cd off =>
    cases cd <;> simp only [sem, aBr] at h <;> (repeat' split at h) <;> cases h
  | if_icmp cd off =>
    cases cd <;> simp only [sem, aBr] at h <;> (repeat' split at h) <;> cases h
  | _ =>
    simp only [sem] at h
    repeat' split at h
    all_goals cases h
set_option maxHeartbeats 4000000 in
theorem sem_ret {own : Nat → Nat} {bz : Bool} {pc : Nat} {i : Instr} {P : aP} {Lo St : List aV} {M : aM} {v : Option aV} (h : sem own bz pc i P Lo St M = .inr (.inr v)) :
    (i = .ireturn ∧ ∃ x, St = [.inl x] ∧ v = some (.inl x) ∧ (bz = true → x = 0 ∨ x = 1)) ∨ (i = .return_ ∧ St = [] ∧ v = none) := by
  cases i with
  | ireturn =>
    simp only [sem] at h
    split at h
    · next x =>
      split at h
      · next hb =>
        cases h
        exact Or.inl ⟨rfl, x, rfl, rfl, hb⟩
      · cases h
    · cases h
  | return_ =>
    simp only [sem] at h
    split at h
    · cases h
      exact Or.inr ⟨rfl, rfl, rfl⟩
    · cases h
  | ifCond cd off =>
    cases cd <;> simp only [sem, aBr] at h <;> (repeat' split at h) <;> cases h
  | if_icmp cd off =>
    cases cd <;> simp only [sem, aBr] at h <;> (repeat' split at h) <;> cases h
  | _ =>
    simp only [sem] at h
    repeat' split at h
    all_goals cases h
def retI : Option aV → Instr
  | none => .return_
  | some _ => .ireturn
def retOK (cm : Nat) : Option aV → Prop
  | none => True
  | some (.inl x) => inR x ∧ (mBz cm = true → x = 0 ∨ x = 1)
  | some (.inr _) => False
def soW (n : Nat) : Prop := ∀ (p : Program) (l : Launch) (e : Env) (R : Room) (s : State) (m : MethodId) (args : Array Value) (below : List Frame) (meth : Method) (c : Code) (Q : State → Prop) (cells slots : Nat) (D : va_G) (cA : Nat → ClassId) (adr : Nat → Nat) (A : Nat → Prop) (L : Nat) (xs : Nat → Int32) (r cm : Nat)
    (z : ByteArray × MethodName × Nat × Nat × Nat × Option FieldType × Bool) (O : String) (v : Option aV) (M' : aM),
  mTab[cm]? = some z → aCls[z.2.2.1]? = some O → soK p s m args c O z.1 z.2.2.2.1 D cA → soX s A adr L xs → (r + 2 ≤ R.frames ∧ 60 * (r + 1) ≤ R.locals ∧ cells ≤ R.cells ∧ slots ≤ R.slots) →
  (∀ (pcR : Nat) (lsR : Array Slot) (H' : Heap) (locs' : List Loc), decode z.1 pcR = .ok (retI v, 1) → retOK cm v → soM M' L xs → soH D cA adr A s M' H' locs' → W p l e R s m args below meth c H' locs' cells slots Q (F0 m pcR lsR (v.toList.map (cv adr)))) →
  ∀ (pc : Nat) (Lo St : List aV) (M : aM) (H : Heap) (locs : List Loc) (ls : Array Slot), ex n r cm pc Lo St M = some (v, M') → soM M L xs → soH D cA adr A s M H locs → soF adr z.2.2.2.1 Lo St ls → W p l e R s m args below meth c H locs cells slots Q (F0 m pc ls (St.map (cv adr)))
def soRm (r : Nat) : Room := { frames := r + 2, cells := 0, slots := 0, locals := 60 * (r + 1) }
def soB (D : va_G) (cA : Nat → ClassId) (adr : Nat → Nat) (M' : aM) (A : Nat → Prop) (t : State) : Prop := va_P D vwCl (wsOf adr cA M') t.heap ∧ va_K D vwCl (tysO cA) t ∧ va_D A (wsOf adr cA M')
def soPc (D : va_G) (cA : Nat → ClassId) (adr : Nat → Nat) (L : Nat) (xs : Nat → Int32) (M : aM) (a : List aV) (sz : Nat) : Array Value → State → Prop := va_Pc (a.map (cv adr)) (fun U => U.heap.size = sz ∧ va_P D vwCl (wsOf adr cA M) U.heap ∧ va_K D vwCl (tysO cA) U ∧ va_D (fun _ => True) (wsOf adr cA M) ∧ nOK U ∧ va_X (adr 0) L xs U U.heap ∧ adr 0 < sz ∧ ∀ (k : Nat) (q : Nat × va_E), (wsOf adr cA M)[k]? = some q → q.1 ≠ adr 0)
def soQ (D : va_G) (cA : Nat → ClassId) (adr : Nat → Nat) (L : Nat) (xs : Nat → Int32) (M' : aM) (A : Nat → Prop) : Option aV → Array Value → State → Outcome → State → Prop
  | none => va_Qv (fun _ : Unit => soM M' L xs) (fun _ t => soB D cA adr M' A t) A
  | some w => va_Qi (fun x (_ : Unit) => Value.int x = cv adr w ∧ okS w ∧ soM M' L xs) (fun _ t => soB D cA adr M' A t) A
theorem soPc_blind {D : va_G} {cA : Nat → ClassId} {adr : Nat → Nat} {L : Nat} {xs : Nat → Int32} {M : aM} {a : List aV} {sz : Nat} : FrameBlind (soPc D cA adr L xs M a sz) := by
  intro b U g mk q
  obtain ⟨q0, q1, q2, q3, q4, q5, q6, q7, q8⟩ := q
  exact ⟨q0, q1, q2, va_K.moved (u := U) (U := U.calling g mk b) (Vm.Alike.refl U.vm) q3, q4, nOK.same (s := U) (U := U.calling g mk b) rfl q5, va_X.moved (u := U) (U := U.calling g mk b) (Vm.Alike.refl U.vm) q6, q7, q8⟩
theorem args_in : ∀ (vs : List Value) (k : Nat), (∀ v ∈ vs, v.category = 1) → ∀ (i : Nat) (w : Value), vs[i]? = some w → (k + i, w) ∈ lv_args k vs := by
  intro vs
  induction vs with
  | nil => intro k _ i w h; simp at h
  | cons v vs ih =>
    intro k hc i w h
    have hv : v.category = 1 := hc v List.mem_cons_self
    simp only [lv_args, hv, show ¬ (1 = 2) by decide, if_false]
    cases i with
    | zero => simp at h; subst h; exact List.mem_cons_self
    | succ i =>
      rw [List.getElem?_cons_succ] at h
      have := ih (k + 1) (fun u hu => hc u (List.mem_cons_of_mem _ hu)) i w h
      rw [show k + (i + 1) = k + 1 + i by omega]
      exact List.mem_cons_of_mem _ this
theorem sl_len : ∀ (vs : List Value), (∀ v ∈ vs, v.category = 1) → (lg_sl vs).length = vs.length := by
  intro vs
  induction vs with
  | nil => intro _; rfl
  | cons v vs ih =>
    intro hc
    have hv : v.category = 1 := hc v List.mem_cons_self
    have := ih (fun u hu => hc u (List.mem_cons_of_mem _ hu))
    simp only [lg_sl, List.flatMap_cons, List.length_append, List.length_cons] at this ⊢
    rw [this, if_neg (by rw [hv]; decide)]
    simp
    omega
set_option maxHeartbeats 4000000 in
theorem so_met {n : Nat} (hW : soW n) (l : Launch) {d : Nat} {a : List aV} {M M' : aM} {v : Option aV} {L sz : Nat} {xs : Nat → Int32} (D : va_G) (cA : Nat → ClassId) (adr : Nat → Nat)
    {b : ByteArray} {y : MethodName} {o ml na : Nat} {rt : Option FieldType} {st : Bool} (ht : mTab[d]? = some (b, y, o, ml, na, rt, st)) (hpl : plainName y.cls = true) (hO : aCls[o]? = some y.cls)
    (hex : ex n (rkF d a) d 0 (padF d a) [] M = some (v, M')) (hM : soM M L xs) (ha : a.length ≤ ml) (hS : ∀ v ∈ a, okS v) (hsh : mVd d = true ∧ v = none ∨ mVd d = false ∧ ∃ x, v = some (.inl x)) :
    Met l y (Jvm.Cond.code y b ml rt :: gT) (soRm (rkF d a)) (soPc D cA adr L xs M a sz) (soQ D cA adr L xs M' (va_A (wsOf adr cA M) sz) v) 0 0 (va_A (wsOf adr cA M) sz) := by
  refine Met.ofW (cc := b) (maxL := ml) (ret := rt) hpl rfl ?_
  intro p e s m args below meth c s₁ B hml hv
  obtain ⟨rfl, hsz, hP, hK, hD0, hN, hX, hb0, hne⟩ := hv
  have hx := B.exec
  have hb := B.bytes
  have hr := B.returns
  have hts := atoms_spec (ws := Jvm.Cond.code y b ml rt :: gT) B.pre
  have hown : s.vm.findClass y.cls = some m.cls := findClass_of_methodNamed B.named
  have hlocks := B.notSynchronized
  subst hsz
  have hD := hD0.self (sz := s.heap.size)
  have hcat : ∀ u ∈ a.map (cv adr), u.category = 1 := fun u hu => by
    obtain ⟨w, -, rfl⟩ := List.mem_map.mp hu
    exact cv_cat adr w
  have hslen : (lg_sl (a.map (cv adr))).length ≤ ml := by rw [sl_len _ hcat, List.length_map]; exact ha
  have hl := lv_entry (a.map (cv adr)) (n := ml) hslen
  rw [lg_entry_eq]
  generalize (lg_sl (a.map (cv adr)) ++ List.replicate (ml - (lg_sl (a.map (cv adr))).length) Slot.unset).toArray = ls at hl ⊢
  have hmx : mMx d = ml := by simp [mMx, ht]
  have hpad : (padF d a).length = ml := by simp [padF, hmx]; omega
  have hF : soF adr ml (padF d a) [] ls := by
    refine ⟨lvh_mono hl fun q hq => ?_, hpad, fun u hu => ?_, fun u hu => absurd hu List.not_mem_nil⟩
    · obtain ⟨i, w⟩ := q
      obtain ⟨u, h1, h2⟩ := lvl_of hq
      unfold padF at h1
      by_cases hi : i < a.length
      · rw [List.getElem?_append_left hi] at h1
        have h3 := args_in (a.map (cv adr)) 0 hcat i w (by
          rw [List.getElem?_map, h1]
          have := okS_cvo (adr := adr) (hS u (List.mem_of_getElem? h1))
          rw [h2] at this
          simpa using this.symm)
        simpa using h3
      · rw [List.getElem?_append_right (by omega)] at h1
        have := List.eq_of_mem_replicate (List.mem_of_getElem? h1)
        subst this
        cases h2
    · unfold padF at hu
      rcases List.mem_append.mp hu with h | h
      · exact okS_V (hS u h)
      · rw [List.eq_of_mem_replicate h]; trivial
  have hA0 : ¬ va_A (wsOf adr cA M) s.heap.size (adr 0) := by
    rintro (⟨k, e', hk⟩ | h)
    · exact hne k _ hk rfl
    · omega
  refine hW p l e (soRm (rkF d a)) s m _ below meth c _ 0 0 D cA adr (va_A (wsOf adr cA M) s.heap.size) L xs (rkF d a) d _ y.cls v M' ht hO ⟨hx, hb, hml, hown, fun w h => hts w (List.mem_cons_of_mem _ h), hN, hK⟩ ⟨hX, hb0, hA0, fun q h => Or.inr h⟩ ⟨Nat.le_refl _, Nat.le_refl _, Nat.le_refl _, Nat.le_refl _⟩ ?_ 0 (padF d a) [] M s.heap [] ls hex hM ⟨hP, hD, va_S.rf⟩ hF
  intro pcR lsR H' locs' hdec hok hM' hH'
  rcases hsh with ⟨hv, rfl⟩ | ⟨hv, x, rfl⟩
  · have hrt : rt = none := by simpa [mVd, ht] using hv
    subst hrt
    exact W.vret hx hb hr (fun t ht hW => ⟨⟨(), rfl, hM', by rw [ht]; exact hH'.1, va_K.moved hW.alike hK, hH'.2.1⟩, hH'.2.2.F ht⟩) hH'.2.2.2.2 hdec
  · have hrt : ∃ ty, rt = some ty ∧ narrow ty (.int (Int32.ofInt x)) = .int (Int32.ofInt x) := by
      rcases mRt_ok _ _ ht with h | h | h
      · dsimp only at h; subst h; simp [mVd, ht] at hv
      · dsimp only at h; subst h; exact ⟨.int, rfl, rfl⟩
      · dsimp only at h; subst h
        refine ⟨.boolean, rfl, ?_⟩
        have hbz : mBz d = true := by simp [mBz, ht]
        rcases hok.2 hbz with rfl | rfl <;> decide
    obtain ⟨ty, rfl, hn⟩ := hrt
    exact W.zret hx hb hr hn (fun t ht hW => ⟨⟨Int32.ofInt x, (), rfl, ⟨rfl, hok.1, hM'⟩, by rw [ht]; exact hH'.1, va_K.moved hW.alike hK, hH'.2.1⟩, hH'.2.2.F ht⟩) hH'.2.2.2.2 hdec
theorem mem_called {c : Nat} (h : mCalled.contains c = true) : mOK c := mok_all c (by simpa using h)
set_option maxHeartbeats 8000000 in
theorem so_all : ∀ n, soW n := by
  intro n
  induction n with
  | zero =>
    intro p l e R s m args below meth c Q cells slots D cA adr A L xs r cm z O v M' hz hO K X hR hret pc Lo St M H locs ls hex hM hH hF
    cases hex
  | succ n ih =>
    intro p l e R s m args below meth c Q cells slots D cA adr A L xs r cm z O v M' hz hO K X hR hret pc Lo St M H locs ls hex hM hH hF
    rw [ex] at hex
    cases hst : stp cm pc Lo St M with
    | inl o =>
      rw [hst] at hex
      cases o with
      | none => cases hex
      | some q =>
        obtain ⟨pc', L', S', M1⟩ := q
        dsimp only at hex
        unfold stp at hst
        split at hst
        · next i P hi =>
          obtain ⟨z', n', hz', hdec, hlen, hpool⟩ := rfI_ok hi
          cases hz.symm.trans hz'
          exact so_step K hO X ⟨by omega, by omega, hR.2.2.1, hR.2.2.2⟩ hdec hlen hpool hst hM hH hF (fun H' locs' ls' hM' hH' hF' => ih p l e R s m args below meth c Q cells slots D cA adr A L xs r cm z O v M' hz hO K X hR hret pc' L' S' M1 H' locs' ls' hex hM' hH' hF')
        · cases hst
    | inr o =>
      rw [hst] at hex
      cases o with
      | inr w =>
        dsimp only at hex
        cases hex
        unfold stp at hst
        split at hst
        · next i P hi =>
          obtain ⟨z', n', hz', hdec, hlen, hpool⟩ := rfI_ok hi
          cases hz.symm.trans hz'
          rcases sem_ret hst with ⟨rfl, x, rfl, rfl, hb⟩ | ⟨rfl, rfl, rfl⟩
          · simp only [okLen, beq_iff_eq] at hlen; subst hlen
            exact hret pc ls H locs hdec ⟨hF.top, hb⟩ hM hH
          · simp only [okLen, beq_iff_eq] at hlen; subst hlen
            exact hret pc ls H locs hdec trivial hM hH
        · cases hst
      | inl q =>
        obtain ⟨d, a, pc', S'⟩ := q
        dsimp only at hex
        split at hex
        · next hrk =>
          rw [Option.bind_eq_some_iff] at hex
          obtain ⟨⟨w, M1⟩, hq, hc⟩ := hex
          unfold stp at hst
          split at hst
          · next i P hi =>
            obtain ⟨z', n', hz', hdec, hlen, hpool⟩ := rfI_ok hi
            cases hz.symm.trans hz'
            obtain ⟨⟨rfl, rfl, rfl, rfl, hna, hnb⟩, hkind⟩ := sem_call hst
            have hK := K
            obtain ⟨hx, hb, hml, hown, hts, hN, hKK⟩ := hK
            have hSt : St = (St.take P.2.1).reverse.reverse ++ St.drop P.2.1 := by rw [List.reverse_reverse, List.take_append_drop]
            have halen : (St.take P.2.1).reverse.length = P.2.1 := by rw [List.length_reverse, List.length_take]; omega
            have haS : ∀ u ∈ (St.take P.2.1).reverse, okS u := fun u hu => hF.2.2.2 u (List.mem_of_mem_take (List.mem_reverse.mp hu))
            have hdS : ∀ u ∈ St.drop P.2.1, okS u := fun u hu => hF.2.2.2 u (List.mem_of_mem_drop hu)
            have hFd : soF adr z.2.2.2.1 Lo (St.drop P.2.1) ls := ⟨hF.1, hF.2.1, hF.2.2.1, hdS⟩
            have hroom : ((List.map (cv adr) (St.drop P.2.1)).map fun v => v.category).sum ≤ 8 := by rw [cv_sum, List.length_drop]; omega
            have hsh : mVd P.1 = true ∧ w = none ∨ mVd P.1 = false ∧ ∃ x, w = some (.inl x) := by
              unfold cnt at hc
              split at hc
              · next h1 h2 => exact Or.inl ⟨h1, h2⟩
              · next x h1 h2 => exact Or.inr ⟨h1, x, h2⟩
              · cases hc
            -- the cells of the one that is called are all of them
            have hPc : ∀ U : State, U.heap = H → s.WarmedH U.vm → soPc D cA adr L xs M (St.take P.2.1).reverse H.size ((St.take P.2.1).reverse.map (cv adr)).toArray U := by
              intro U hU hW
              refine ⟨rfl, by rw [hU], by rw [hU]; exact hH.1, va_K.moved hW.alike hKK, hH.2.1.weaken (fun _ _ _ _ => trivial), nOK.warm hW hN, ?_, Nat.lt_of_lt_of_le X.2.1 hH.2.2.1, ?_⟩
              · rw [hU]
                exact va_X.moved hW.alike (X.1.kept (hH.2.2.2.1 _ X.2.1 X.2.2.1))
              · intro k q hk e0
                exact X.2.2.1 (e0 ▸ hH.2.1.2 k q hk)
            have hfree : ∀ q, va_A (wsOf adr cA M) H.size q → A q := by
              rintro q (⟨k, e', hk⟩ | h)
              · exact hH.2.1.2 k _ hk
              · exact X.2.2.2 q (Nat.le_trans hH.2.2.1 h)
            -- behind the call
            have hgo : ∀ (u : List aV) (t : State) (H1 : Heap) (locs1 : List Loc), cnt (mVd P.1) (w, M1) (fun v M' => ex n r cm (pc + 3) Lo (v ++ St.drop P.2.1) M') = some (v, M') → w.toList = u → (∀ q ∈ u, okS q) → soM M1 L xs → t.heap = H1 → s.vm.Alike t.vm → soB D cA adr M1 (va_A (wsOf adr cA M) H.size) t → va_S A s.heap H1 locs1 →
                W p l e R s m args below meth c H1 locs1 cells slots Q (F0 m (pc + 3) ls ((u ++ St.drop P.2.1).map (cv adr))) := by
              intro u t H1 locs1 hc' hu huS hM1 ht hvm hB hS1
              have hc2 : ex n r cm (pc + 3) Lo (u ++ St.drop P.2.1) M1 = some (v, M') := by
                rcases hsh with ⟨h1, rfl⟩ | ⟨h1, x, rfl⟩
                · rw [h1] at hc'; subst hu; exact hc'
                · rw [h1] at hc'; subst hu; exact hc'
              obtain ⟨b1, b2, b3⟩ := hB
              rw [ht] at b1
              exact ih p l e R s m args below meth c Q cells slots D cA adr A L xs r cm z O v M' hz hO K X hR hret (pc + 3) Lo _ M1 H1 locs1 ls hc2 hM1 ⟨b1, b3.weaken (fun k q _ h => hfree _ h), hS1⟩ ⟨hFd.1, hFd.2.1, hFd.2.2.1, fun q hq => (List.mem_append.mp hq).elim (huS q) (hdS q)⟩
            obtain ⟨hcell, hcells⟩ : cells + 0 ≤ R.cells ∧ slots + 0 ≤ R.slots := ⟨hR.2.2.1, hR.2.2.2⟩
            have hA1 : ∀ q, q < H.size → va_A (wsOf adr cA M) H.size q → A q := fun q _ h => hfree q h
            -- the call's run, by the contract, gives what is behind it
            have hend : va_Run p l e R s m args below meth c H locs cells slots 0 0 (F0 m pc ls (St.map (cv adr))) ((St.drop P.2.1).map (cv adr)) (soQ D cA adr L xs M1 (va_A (wsOf adr cA M) H.size) w ((St.take P.2.1).reverse.map (cv adr)).toArray) (va_A (wsOf adr cA M) H.size) → W p l e R s m args below meth c H locs cells slots Q (F0 m pc ls (St.map (cv adr))) := by
              intro hrun
              rcases hsh with ⟨h1, rfl⟩ | ⟨h1, x, rfl⟩
              · exact va_callv (a := (List.map (cv adr) (St.take P.2.1).reverse).toArray) (A1 := va_A (wsOf adr cA M) H.size) hrun hH.2.2 hA1 hfree (fun u t H1 locs1 ht hvm hp hB _ _ hS1 => hgo [] t H1 locs1 hc rfl (fun q h => absurd h List.not_mem_nil) hp ht hvm hB hS1)
              · exact va_calli (a := (List.map (cv adr) (St.take P.2.1).reverse).toArray) (A1 := va_A (wsOf adr cA M) H.size) hrun hH.2.2 hA1 hfree (fun x2 u t H1 locs1 ht hvm hp hB _ _ hS1 => by
                  obtain ⟨e1, e2, e3⟩ := hp
                  rw [e1]
                  exact hgo [.inl x] t H1 locs1 hc rfl (fun q h => by rw [List.mem_singleton.mp h]; exact e2) e3 ht hvm hB hS1)
            have hrm : (soRm (rkF P.1 (St.take P.2.1).reverse)).frames + 1 ≤ R.frames := by show rkF P.1 _ + 2 + 1 ≤ _; omega
            rcases hkind with ⟨k, rfl, hk⟩ | ⟨k, q, rest, c0, refs, rfl, hk, hrq, hlq, hc0⟩
            · simp only [okLen, beq_iff_eq] at hlen; subst hlen
              obtain ⟨nb, zz, hpk⟩ := hpool k rfl
              simp only [chkP, hO, hk] at hpk
              split at hpk
              · next z2 hz2 =>
                simp only [Bool.and_eq_true] at hpk
                obtain ⟨⟨⟨hp1, hp2⟩, hp3⟩, hp4⟩ := hpk
                obtain ⟨b, y, o, ml, na, rt, st, hmt, hcode, hini, hpl, hOy, hdesc, hml2, hml20, hinst, hstat⟩ := mem_called hp1
                cases hz2.symm.trans hmt
                dsimp only at hp2 hp3 hp4
                simp only [beq_iff_eq] at hp2
                subst hp3
                have hMet := so_met ih l (sz := H.size) D cA adr hmt hpl hOy hq hM (by rw [halen]; omega) haS hsh
                have hloc : 8 + (ml + 11) + (soRm (rkF P.1 (St.take P.2.1).reverse)).locals ≤ R.locals := by show 8 + (ml + 11) + 60 * (rkF P.1 _ + 1) ≤ _; omega
                have hg : GoodIn gT (Jvm.Cond.code y b ml rt :: gT) := fun w' h' => by
                  rcases List.mem_cons.mp h' with rfl | h'
                  · exact gT_good _ hcode
                  · exact gT_good _ h'
                have hpre : PreS s H (soPc D cA adr L xs M (St.take P.2.1).reverse H.size) ((St.take P.2.1).reverse.map (cv adr)) := ⟨soPc_blind, hPc⟩
                have hstk : (St.map (cv adr)) = ((St.take P.2.1).reverse.map (cv adr)).reverse ++ (St.drop P.2.1).map (cv adr) := by
                  rw [← List.map_reverse, ← List.map_append, ← hSt]
                refine hend ?_
                cases nb with
                | true =>
                  simp only [if_true] at hp4
                  exact va_runSN (n := na) ⟨hx, hb, hml, hown, hts⟩ hMet ⟨va_cnB (bytes := b) (ret := rt) na hts hg rfl rfl rfl (hN _ (chkN_in hp4)) (hts _ hini) ⟨hdesc.1, hdesc.2.1, by rw [hdesc.2.2]; rfl⟩ ⟨hrm, hloc⟩, hts _ (hstat rfl), trivial⟩ hpre rfl (by rw [List.length_map, halen, hp2]) hF.1.1 hstk (lv_room hroom) hdec ⟨hcell, hcells⟩
                | false =>
                  simp only [Bool.false_eq_true, if_false] at hp4
                  exact va_runS (n := na) ⟨hx, hb, hml, hown, hts⟩ hMet ⟨callB_of na hts hg rfl rfl rfl (hts _ hini) (hts _ (chkW_in hp4)) ⟨hdesc.1, hdesc.2.1, by rw [hdesc.2.2]; rfl⟩ ⟨hrm, hloc⟩, hts _ (hstat rfl)⟩ hpre rfl (by rw [List.length_map, halen, hp2]) hF.1.1 hstk (lv_room hroom) hdec ⟨hcell, hcells⟩
              · cases hpk
            · simp only [okLen, beq_iff_eq] at hlen; subst hlen
              obtain ⟨nb, zz, hpk⟩ := hpool k rfl
              simp only [chkP, hO, hk] at hpk
              split at hpk
              · next z2 hz2 =>
                simp only [Bool.and_eq_true] at hpk
                obtain ⟨⟨⟨hp1, hp2⟩, hp3⟩, hp4⟩ := hpk
                obtain ⟨b, y, o, ml, na, rt, st, hmt, hcode, hini, hpl, hOy, hdesc, hml2, hml20, hinst, hstat⟩ := mem_called hp1
                cases hz2.symm.trans hmt
                dsimp only at hp2 hp3 hp4
                simp only [beq_iff_eq, Bool.not_eq_true'] at hp2 hp3
                subst hp3
                obtain ⟨hna1, hi1, hi2⟩ := hinst rfl
                have hMet := so_met ih l (sz := H.size) D cA adr hmt hpl hOy hq hM (by rw [halen]; omega) haS hsh
                have hloc : 8 + (ml + 11) + (soRm (rkF P.1 (St.take P.2.1).reverse)).locals ≤ R.locals := by show 8 + (ml + 11) + 60 * (rkF P.1 _ + 1) ≤ _; omega
                have hg : GoodIn gT (Jvm.Cond.code y b ml rt :: gT) := fun w' h' => by
                  rcases List.mem_cons.mp h' with rfl | h'
                  · exact gT_good _ hcode
                  · exact gT_good _ h'
                obtain ⟨q', rfl⟩ := lay_pos hlq (by intro n e; cases e)
                obtain ⟨z3, hz3, hzn⟩ := lay_obj _ _ _ hlq
                obtain ⟨C, T, N⟩ := z3
                obtain ⟨cw, cty, cnm, caC⟩ := cl_ok _ _ hz3
                dsimp only at caC
                have hCy : C = y.cls := by
                  have h1 : mOwn P.1 = o := by simp [mOwn, hmt]
                  rw [hc0, h1, hOy] at caC
                  exact (Option.some.inj caC).symm
                have hws := ws_get (adr := adr) (cA := cA) (M := M) hlq
                rw [hrq] at hPc hSt halen hMet hloc hrm
                have hpre : PreV s H y.cls (adr (q' + 1)) (soPc D cA adr L xs M (.inr (some (q' + 1)) :: rest) H.size) (rest.map (cv adr)) := by
                  refine ⟨soPc_blind, ?_, hPc⟩
                  have := va_recv hKK hH.1 hz3 hws
                  dsimp only at this
                  rw [hCy] at this
                  exact this
                have hstk : (St.map (cv adr)) = (rest.map (cv adr)).reverse ++ .ref (adr (q' + 1)) :: (St.drop P.2.1).map (cv adr) := by
                  conv => lhs; rw [hSt]
                  simp [cv]
                rw [hrq] at hend
                refine hend ?_
                cases nb with
                | _ => exact va_runV (n := na - 1) ⟨hx, hb, hml, hown, hts⟩ hMet ⟨callB_of (na - 1) hts hg rfl rfl rfl (hts _ hini) (hts _ (chkW_in hp4)) ⟨hdesc.1, hdesc.2.1, by rw [hdesc.2.2]; rfl⟩ ⟨hrm, hloc⟩, hts _ hi1, hts _ hi2⟩ hpre rfl (by rw [List.length_map]; simp only [List.length_cons] at halen; omega) hF.1.1 hstk (lv_room hroom) hdec ⟨hcell, hcells⟩
              · cases hpk
          · cases hst
        · cases hex
end
section
/-! The small machine's runs, an instruction a row. -/
section ST
variable {r c pc : Nat} {L S : List aV} {M : aM} {P : aP}
theorem stp_of {i : Instr} (f : rfI c pc = some (i, P)) : stp c pc L S M = sem mOwn (mBz c) pc i P L S M := by unfold stp; rw [f]
def okc (a b n : Int) : Bool := decide (a ≤ n) && decide (n < b)
theorem okc_p {a b n : Int} (h : okc a b n = true) : a ≤ n ∧ n < b := by simpa [okc] using h
theorem st_iconst {n : Int} (f : rfI c pc = some (.iconst n, P)) (h : okc (-128) 128 n = true) : run r c pc L S M = run r c (pc + 1) L (.inl n :: S) M := run_go (by rw [stp_of f]; simp only [sem]; rw [if_pos (okc_p h)])
theorem st_bipush {n : Int} (f : rfI c pc = some (.bipush n, P)) (h : okc (-128) 128 n = true) : run r c pc L S M = run r c (pc + 2) L (.inl n :: S) M := run_go (by rw [stp_of f]; simp only [sem]; rw [if_pos (okc_p h)])
theorem st_sipush {n : Int} (f : rfI c pc = some (.sipush n, P)) (h : okc (-32768) 32768 n = true) : run r c pc L S M = run r c (pc + 3) L (.inl n :: S) M := run_go (by rw [stp_of f]; simp only [sem]; rw [if_pos (okc_p h)])
theorem st_ldc {k : Nat} {n : Int} (f : rfI c pc = some (.ldc k, (4, 4, 4, n))) (h : okc (-2147483648) 2147483648 n = true) : run r c pc L S M = run r c (pc + 2) L (.inl n :: S) M := run_go (by rw [stp_of f]; simp only [sem]; rw [if_pos ⟨trivial, okc_p h⟩])
theorem st_ldc_w {k : Nat} {n : Int} (f : rfI c pc = some (.ldc_w k, (4, 4, 4, n))) (h : okc (-2147483648) 2147483648 n = true) : run r c pc L S M = run r c (pc + 3) L (.inl n :: S) M := run_go (by rw [stp_of f]; simp only [sem]; rw [if_pos ⟨trivial, okc_p h⟩])
theorem st_iload {n : Nat} {x : Int} (f : rfI c pc = some (.iload n, P)) (h : L[n]? = some (.inl x)) : run r c pc L S M = run r c (pc + 2) L (.inl x :: S) M := run_go (by rw [stp_of f]; simp only [sem, h])
theorem st_iload_n {n : Fin 4} {x : Int} (f : rfI c pc = some (.iload_n n, P)) (h : L[(n : Nat)]? = some (.inl x)) : run r c pc L S M = run r c (pc + 1) L (.inl x :: S) M := run_go (by rw [stp_of f]; simp only [sem, h])
theorem st_aload {n x : Nat} (f : rfI c pc = some (.aload n, P)) (h : L[n]? = some (.inr (some x))) : run r c pc L S M = run r c (pc + 2) L (.inr (some x) :: S) M := run_go (by rw [stp_of f]; simp only [sem, h])
theorem st_aload_n {n : Fin 4} {x : Nat} (f : rfI c pc = some (.aload_n n, P)) (h : L[(n : Nat)]? = some (.inr (some x))) : run r c pc L S M = run r c (pc + 1) L (.inr (some x) :: S) M := run_go (by rw [stp_of f]; simp only [sem, h])
theorem st_istore {n : Nat} {x : Int} {L' : List aV} (f : rfI c pc = some (.istore n, P)) (hl : Nat.blt n L.length = true) (h : L.set n (.inl x) = L') : run r c pc L (.inl x :: S) M = run r c (pc + 2) L' S M := run_go (by rw [stp_of f]; simp only [sem]; rw [if_pos (Nat.blt_eq.mp hl), h])
theorem st_istore_n {n : Fin 4} {x : Int} {L' : List aV} (f : rfI c pc = some (.istore_n n, P)) (hl : Nat.blt n L.length = true) (h : L.set n (.inl x) = L') : run r c pc L (.inl x :: S) M = run r c (pc + 1) L' S M := run_go (by rw [stp_of f]; simp only [sem]; rw [if_pos (Nat.blt_eq.mp hl), h])
theorem st_iinc {n : Nat} {d x : Int} {L' : List aV} (f : rfI c pc = some (.iinc n d, P)) (hx : L[n]? = some (.inl x)) (h : L.set n (.inl (wr (x + d))) = L') : run r c pc L S M = run r c (pc + 3) L' S M := run_go (by rw [stp_of f]; simp only [sem, hx]; rw [h])
theorem st_iadd {x y : Int} (f : rfI c pc = some (.iadd, P)) : run r c pc L (.inl y :: .inl x :: S) M = run r c (pc + 1) L (.inl (wr (x + y)) :: S) M := run_go (by rw [stp_of f]; rfl)
theorem st_isub {x y : Int} (f : rfI c pc = some (.isub, P)) : run r c pc L (.inl y :: .inl x :: S) M = run r c (pc + 1) L (.inl (wr (x - y)) :: S) M := run_go (by rw [stp_of f]; rfl)
theorem st_imul {x y : Int} (f : rfI c pc = some (.imul, P)) : run r c pc L (.inl y :: .inl x :: S) M = run r c (pc + 1) L (.inl (wr (x * y)) :: S) M := run_go (by rw [stp_of f]; rfl)
theorem st_idiv {x y : Int} (f : rfI c pc = some (.idiv, P)) : run r c pc L (.inl y :: .inl x :: S) M = if y = 0 then none else run r c (pc + 1) L (.inl (wr (x.tdiv y)) :: S) M := by
  by_cases h : y = 0
  · rw [if_pos h]; exact run_no (by rw [stp_of f]; simp only [sem]; rw [if_pos h])
  · rw [if_neg h]; exact run_go (by rw [stp_of f]; simp only [sem]; rw [if_neg h])
theorem st_irem {x y : Int} (f : rfI c pc = some (.irem, P)) : run r c pc L (.inl y :: .inl x :: S) M = if y = 0 then none else run r c (pc + 1) L (.inl (x.tmod y) :: S) M := by
  by_cases h : y = 0
  · rw [if_pos h]; exact run_no (by rw [stp_of f]; simp only [sem]; rw [if_pos h])
  · rw [if_neg h]; exact run_go (by rw [stp_of f]; simp only [sem]; rw [if_neg h])
theorem st_idivL {x y : Int} (f : rfI c pc = some (.idiv, P)) (h : decide (y = 0) = false) : run r c pc L (.inl y :: .inl x :: S) M = run r c (pc + 1) L (.inl (wr (x.tdiv y)) :: S) M := by rw [st_idiv f, if_neg (by simpa using h)]
theorem st_iremL {x y : Int} (f : rfI c pc = some (.irem, P)) (h : decide (y = 0) = false) : run r c pc L (.inl y :: .inl x :: S) M = run r c (pc + 1) L (.inl (x.tmod y) :: S) M := by rw [st_irem f, if_neg (by simpa using h)]
theorem st_ineg {x : Int} (f : rfI c pc = some (.ineg, P)) : run r c pc L (.inl x :: S) M = run r c (pc + 1) L (.inl (wr (-x)) :: S) M := run_go (by rw [stp_of f]; rfl)
theorem st_iand {x y : Int} (f : rfI c pc = some (.iand, P)) : run r c pc L (.inl y :: .inl x :: S) M = run r c (pc + 1) L (.inl (iAnd x y) :: S) M := run_go (by rw [stp_of f]; rfl)
theorem st_ior {x y : Int} (f : rfI c pc = some (.ior, P)) : run r c pc L (.inl y :: .inl x :: S) M = run r c (pc + 1) L (.inl (iOr x y) :: S) M := run_go (by rw [stp_of f]; rfl)
theorem st_ixor {x y : Int} (f : rfI c pc = some (.ixor, P)) : run r c pc L (.inl y :: .inl x :: S) M = run r c (pc + 1) L (.inl (iXor x y) :: S) M := run_go (by rw [stp_of f]; rfl)
theorem st_ishl {x y : Int} (f : rfI c pc = some (.ishl, P)) : run r c pc L (.inl y :: .inl x :: S) M = run r c (pc + 1) L (.inl (iShl x y) :: S) M := run_go (by rw [stp_of f]; rfl)
theorem st_ishr {x y : Int} (f : rfI c pc = some (.ishr, P)) : run r c pc L (.inl y :: .inl x :: S) M = run r c (pc + 1) L (.inl (iShr x y) :: S) M := run_go (by rw [stp_of f]; rfl)
theorem st_iushr {x y : Int} (f : rfI c pc = some (.iushr, P)) : run r c pc L (.inl y :: .inl x :: S) M = run r c (pc + 1) L (.inl (iUshr x y) :: S) M := run_go (by rw [stp_of f]; rfl)
theorem st_i2b {x : Int} (f : rfI c pc = some (.i2b, P)) : run r c pc L (.inl x :: S) M = run r c (pc + 1) L (.inl (b8 x) :: S) M := run_go (by rw [stp_of f]; rfl)
theorem st_dup {v : aV} (f : rfI c pc = some (.dup, P)) : run r c pc L (v :: S) M = run r c (pc + 1) L (v :: v :: S) M := run_go (by rw [stp_of f]; rfl)
theorem st_dup2 {v w : aV} (f : rfI c pc = some (.dup2, P)) : run r c pc L (v :: w :: S) M = run r c (pc + 1) L (v :: w :: v :: w :: S) M := run_go (by rw [stp_of f]; rfl)
theorem st_pop {v : aV} (f : rfI c pc = some (.pop, P)) : run r c pc L (v :: S) M = run r c (pc + 1) L S M := run_go (by rw [stp_of f]; rfl)
theorem st_goto {off : Int} {t : Nat} (f : rfI c pc = some (.goto off, P)) (h : (pc : Int) + off = (t : Int)) : run r c pc L S M = run r c t L S M := run_go (by rw [stp_of f]; simp only [sem, tgt, h]; rw [if_pos (by omega)]; rfl)
theorem aBr_go {off : Int} {t : Nat} {q : Prop} [Decidable q] (h : (pc : Int) + off = (t : Int)) : aBr pc off q L S M = aGo (if q then t else pc + 3) L S M := by
  unfold aBr tgt
  rw [if_pos (by omega), h]
  rfl
theorem run_ite {q : Prop} [Decidable q] {a b : Nat} : run r c (if q then a else b) L S M = if q then run r c a L S M else run r c b L S M := by split <;> rfl
theorem st_if_eq {x off : Int} {t : Nat} (f : rfI c pc = some (.ifCond .eq off, P)) (h : (pc : Int) + off = (t : Int)) : run r c pc L (.inl x :: S) M = if x = 0 then run r c t L S M else run r c (pc + 3) L S M := (run_go (by rw [stp_of f]; exact aBr_go h)).trans run_ite
theorem st_if_ne {x off : Int} {t : Nat} (f : rfI c pc = some (.ifCond .ne off, P)) (h : (pc : Int) + off = (t : Int)) : run r c pc L (.inl x :: S) M = if x = 0 then run r c (pc + 3) L S M else run r c t L S M := by
  rw [run_go (by rw [stp_of f]; exact aBr_go h), run_ite]
  by_cases q : x = 0
  · rw [if_neg (fun z => z q), if_pos q]
  · rw [if_pos q, if_neg q]
theorem st_if_lt {x off : Int} {t : Nat} (f : rfI c pc = some (.ifCond .lt off, P)) (h : (pc : Int) + off = (t : Int)) : run r c pc L (.inl x :: S) M = if x < 0 then run r c t L S M else run r c (pc + 3) L S M := (run_go (by rw [stp_of f]; exact aBr_go h)).trans run_ite
theorem st_if_ge {x off : Int} {t : Nat} (f : rfI c pc = some (.ifCond .ge off, P)) (h : (pc : Int) + off = (t : Int)) : run r c pc L (.inl x :: S) M = if 0 ≤ x then run r c t L S M else run r c (pc + 3) L S M := (run_go (by rw [stp_of f]; exact aBr_go h)).trans run_ite
theorem st_if_gt {x off : Int} {t : Nat} (f : rfI c pc = some (.ifCond .gt off, P)) (h : (pc : Int) + off = (t : Int)) : run r c pc L (.inl x :: S) M = if 0 < x then run r c t L S M else run r c (pc + 3) L S M := (run_go (by rw [stp_of f]; exact aBr_go h)).trans run_ite
theorem st_if_le {x off : Int} {t : Nat} (f : rfI c pc = some (.ifCond .le off, P)) (h : (pc : Int) + off = (t : Int)) : run r c pc L (.inl x :: S) M = if x ≤ 0 then run r c t L S M else run r c (pc + 3) L S M := (run_go (by rw [stp_of f]; exact aBr_go h)).trans run_ite
theorem st_icmp_eq {x y off : Int} {t : Nat} (f : rfI c pc = some (.if_icmp .eq off, P)) (h : (pc : Int) + off = (t : Int)) : run r c pc L (.inl y :: .inl x :: S) M = if x = y then run r c t L S M else run r c (pc + 3) L S M := (run_go (by rw [stp_of f]; exact aBr_go h)).trans run_ite
theorem st_icmp_ne {x y off : Int} {t : Nat} (f : rfI c pc = some (.if_icmp .ne off, P)) (h : (pc : Int) + off = (t : Int)) : run r c pc L (.inl y :: .inl x :: S) M = if x = y then run r c (pc + 3) L S M else run r c t L S M := by
  rw [run_go (by rw [stp_of f]; exact aBr_go h), run_ite]
  by_cases q : x = y
  · rw [if_neg (fun z => z q), if_pos q]
  · rw [if_pos q, if_neg q]
theorem st_icmp_lt {x y off : Int} {t : Nat} (f : rfI c pc = some (.if_icmp .lt off, P)) (h : (pc : Int) + off = (t : Int)) : run r c pc L (.inl y :: .inl x :: S) M = if x < y then run r c t L S M else run r c (pc + 3) L S M := (run_go (by rw [stp_of f]; exact aBr_go h)).trans run_ite
theorem st_icmp_ge {x y off : Int} {t : Nat} (f : rfI c pc = some (.if_icmp .ge off, P)) (h : (pc : Int) + off = (t : Int)) : run r c pc L (.inl y :: .inl x :: S) M = if y ≤ x then run r c t L S M else run r c (pc + 3) L S M := (run_go (by rw [stp_of f]; exact aBr_go h)).trans run_ite
theorem st_icmp_gt {x y off : Int} {t : Nat} (f : rfI c pc = some (.if_icmp .gt off, P)) (h : (pc : Int) + off = (t : Int)) : run r c pc L (.inl y :: .inl x :: S) M = if y < x then run r c t L S M else run r c (pc + 3) L S M := (run_go (by rw [stp_of f]; exact aBr_go h)).trans run_ite
theorem st_icmp_le {x y off : Int} {t : Nat} (f : rfI c pc = some (.if_icmp .le off, P)) (h : (pc : Int) + off = (t : Int)) : run r c pc L (.inl y :: .inl x :: S) M = if x ≤ y then run r c t L S M else run r c (pc + 3) L S M := (run_go (by rw [stp_of f]; exact aBr_go h)).trans run_ite
/-- a table: one place after another -/
def swT (pc : Nat) (x : Int) (d : Int) : Int → List Int → Nat
  | _, [] => tgt pc d
  | k, o :: os => if x = k then tgt pc o else swT pc x d (k + 1) os
theorem swT_out {x d : Int} : ∀ (os : List Int) (k : Int), (x < k ∨ k + os.length ≤ x) → swT pc x d k os = tgt pc d := by
  intro os
  induction os with
  | nil => intro k _; rfl
  | cons o os ih =>
    intro k h
    simp only [List.length_cons] at h
    unfold swT
    rw [if_neg (by omega)]
    exact ih (k + 1) (by omega)
theorem swT_in {x d : Int} : ∀ (os : List Int) (k : Int) (o : Int), k ≤ x → os[(x - k).toNat]? = some o → swT pc x d k os = tgt pc o := by
  intro os
  induction os with
  | nil => intro k o _ h; simp at h
  | cons o1 os ih =>
    intro k o hk h
    unfold swT
    by_cases e : x = k
    · subst e
      rw [if_pos rfl]
      simp at h
      rw [h]
    · rw [if_neg e]
      refine ih (k + 1) o (by omega) ?_
      rw [show (x - k).toNat = (x - (k + 1)).toNat + 1 by omega, List.getElem?_cons_succ] at h
      exact h
theorem st_table {x d lo hi : Int} {offs : Array Int} (f : rfI c pc = some (.tableswitch d lo hi offs, P)) (hn : lo + offs.toList.length = hi + 1) (hz : (d :: offs.toList).all (fun o => decide (0 ≤ (pc : Int) + o)) = true) : run r c pc L (.inl x :: S) M = run r c (swT pc x d lo offs.toList) L S M := by
  have hz1 : ∀ o ∈ (d :: offs.toList), 0 ≤ (pc : Int) + o := fun o ho => by simpa using List.all_eq_true.mp hz o ho
  refine run_go ?_
  rw [stp_of f]
  simp only [sem]
  by_cases h : x < lo ∨ hi < x
  · rw [if_pos h, if_pos (hz1 d List.mem_cons_self), swT_out _ _ (by omega)]
  · rw [if_neg h]
    have hl : (x - lo).toNat < offs.toList.length := by omega
    have h1 : offs.toList[(x - lo).toNat]? = some offs.toList[(x - lo).toNat] := List.getElem?_eq_getElem hl
    rw [swT_in _ _ _ (by omega) h1, ← Array.getElem?_toList, h1]
    dsimp only
    rw [if_pos (hz1 _ (List.mem_cons_of_mem _ (List.getElem_mem hl)))]
theorem st_lookup {x d : Int} {ps : Array (Int × Int)} (f : rfI c pc = some (.lookupswitch d ps, P)) (hs : (ps.toList.zip (ps.toList.drop 1)).all (fun (a, next) => a.1 < next.1) = true) (hz : 0 ≤ (pc : Int) + Op.lookupswitch.offset ps.toList d x) : run r c pc L (.inl x :: S) M = run r c (tgt pc (Op.lookupswitch.offset ps.toList d x)) L S M := run_go (by rw [stp_of f]; simp only [sem]; rw [if_pos ⟨hs, hz⟩])
theorem st_getI {k q a j n : Nat} {refs : List (Option Nat)} (f : rfI c pc = some (.getfield k, (a, j, n, 0))) (hn : Nat.ble n 1 = true) (hq : lay0[q]? = some (.inl (a, refs))) (hr : refs[j]? = some none) : run r c pc L (.inr (some q) :: S) M = run r c (pc + 3) L (.inl (M q j) :: S) M := run_go (by rw [stp_of f]; simp only [sem, hq, hr, if_true]; rw [if_pos (Nat.le_of_ble_eq_true hn)])
theorem st_getR {k q q' a j : Nat} {refs : List (Option Nat)} (f : rfI c pc = some (.getfield k, (a, j, 2, 0))) (hq : lay0[q]? = some (.inl (a, refs))) (hr : refs[j]? = some (some q')) : run r c pc L (.inr (some q) :: S) M = run r c (pc + 3) L (.inr (some q') :: S) M := run_go (by rw [stp_of f]; simp only [sem, hq, hr, if_true])
theorem st_putI {k q a j : Nat} {x : Int} {refs : List (Option Nat)} (f : rfI c pc = some (.putfield k, (a, j, 0, 0))) (hq : lay0[q]? = some (.inl (a, refs))) (hr : refs[j]? = some none) : run r c pc L (.inl x :: .inr (some q) :: S) M = run r c (pc + 3) L S (upM M q j x) := run_go (by rw [stp_of f]; simp only [sem, hq]; rw [if_pos ⟨trivial, hr, Or.inl trivial⟩])
theorem st_putZ {k q a j : Nat} {x : Int} {refs : List (Option Nat)} (f : rfI c pc = some (.putfield k, (a, j, 1, 0))) (hq : lay0[q]? = some (.inl (a, refs))) (hr : refs[j]? = some none) (hx : (decide (x = 0) || decide (x = 1)) = true) : run r c pc L (.inl x :: .inr (some q) :: S) M = run r c (pc + 3) L S (upM M q j x) := run_go (by rw [stp_of f]; simp only [sem, hq]; rw [if_pos ⟨trivial, hr, Or.inr ⟨trivial, by simpa using hx⟩⟩])
theorem st_iald {q n : Nat} {j : Int} (f : rfI c pc = some (.iaload, P)) (hq : lay0[q]? = some (.inr (0, n))) : run r c pc L (.inl j :: .inr (some q) :: S) M = if 0 ≤ j ∧ j < (n : Int) then run r c (pc + 1) L (.inl (M q j.toNat) :: S) M else none := by
  by_cases h : 0 ≤ j ∧ j < (n : Int)
  · rw [if_pos h]; exact run_go (by rw [stp_of f]; simp only [sem, hq, if_true]; rw [if_pos h])
  · rw [if_neg h]; exact run_no (by rw [stp_of f]; simp only [sem, hq, if_true]; rw [if_neg h])
theorem st_sld {j : Int} (f : rfI c pc = some (.iaload, P)) : run r c pc L (.inl j :: .inr (some 0) :: S) M = if 0 ≤ j ∧ j < M 0 4000 then run r c (pc + 1) L (.inl (M 0 j.toNat) :: S) M else none := by
  by_cases h : 0 ≤ j ∧ j < M 0 4000
  · rw [if_pos h]; exact run_go (by rw [stp_of f]; simp only [sem, lay_zero]; rw [if_neg (by decide), if_pos ⟨trivial, trivial⟩, if_pos h])
  · rw [if_neg h]; exact run_no (by rw [stp_of f]; simp only [sem, lay_zero]; rw [if_neg (by decide), if_pos ⟨trivial, trivial⟩, if_neg h])
theorem st_slen (f : rfI c pc = some (.arraylength, P)) : run r c pc L (.inr (some 0) :: S) M = run r c (pc + 1) L (.inl (M 0 4000) :: S) M := run_go (by rw [stp_of f]; rfl)
theorem st_bald {q n : Nat} {j : Int} (f : rfI c pc = some (.baload, P)) (hq : lay0[q]? = some (.inr (1, n))) : run r c pc L (.inl j :: .inr (some q) :: S) M = if 0 ≤ j ∧ j < (n : Int) then run r c (pc + 1) L (.inl (M q j.toNat) :: S) M else none := by
  by_cases h : 0 ≤ j ∧ j < (n : Int)
  · rw [if_pos h]; exact run_go (by rw [stp_of f]; simp only [sem, hq, if_true]; rw [if_pos h])
  · rw [if_neg h]; exact run_no (by rw [stp_of f]; simp only [sem, hq, if_true]; rw [if_neg h])
theorem st_iast {q n : Nat} {j x : Int} (f : rfI c pc = some (.iastore, P)) (hq : lay0[q]? = some (.inr (0, n))) : run r c pc L (.inl x :: .inl j :: .inr (some q) :: S) M = if 0 ≤ j ∧ j < (n : Int) then run r c (pc + 1) L S (upM M q j.toNat x) else none := by
  by_cases h : 0 ≤ j ∧ j < (n : Int)
  · rw [if_pos h]; exact run_go (by rw [stp_of f]; simp only [sem, hq, if_true]; rw [if_pos h])
  · rw [if_neg h]; exact run_no (by rw [stp_of f]; simp only [sem, hq, if_true]; rw [if_neg h])
theorem st_bast {q n : Nat} {j x : Int} (f : rfI c pc = some (.bastore, P)) (hq : lay0[q]? = some (.inr (1, n))) : run r c pc L (.inl x :: .inl j :: .inr (some q) :: S) M = if 0 ≤ j ∧ j < (n : Int) then run r c (pc + 1) L S (upM M q j.toNat (b8 x)) else none := by
  by_cases h : 0 ≤ j ∧ j < (n : Int)
  · rw [if_pos h]; exact run_go (by rw [stp_of f]; simp only [sem, hq, if_true]; rw [if_pos h])
  · rw [if_neg h]; exact run_no (by rw [stp_of f]; simp only [sem, hq, if_true]; rw [if_neg h])
/-- an index that is a written number -/
theorem st_ialdL {q n : Nat} {j : Int} (f : rfI c pc = some (.iaload, P)) (hq : lay0[q]? = some (.inr (0, n))) (h : okc 0 n j = true) : run r c pc L (.inl j :: .inr (some q) :: S) M = run r c (pc + 1) L (.inl (M q j.toNat) :: S) M := by rw [st_iald f hq, if_pos (okc_p h)]
theorem st_iastL {q n : Nat} {j x : Int} (f : rfI c pc = some (.iastore, P)) (hq : lay0[q]? = some (.inr (0, n))) (h : okc 0 n j = true) : run r c pc L (.inl x :: .inl j :: .inr (some q) :: S) M = run r c (pc + 1) L S (upM M q j.toNat x) := by rw [st_iast f hq, if_pos (okc_p h)]
theorem st_acp {k q0 q1 n0 n1 z : Nat} {sp dp n : Int} (f : rfI c pc = some (.invokestatic k, (z, 5, 12, 0))) (h0 : lay0[q0]? = some (.inr (0, n0))) (h1 : lay0[q1]? = some (.inr (0, n1))) (h : (okc 0 (n0 + 1) sp && okc 0 (n1 + 1) dp && okc 0 (n0 + 1) n && decide (sp + n ≤ (n0 : Int)) && decide (dp + n ≤ (n1 : Int)) && Nat.ble S.length 8) = true) : run r c pc L (.inl n :: .inl dp :: .inr (some q1) :: .inl sp :: .inr (some q0) :: S) M = run r c (pc + 3) L S (cpM M q0 q1 sp.toNat dp.toNat n.toNat) := run_go (by
  rw [stp_of f]
  simp only [Bool.and_eq_true, okc, decide_eq_true_eq] at h
  simp only [sem, h0, h1, if_true]
  rw [if_pos ⟨⟨by omega, by omega, by omega, by omega, by omega⟩, Nat.le_of_ble_eq_true h.2⟩])
theorem st_max {k z : Nat} {x y : Int} (f : rfI c pc = some (.invokestatic k, (z, 2, 13, 0))) (h : Nat.ble S.length 8 = true) : run r c pc L (.inl y :: .inl x :: S) M = run r c (pc + 3) L (.inl (max x y) :: S) M := run_go (by
  rw [stp_of f]
  simp only [sem, show ¬ (13 = 12) by decide, if_false, if_true]
  rw [if_pos (Nat.le_of_ble_eq_true h)])
theorem st_min {k z : Nat} {x y : Int} (f : rfI c pc = some (.invokestatic k, (z, 2, 14, 0))) (h : Nat.ble S.length 8 = true) : run r c pc L (.inl y :: .inl x :: S) M = run r c (pc + 3) L (.inl (min x y) :: S) M := run_go (by
  rw [stp_of f]
  simp only [sem, show ¬ (14 = 12) by decide, show ¬ (14 = 13) by decide, if_false, if_true]
  rw [if_pos (Nat.le_of_ble_eq_true h)])
theorem st_S {k d na : Nat} (f : rfI c pc = some (.invokestatic k, (d, na, 10, 0))) (h : (Nat.ble na S.length && Nat.ble S.length (na + 8)) = true) {a rest : List aV} (ha : (S.take na).reverse = a) (hs : S.drop na = rest) : run r c pc L S M = if rkF d a < r then (fnA d a M).bind (fun q => cnt (mVd d) q (fun v M' => run r c (pc + 3) L (v ++ rest) M')) else none := by
  subst ha; subst hs
  simp only [Bool.and_eq_true] at h
  refine run_call ?_
  rw [stp_of f]
  simp only [sem, show ¬ (10 = 12) by decide, show ¬ (10 = 13) by decide, show ¬ (10 = 14) by decide, if_false]
  rw [if_pos ⟨trivial, Nat.le_of_ble_eq_true h.1, Nat.le_of_ble_eq_true h.2⟩]
theorem st_V {k d na q a0 : Nat} {refs : List (Option Nat)} (f : rfI c pc = some (.invokevirtual k, (d, na, 11, 0))) (h : (Nat.ble na S.length && Nat.ble S.length (na + 8)) = true) {a rest : List aV} (ha : (S.take na).reverse = .inr (some q) :: a) (hs : S.drop na = rest) (hq : lay0[q]? = some (.inl (a0, refs))) (ho : mOwn d = a0) : run r c pc L S M = if rkF d (.inr (some q) :: a) < r then (fnA d (.inr (some q) :: a) M).bind (fun q => cnt (mVd d) q (fun v M' => run r c (pc + 3) L (v ++ rest) M')) else none := by
  subst hs; subst ho
  simp only [Bool.and_eq_true] at h
  refine run_call ?_
  rw [stp_of f]
  simp only [sem]
  rw [if_pos ⟨trivial, Nat.le_of_ble_eq_true h.1, Nat.le_of_ble_eq_true h.2⟩, ha]
  dsimp only
  rw [hq]
  dsimp only
  rw [if_pos rfl]
theorem sw_c {x d k o : Int} {os : List Int} {p0 : Nat} : run r c (swT p0 x d k (o :: os)) L S M = if x = k then run r c (tgt p0 o) L S M else run r c (swT p0 x d (k + 1) os) L S M := run_ite
def swL (pc : Nat) (x : Int) (d : Int) : List (Int × Int) → Nat
  | [] => tgt pc d
  | q :: os => if x = q.1 then tgt pc q.2 else swL pc x d os
theorem swL_eq {x d : Int} : ∀ (ps : List (Int × Int)), tgt pc (Op.lookupswitch.offset ps d x) = swL pc x d ps := by
  intro ps
  induction ps with
  | nil => rfl
  | cons q ps ih =>
    obtain ⟨a, o⟩ := q
    rw [Op.lookupswitch.offset_cons]
    unfold swL
    by_cases h : a = x
    · rw [if_pos h, if_pos h.symm]
    · rw [if_neg h, if_neg (fun z => h z.symm)]; exact ih
theorem off_in {x d : Int} : ∀ (ps : List (Int × Int)), (∀ o ∈ d :: ps.map (fun q => q.2), 0 ≤ (pc : Int) + o) → 0 ≤ (pc : Int) + Op.lookupswitch.offset ps d x := by
  intro ps
  induction ps with
  | nil => intro h; exact h d List.mem_cons_self
  | cons q ps ih =>
    intro h
    obtain ⟨a, o⟩ := q
    rw [Op.lookupswitch.offset_cons]
    by_cases e : a = x
    · rw [if_pos e]; exact h o (by simp)
    · rw [if_neg e]
      refine ih fun z hz => h z ?_
      rcases List.mem_cons.mp hz with hz | hz
      · simp [hz]
      · simp only [List.map_cons, List.mem_cons]; exact Or.inr (Or.inr hz)
theorem st_lk {x d : Int} {ps : Array (Int × Int)} (f : rfI c pc = some (.lookupswitch d ps, P)) (hs : (ps.toList.zip (ps.toList.drop 1)).all (fun (a, next) => a.1 < next.1) = true) (hz : (d :: ps.toList.map (fun q => q.2)).all (fun o => decide (0 ≤ (pc : Int) + o)) = true) : run r c pc L (.inl x :: S) M = run r c (swL pc x d ps.toList) L S M := by
  rw [st_lookup f hs (off_in _ (fun o ho => by simpa using List.all_eq_true.mp hz o ho)), swL_eq]
theorem sl_c {x d : Int} {q : Int × Int} {os : List (Int × Int)} {p0 : Nat} : run r c (swL p0 x d (q :: os)) L S M = if x = q.1 then run r c (tgt p0 q.2) L S M else run r c (swL p0 x d os) L S M := run_ite
/-- a call whose rank is below: of an int, of nothing -/
theorem rkF_n {d n : Nat} {a : List aV} (h : mRec.contains d = false) (h2 : mRk.getD d 0 = n) : rkF d a = n := by unfold rkF; rw [h, h2]; rfl
theorem ca_I {d n : Nat} {a rest : List aV} {X : aX} (h : X = if rkF d a < r then (fnA d a M).bind (fun q => cnt (mVd d) q (fun v M' => run r c pc L (v ++ rest) M')) else none) (hk : rkF d a = n) (hr : n < r) (hv : mVd d = false) : X = bI (fnA d a M) (fun v M' => run r c pc L (.inl v :: rest) M') := by
  rw [h, if_pos (by rw [hk]; exact hr), hv, bind_bI]; rfl
theorem ca_V {d n : Nat} {a rest : List aV} {X : aX} (h : X = if rkF d a < r then (fnA d a M).bind (fun q => cnt (mVd d) q (fun v M' => run r c pc L (v ++ rest) M')) else none) (hk : rkF d a = n) (hr : n < r) (hv : mVd d = true) : X = bV (fnA d a M) (fun M' => run r c pc L rest M') := by
  rw [h, if_pos (by rw [hk]; exact hr), hv, bind_bV]; rfl
theorem cr_I {d : Nat} {a rest : List aV} {X : aX} (h : X = if rkF d a < r then (fnA d a M).bind (fun q => cnt (mVd d) q (fun v M' => run r c pc L (v ++ rest) M')) else none) (hv : mVd d = false) : X = if rkF d a < r then bI (fnA d a M) (fun v M' => run r c pc L (.inl v :: rest) M') else none := by
  rw [h, hv, bind_bI]; rfl
theorem st_ret {x : Int} (f : rfI c pc = some (.ireturn, P)) (hb : mBz c = false) : run r c pc L [.inl x] M = some (some (.inl x), M) := run_ret (by rw [stp_of f, hb]; rfl)
theorem st_retL {x : Int} (f : rfI c pc = some (.ireturn, P)) (hx : (decide (x = 0) || decide (x = 1)) = true) : run r c pc L [.inl x] M = some (some (.inl x), M) := run_ret (by rw [stp_of f]; simp only [sem]; rw [if_pos (fun _ => by simpa using hx)])
theorem st_retZ {x : Int} (f : rfI c pc = some (.ireturn, P)) (hb : mBz c = true) : run r c pc L [.inl x] M = if x = 0 ∨ x = 1 then some (some (.inl x), M) else none := by
  by_cases h : x = 0 ∨ x = 1
  · rw [if_pos h]; exact run_ret (by rw [stp_of f]; simp only [sem]; rw [if_pos (fun _ => h)])
  · rw [if_neg h]; exact run_no (by rw [stp_of f, hb]; simp only [sem]; rw [if_neg (fun q => h (q trivial))])
theorem st_rv (f : rfI c pc = some (.return_, P)) : run r c pc L [] M = some (none, M) := run_ret (by rw [stp_of f]; rfl)
end ST
theorem teI {q : Prop} [Decidable q] {a b a' b' : aX} (h1 : a = a') (h2 : b = b') : (if q then a else b) = if q then a' else b' := by rw [h1, h2]
theorem teB {X : aX} {f g : Int → aM → aX} (h : ∀ v M, f v M = g v M) : bI X f = bI X g := by rw [show f = g from funext fun v => funext fun M => h v M]
theorem teV {X : aX} {f g : aM → aX} (h : ∀ M, f M = g M) : bV X f = bV X g := by rw [show f = g from funext fun M => h M]

def isT (k : Nat) : Prop := k = 4 ∨ k = 8 ∨ k = 12
def isW (k : Nat) : Prop := k = 18 ∨ k = 47
theorem lay_T {k : Nat} (h : isT k) : lay0[k]? = some (.inl (10, [some (k + 1), some (k + 2), some (k + 3), none, none, none, none, none])) := by rcases h with rfl | rfl | rfl <;> rfl
theorem lay_T1 {k : Nat} (h : isT k) : lay0[k + 1]? = some (.inr (0, 8)) := by rcases h with rfl | rfl | rfl <;> rfl
theorem lay_T2 {k : Nat} (h : isT k) : lay0[k + 2]? = some (.inr (0, 64)) := by rcases h with rfl | rfl | rfl <;> rfl
theorem lay_T3 {k : Nat} (h : isT k) : lay0[k + 3]? = some (.inr (0, 64)) := by rcases h with rfl | rfl | rfl <;> rfl
theorem lay_W {k : Nat} (h : isW k) : lay0[k]? = some (.inl (3, [some (k + 1), some (k + 2), some (k + 3), some (k + 4), some (k + 5), none, none])) := by rcases h with rfl | rfl <;> rfl
theorem lay_W1 {k : Nat} (h : isW k) : lay0[k + 1]? = some (.inr (0, 16)) := by rcases h with rfl | rfl <;> rfl
theorem lay_W2 {k : Nat} (h : isW k) : lay0[k + 2]? = some (.inr (0, 16)) := by rcases h with rfl | rfl <;> rfl
theorem lay_W3 {k : Nat} (h : isW k) : lay0[k + 3]? = some (.inr (0, 16)) := by rcases h with rfl | rfl <;> rfl
theorem lay_W4 {k : Nat} (h : isW k) : lay0[k + 4]? = some (.inr (0, 16)) := by rcases h with rfl | rfl <;> rfl
theorem lay_W5 {k : Nat} (h : isW k) : lay0[k + 5]? = some (.inr (0, 480)) := by rcases h with rfl | rfl <;> rfl
end
