section
-- ===== PART A: goes FIRST, ahead of the names: the tables' words, and 'selects' of the private methods out of them =====
/-- a private method of a class that the tables say can be made, by its rows of tables_1 -/
def lw_okq (q : MethodName × Nat) : Prop := (q.1.cls ≠ "java/lang/invoke/MethodHandle" ∧ q.1.cls ≠ "java/lang/invoke/VarHandle") ∧ Cond.instantiable q.1.cls q.2 ∈ tables_1 ∧ Cond.privateMethod q.1 ∈ tables_1 ∧ Cond.instanceMethod q.1 ∈ tables_1
theorem lw_p0 : lw_okq (⟨"CommitPrefixes", "refuse", "(I)I"⟩, 13) := ⟨⟨by decide +kernel, by decide +kernel⟩, List.mem_of_getElem? (i := 22) (by decide +kernel), List.mem_of_getElem? (i := 327) (by decide +kernel), List.mem_of_getElem? (i := 328) (by decide +kernel)⟩
theorem lw_p1 : lw_okq (⟨"CommitPrefixes", "rowLack", "(I)I"⟩, 13) := ⟨⟨by decide +kernel, by decide +kernel⟩, List.mem_of_getElem? (i := 22) (by decide +kernel), List.mem_of_getElem? (i := 342) (by decide +kernel), List.mem_of_getElem? (i := 343) (by decide +kernel)⟩
theorem lw_p2 : lw_okq (⟨"CommitPrefixes$Shelf", "lowestBits", "(J)J"⟩, 8) := ⟨⟨by decide +kernel, by decide +kernel⟩, List.mem_of_getElem? (i := 243) (by decide +kernel), List.mem_of_getElem? (i := 363) (by decide +kernel), List.mem_of_getElem? (i := 364) (by decide +kernel)⟩
theorem lw_p3 : lw_okq (⟨"CommitPrefixes", "copyLack", "(II)I"⟩, 13) := ⟨⟨by decide +kernel, by decide +kernel⟩, List.mem_of_getElem? (i := 22) (by decide +kernel), List.mem_of_getElem? (i := 371) (by decide +kernel), List.mem_of_getElem? (i := 372) (by decide +kernel)⟩
theorem lw_p4 : lw_okq (⟨"CommitPrefixes", "current", "()LCommitPrefixes$Run;"⟩, 13) := ⟨⟨by decide +kernel, by decide +kernel⟩, List.mem_of_getElem? (i := 22) (by decide +kernel), List.mem_of_getElem? (i := 394) (by decide +kernel), List.mem_of_getElem? (i := 395) (by decide +kernel)⟩
theorem lw_p5 : lw_okq (⟨"CommitPrefixes$Run", "comeUp", "()V"⟩, 17) := ⟨⟨by decide +kernel, by decide +kernel⟩, List.mem_of_getElem? (i := 104) (by decide +kernel), List.mem_of_getElem? (i := 418) (by decide +kernel), List.mem_of_getElem? (i := 419) (by decide +kernel)⟩
theorem lw_p6 : lw_okq (⟨"CommitPrefixes$Coordinator", "turnTo", "(II)V"⟩, 7) := ⟨⟨by decide +kernel, by decide +kernel⟩, List.mem_of_getElem? (i := 110) (by decide +kernel), List.mem_of_getElem? (i := 438) (by decide +kernel), List.mem_of_getElem? (i := 439) (by decide +kernel)⟩
theorem lw_p7 : lw_okq (⟨"CommitPrefixes$Coordinator", "decideAbort", "(LCommitPrefixes$Run;)V"⟩, 7) := ⟨⟨by decide +kernel, by decide +kernel⟩, List.mem_of_getElem? (i := 110) (by decide +kernel), List.mem_of_getElem? (i := 446) (by decide +kernel), List.mem_of_getElem? (i := 447) (by decide +kernel)⟩
theorem lw_p8 : lw_okq (⟨"CommitPrefixes$Run", "goDown", "()V"⟩, 17) := ⟨⟨by decide +kernel, by decide +kernel⟩, List.mem_of_getElem? (i := 104) (by decide +kernel), List.mem_of_getElem? (i := 473) (by decide +kernel), List.mem_of_getElem? (i := 474) (by decide +kernel)⟩
theorem lw_p9 : lw_okq (⟨"CommitPrefixes$Run", "deliver", "(II)V"⟩, 17) := ⟨⟨by decide +kernel, by decide +kernel⟩, List.mem_of_getElem? (i := 104) (by decide +kernel), List.mem_of_getElem? (i := 483) (by decide +kernel), List.mem_of_getElem? (i := 484) (by decide +kernel)⟩
theorem lw_p10 : lw_okq (⟨"CommitPrefixes$Coordinator", "allCounted", "(LCommitPrefixes$Run;I)Z"⟩, 7) := ⟨⟨by decide +kernel, by decide +kernel⟩, List.mem_of_getElem? (i := 110) (by decide +kernel), List.mem_of_getElem? (i := 496) (by decide +kernel), List.mem_of_getElem? (i := 497) (by decide +kernel)⟩
theorem lw_p11 : lw_okq (⟨"CommitPrefixes$Coordinator", "decideCommit", "(LCommitPrefixes$Run;)V"⟩, 7) := ⟨⟨by decide +kernel, by decide +kernel⟩, List.mem_of_getElem? (i := 110) (by decide +kernel), List.mem_of_getElem? (i := 500) (by decide +kernel), List.mem_of_getElem? (i := 501) (by decide +kernel)⟩
theorem lw_p12 : lw_okq (⟨"CommitPrefixes$Coordinator", "preCommit", "(LCommitPrefixes$Run;)V"⟩, 7) := ⟨⟨by decide +kernel, by decide +kernel⟩, List.mem_of_getElem? (i := 110) (by decide +kernel), List.mem_of_getElem? (i := 504) (by decide +kernel), List.mem_of_getElem? (i := 505) (by decide +kernel)⟩
theorem lw_p13 : lw_okq (⟨"CommitPrefixes$Coordinator", "tellsDecision", "()Z"⟩, 7) := ⟨⟨by decide +kernel, by decide +kernel⟩, List.mem_of_getElem? (i := 110) (by decide +kernel), List.mem_of_getElem? (i := 508) (by decide +kernel), List.mem_of_getElem? (i := 509) (by decide +kernel)⟩
theorem lw_p14 : lw_okq (⟨"CommitPrefixes$Coordinator", "decision", "()I"⟩, 7) := ⟨⟨by decide +kernel, by decide +kernel⟩, List.mem_of_getElem? (i := 110) (by decide +kernel), List.mem_of_getElem? (i := 512) (by decide +kernel), List.mem_of_getElem? (i := 513) (by decide +kernel)⟩
theorem lw_p15 : lw_okq (⟨"CommitPrefixes$Participant", "sayYes", "(LCommitPrefixes$Run;)V"⟩, 6) := ⟨⟨by decide +kernel, by decide +kernel⟩, List.mem_of_getElem? (i := 165) (by decide +kernel), List.mem_of_getElem? (i := 529) (by decide +kernel), List.mem_of_getElem? (i := 530) (by decide +kernel)⟩
def lw_privs_1 : List (MethodName × Nat) := [(⟨"CommitPrefixes", "refuse", "(I)I"⟩, 13), (⟨"CommitPrefixes", "rowLack", "(I)I"⟩, 13), (⟨"CommitPrefixes$Shelf", "lowestBits", "(J)J"⟩, 8), (⟨"CommitPrefixes", "copyLack", "(II)I"⟩, 13), (⟨"CommitPrefixes", "current", "()LCommitPrefixes$Run;"⟩, 13), (⟨"CommitPrefixes$Run", "comeUp", "()V"⟩, 17), (⟨"CommitPrefixes$Coordinator", "turnTo", "(II)V"⟩, 7), (⟨"CommitPrefixes$Coordinator", "decideAbort", "(LCommitPrefixes$Run;)V"⟩, 7), (⟨"CommitPrefixes$Run", "goDown", "()V"⟩, 17), (⟨"CommitPrefixes$Run", "deliver", "(II)V"⟩, 17), (⟨"CommitPrefixes$Coordinator", "allCounted", "(LCommitPrefixes$Run;I)Z"⟩, 7), (⟨"CommitPrefixes$Coordinator", "decideCommit", "(LCommitPrefixes$Run;)V"⟩, 7), (⟨"CommitPrefixes$Coordinator", "preCommit", "(LCommitPrefixes$Run;)V"⟩, 7), (⟨"CommitPrefixes$Coordinator", "tellsDecision", "()Z"⟩, 7), (⟨"CommitPrefixes$Coordinator", "decision", "()I"⟩, 7), (⟨"CommitPrefixes$Participant", "sayYes", "(LCommitPrefixes$Run;)V"⟩, 6)]
theorem lw_r1 : ∀ q ∈ lw_privs_1, lw_okq q := List.forall_mem_cons.mpr ⟨lw_p0, List.forall_mem_cons.mpr ⟨lw_p1, List.forall_mem_cons.mpr ⟨lw_p2, List.forall_mem_cons.mpr ⟨lw_p3, List.forall_mem_cons.mpr ⟨lw_p4, List.forall_mem_cons.mpr ⟨lw_p5, List.forall_mem_cons.mpr ⟨lw_p6, List.forall_mem_cons.mpr ⟨lw_p7, List.forall_mem_cons.mpr ⟨lw_p8, List.forall_mem_cons.mpr ⟨lw_p9, List.forall_mem_cons.mpr ⟨lw_p10, List.forall_mem_cons.mpr ⟨lw_p11, List.forall_mem_cons.mpr ⟨lw_p12, List.forall_mem_cons.mpr ⟨lw_p13, List.forall_mem_cons.mpr ⟨lw_p14, List.forall_mem_cons.mpr ⟨lw_p15, fun _ h => absurd h List.not_mem_nil⟩⟩⟩⟩⟩⟩⟩⟩⟩⟩⟩⟩⟩⟩⟩⟩
theorem lw_p16 : lw_okq (⟨"CommitPrefixes$Participant", "settle", "(I)V"⟩, 6) := ⟨⟨by decide +kernel, by decide +kernel⟩, List.mem_of_getElem? (i := 165) (by decide +kernel), List.mem_of_getElem? (i := 534) (by decide +kernel), List.mem_of_getElem? (i := 535) (by decide +kernel)⟩
theorem lw_p17 : lw_okq (⟨"CommitPrefixes$Participant", "hearPre", "(LCommitPrefixes$Run;)V"⟩, 6) := ⟨⟨by decide +kernel, by decide +kernel⟩, List.mem_of_getElem? (i := 165) (by decide +kernel), List.mem_of_getElem? (i := 538) (by decide +kernel), List.mem_of_getElem? (i := 539) (by decide +kernel)⟩
theorem lw_p18 : lw_okq (⟨"CommitPrefixes$Participant", "isSettled", "()Z"⟩, 6) := ⟨⟨by decide +kernel, by decide +kernel⟩, List.mem_of_getElem? (i := 165) (by decide +kernel), List.mem_of_getElem? (i := 542) (by decide +kernel), List.mem_of_getElem? (i := 543) (by decide +kernel)⟩
theorem lw_p19 : lw_okq (⟨"CommitPrefixes$Run", "endWaits", "()V"⟩, 17) := ⟨⟨by decide +kernel, by decide +kernel⟩, List.mem_of_getElem? (i := 104) (by decide +kernel), List.mem_of_getElem? (i := 546) (by decide +kernel), List.mem_of_getElem? (i := 547) (by decide +kernel)⟩
theorem lw_p20 : lw_okq (⟨"CommitPrefixes$Run", "keepMoment", "()V"⟩, 17) := ⟨⟨by decide +kernel, by decide +kernel⟩, List.mem_of_getElem? (i := 104) (by decide +kernel), List.mem_of_getElem? (i := 563) (by decide +kernel), List.mem_of_getElem? (i := 564) (by decide +kernel)⟩
theorem lw_p21 : lw_okq (⟨"CommitPrefixes$Run", "isAnythingAhead", "()Z"⟩, 17) := ⟨⟨by decide +kernel, by decide +kernel⟩, List.mem_of_getElem? (i := 104) (by decide +kernel), List.mem_of_getElem? (i := 567) (by decide +kernel), List.mem_of_getElem? (i := 568) (by decide +kernel)⟩
theorem lw_p22 : lw_okq (⟨"CommitPrefixes$TextReader", "readItem", "(LCommitPrefixes$Shelf;)Z"⟩, 4) := ⟨⟨by decide +kernel, by decide +kernel⟩, List.mem_of_getElem? (i := 81) (by decide +kernel), List.mem_of_getElem? (i := 613) (by decide +kernel), List.mem_of_getElem? (i := 614) (by decide +kernel)⟩
theorem lw_p23 : lw_okq (⟨"CommitPrefixes$TextReader", "readWord", "(LCommitPrefixes$Shelf;)LCommitPrefixes$Item;"⟩, 4) := ⟨⟨by decide +kernel, by decide +kernel⟩, List.mem_of_getElem? (i := 81) (by decide +kernel), List.mem_of_getElem? (i := 617) (by decide +kernel), List.mem_of_getElem? (i := 618) (by decide +kernel)⟩
theorem lw_p24 : lw_okq (⟨"CommitPrefixes$TextReader", "sameLetters", "(LCommitPrefixes$Shelf;Ljava/lang/String;)I"⟩, 4) := ⟨⟨by decide +kernel, by decide +kernel⟩, List.mem_of_getElem? (i := 81) (by decide +kernel), List.mem_of_getElem? (i := 623) (by decide +kernel), List.mem_of_getElem? (i := 624) (by decide +kernel)⟩
theorem lw_p25 : lw_okq (⟨"CommitPrefixes$TextReader", "stands", "(LCommitPrefixes$Shelf;II)Z"⟩, 4) := ⟨⟨by decide +kernel, by decide +kernel⟩, List.mem_of_getElem? (i := 81) (by decide +kernel), List.mem_of_getElem? (i := 675) (by decide +kernel), List.mem_of_getElem? (i := 676) (by decide +kernel)⟩
theorem lw_p26 : lw_okq (⟨"CommitPrefixes$TextReader", "readSign", "(LCommitPrefixes$Shelf;I)Z"⟩, 4) := ⟨⟨by decide +kernel, by decide +kernel⟩, List.mem_of_getElem? (i := 81) (by decide +kernel), List.mem_of_getElem? (i := 687) (by decide +kernel), List.mem_of_getElem? (i := 688) (by decide +kernel)⟩
theorem lw_p27 : lw_okq (⟨"CommitPrefixes$TextReader", "lowest", "(LCommitPrefixes$Item;I)I"⟩, 4) := ⟨⟨by decide +kernel, by decide +kernel⟩, List.mem_of_getElem? (i := 81) (by decide +kernel), List.mem_of_getElem? (i := 691) (by decide +kernel), List.mem_of_getElem? (i := 692) (by decide +kernel)⟩
theorem lw_p28 : lw_okq (⟨"CommitPrefixes$TextReader", "highest", "(LCommitPrefixes$Item;I)I"⟩, 4) := ⟨⟨by decide +kernel, by decide +kernel⟩, List.mem_of_getElem? (i := 81) (by decide +kernel), List.mem_of_getElem? (i := 695) (by decide +kernel), List.mem_of_getElem? (i := 696) (by decide +kernel)⟩
theorem lw_p29 : lw_okq (⟨"CommitPrefixes$TextReader", "readNumber", "(LCommitPrefixes$Shelf;III)Z"⟩, 4) := ⟨⟨by decide +kernel, by decide +kernel⟩, List.mem_of_getElem? (i := 81) (by decide +kernel), List.mem_of_getElem? (i := 699) (by decide +kernel), List.mem_of_getElem? (i := 700) (by decide +kernel)⟩
theorem lw_p30 : lw_okq (⟨"CommitPrefixes$TextReader", "isDigit", "(LCommitPrefixes$Shelf;I)Z"⟩, 4) := ⟨⟨by decide +kernel, by decide +kernel⟩, List.mem_of_getElem? (i := 81) (by decide +kernel), List.mem_of_getElem? (i := 703) (by decide +kernel), List.mem_of_getElem? (i := 704) (by decide +kernel)⟩
theorem lw_p31 : lw_okq (⟨"CommitPrefixes", "forgetRuns", "()V"⟩, 13) := ⟨⟨by decide +kernel, by decide +kernel⟩, List.mem_of_getElem? (i := 22) (by decide +kernel), List.mem_of_getElem? (i := 738) (by decide +kernel), List.mem_of_getElem? (i := 739) (by decide +kernel)⟩
def lw_privs_2 : List (MethodName × Nat) := [(⟨"CommitPrefixes$Participant", "settle", "(I)V"⟩, 6), (⟨"CommitPrefixes$Participant", "hearPre", "(LCommitPrefixes$Run;)V"⟩, 6), (⟨"CommitPrefixes$Participant", "isSettled", "()Z"⟩, 6), (⟨"CommitPrefixes$Run", "endWaits", "()V"⟩, 17), (⟨"CommitPrefixes$Run", "keepMoment", "()V"⟩, 17), (⟨"CommitPrefixes$Run", "isAnythingAhead", "()Z"⟩, 17), (⟨"CommitPrefixes$TextReader", "readItem", "(LCommitPrefixes$Shelf;)Z"⟩, 4), (⟨"CommitPrefixes$TextReader", "readWord", "(LCommitPrefixes$Shelf;)LCommitPrefixes$Item;"⟩, 4), (⟨"CommitPrefixes$TextReader", "sameLetters", "(LCommitPrefixes$Shelf;Ljava/lang/String;)I"⟩, 4), (⟨"CommitPrefixes$TextReader", "stands", "(LCommitPrefixes$Shelf;II)Z"⟩, 4), (⟨"CommitPrefixes$TextReader", "readSign", "(LCommitPrefixes$Shelf;I)Z"⟩, 4), (⟨"CommitPrefixes$TextReader", "lowest", "(LCommitPrefixes$Item;I)I"⟩, 4), (⟨"CommitPrefixes$TextReader", "highest", "(LCommitPrefixes$Item;I)I"⟩, 4), (⟨"CommitPrefixes$TextReader", "readNumber", "(LCommitPrefixes$Shelf;III)Z"⟩, 4), (⟨"CommitPrefixes$TextReader", "isDigit", "(LCommitPrefixes$Shelf;I)Z"⟩, 4), (⟨"CommitPrefixes", "forgetRuns", "()V"⟩, 13)]
theorem lw_r2 : ∀ q ∈ lw_privs_2, lw_okq q := List.forall_mem_cons.mpr ⟨lw_p16, List.forall_mem_cons.mpr ⟨lw_p17, List.forall_mem_cons.mpr ⟨lw_p18, List.forall_mem_cons.mpr ⟨lw_p19, List.forall_mem_cons.mpr ⟨lw_p20, List.forall_mem_cons.mpr ⟨lw_p21, List.forall_mem_cons.mpr ⟨lw_p22, List.forall_mem_cons.mpr ⟨lw_p23, List.forall_mem_cons.mpr ⟨lw_p24, List.forall_mem_cons.mpr ⟨lw_p25, List.forall_mem_cons.mpr ⟨lw_p26, List.forall_mem_cons.mpr ⟨lw_p27, List.forall_mem_cons.mpr ⟨lw_p28, List.forall_mem_cons.mpr ⟨lw_p29, List.forall_mem_cons.mpr ⟨lw_p30, List.forall_mem_cons.mpr ⟨lw_p31, fun _ h => absurd h List.not_mem_nil⟩⟩⟩⟩⟩⟩⟩⟩⟩⟩⟩⟩⟩⟩⟩⟩
theorem lw_p32 : lw_okq (⟨"CommitPrefixes", "momentLack", "(II)I"⟩, 13) := ⟨⟨by decide +kernel, by decide +kernel⟩, List.mem_of_getElem? (i := 22) (by decide +kernel), List.mem_of_getElem? (i := 827) (by decide +kernel), List.mem_of_getElem? (i := 828) (by decide +kernel)⟩
theorem lw_p33 : lw_okq (⟨"CommitPrefixes", "isSite", "(I)Z"⟩, 13) := ⟨⟨by decide +kernel, by decide +kernel⟩, List.mem_of_getElem? (i := 22) (by decide +kernel), List.mem_of_getElem? (i := 831) (by decide +kernel), List.mem_of_getElem? (i := 832) (by decide +kernel)⟩
theorem lw_p34 : lw_okq (⟨"CommitPrefixes$Run", "moment", "(II)I"⟩, 17) := ⟨⟨by decide +kernel, by decide +kernel⟩, List.mem_of_getElem? (i := 104) (by decide +kernel), List.mem_of_getElem? (i := 839) (by decide +kernel), List.mem_of_getElem? (i := 840) (by decide +kernel)⟩
theorem lw_p35 : lw_okq (⟨"CommitPrefixes$Run", "isSameAsBefore", "(I)Z"⟩, 17) := ⟨⟨by decide +kernel, by decide +kernel⟩, List.mem_of_getElem? (i := 104) (by decide +kernel), List.mem_of_getElem? (i := 906) (by decide +kernel), List.mem_of_getElem? (i := 907) (by decide +kernel)⟩
theorem lw_p36 : lw_okq (⟨"CommitPrefixes", "tryLosses", "(LCommitPrefixes$Run;)V"⟩, 13) := ⟨⟨by decide +kernel, by decide +kernel⟩, List.mem_of_getElem? (i := 22) (by decide +kernel), List.mem_of_getElem? (i := 914) (by decide +kernel), List.mem_of_getElem? (i := 915) (by decide +kernel)⟩
theorem lw_p37 : lw_okq (⟨"CommitPrefixes", "judgeLack", "(III)I"⟩, 13) := ⟨⟨by decide +kernel, by decide +kernel⟩, List.mem_of_getElem? (i := 22) (by decide +kernel), List.mem_of_getElem? (i := 943) (by decide +kernel), List.mem_of_getElem? (i := 944) (by decide +kernel)⟩
theorem lw_p38 : lw_okq (⟨"CommitPrefixesModel", "no", "(I)I"⟩, 43) := ⟨⟨by decide +kernel, by decide +kernel⟩, List.mem_of_getElem? (i := 952) (by decide +kernel), List.mem_of_getElem? (i := 1098) (by decide +kernel), List.mem_of_getElem? (i := 1099) (by decide +kernel)⟩
theorem lw_p39 : lw_okq (⟨"CommitPrefixesModel", "notRow", "(I)I"⟩, 43) := ⟨⟨by decide +kernel, by decide +kernel⟩, List.mem_of_getElem? (i := 952) (by decide +kernel), List.mem_of_getElem? (i := 1106) (by decide +kernel), List.mem_of_getElem? (i := 1107) (by decide +kernel)⟩
theorem lw_p40 : lw_okq (⟨"CommitPrefixesModel", "notCopied", "(IIIII)I"⟩, 43) := ⟨⟨by decide +kernel, by decide +kernel⟩, List.mem_of_getElem? (i := 952) (by decide +kernel), List.mem_of_getElem? (i := 1117) (by decide +kernel), List.mem_of_getElem? (i := 1118) (by decide +kernel)⟩
theorem lw_p41 : lw_okq (⟨"CommitPrefixesModel", "isRow", "(I)Z"⟩, 43) := ⟨⟨by decide +kernel, by decide +kernel⟩, List.mem_of_getElem? (i := 952) (by decide +kernel), List.mem_of_getElem? (i := 1125) (by decide +kernel), List.mem_of_getElem? (i := 1126) (by decide +kernel)⟩
theorem lw_p42 : lw_okq (⟨"CommitPrefixesModel", "runs", "()V"⟩, 43) := ⟨⟨by decide +kernel, by decide +kernel⟩, List.mem_of_getElem? (i := 952) (by decide +kernel), List.mem_of_getElem? (i := 1133) (by decide +kernel), List.mem_of_getElem? (i := 1134) (by decide +kernel)⟩
theorem lw_p43 : lw_okq (⟨"CommitPrefixesModel", "goesTick", "()V"⟩, 43) := ⟨⟨by decide +kernel, by decide +kernel⟩, List.mem_of_getElem? (i := 952) (by decide +kernel), List.mem_of_getElem? (i := 1137) (by decide +kernel), List.mem_of_getElem? (i := 1138) (by decide +kernel)⟩
theorem lw_p44 : lw_okq (⟨"CommitPrefixesModel", "goesSites", "()V"⟩, 43) := ⟨⟨by decide +kernel, by decide +kernel⟩, List.mem_of_getElem? (i := 952) (by decide +kernel), List.mem_of_getElem? (i := 1141) (by decide +kernel), List.mem_of_getElem? (i := 1142) (by decide +kernel)⟩
theorem lw_p45 : lw_okq (⟨"CommitPrefixesModel", "recovers", "(I)V"⟩, 43) := ⟨⟨by decide +kernel, by decide +kernel⟩, List.mem_of_getElem? (i := 952) (by decide +kernel), List.mem_of_getElem? (i := 1145) (by decide +kernel), List.mem_of_getElem? (i := 1146) (by decide +kernel)⟩
theorem lw_p46 : lw_okq (⟨"CommitPrefixesModel", "recoversCoordinator", "()V"⟩, 43) := ⟨⟨by decide +kernel, by decide +kernel⟩, List.mem_of_getElem? (i := 952) (by decide +kernel), List.mem_of_getElem? (i := 1149) (by decide +kernel), List.mem_of_getElem? (i := 1150) (by decide +kernel)⟩
theorem lw_p47 : lw_okq (⟨"CommitPrefixesModel", "lastOf", "(II)I"⟩, 43) := ⟨⟨by decide +kernel, by decide +kernel⟩, List.mem_of_getElem? (i := 952) (by decide +kernel), List.mem_of_getElem? (i := 1153) (by decide +kernel), List.mem_of_getElem? (i := 1154) (by decide +kernel)⟩
def lw_privs_3 : List (MethodName × Nat) := [(⟨"CommitPrefixes", "momentLack", "(II)I"⟩, 13), (⟨"CommitPrefixes", "isSite", "(I)Z"⟩, 13), (⟨"CommitPrefixes$Run", "moment", "(II)I"⟩, 17), (⟨"CommitPrefixes$Run", "isSameAsBefore", "(I)Z"⟩, 17), (⟨"CommitPrefixes", "tryLosses", "(LCommitPrefixes$Run;)V"⟩, 13), (⟨"CommitPrefixes", "judgeLack", "(III)I"⟩, 13), (⟨"CommitPrefixesModel", "no", "(I)I"⟩, 43), (⟨"CommitPrefixesModel", "notRow", "(I)I"⟩, 43), (⟨"CommitPrefixesModel", "notCopied", "(IIIII)I"⟩, 43), (⟨"CommitPrefixesModel", "isRow", "(I)Z"⟩, 43), (⟨"CommitPrefixesModel", "runs", "()V"⟩, 43), (⟨"CommitPrefixesModel", "goesTick", "()V"⟩, 43), (⟨"CommitPrefixesModel", "goesSites", "()V"⟩, 43), (⟨"CommitPrefixesModel", "recovers", "(I)V"⟩, 43), (⟨"CommitPrefixesModel", "recoversCoordinator", "()V"⟩, 43), (⟨"CommitPrefixesModel", "lastOf", "(II)I"⟩, 43)]
theorem lw_r3 : ∀ q ∈ lw_privs_3, lw_okq q := List.forall_mem_cons.mpr ⟨lw_p32, List.forall_mem_cons.mpr ⟨lw_p33, List.forall_mem_cons.mpr ⟨lw_p34, List.forall_mem_cons.mpr ⟨lw_p35, List.forall_mem_cons.mpr ⟨lw_p36, List.forall_mem_cons.mpr ⟨lw_p37, List.forall_mem_cons.mpr ⟨lw_p38, List.forall_mem_cons.mpr ⟨lw_p39, List.forall_mem_cons.mpr ⟨lw_p40, List.forall_mem_cons.mpr ⟨lw_p41, List.forall_mem_cons.mpr ⟨lw_p42, List.forall_mem_cons.mpr ⟨lw_p43, List.forall_mem_cons.mpr ⟨lw_p44, List.forall_mem_cons.mpr ⟨lw_p45, List.forall_mem_cons.mpr ⟨lw_p46, List.forall_mem_cons.mpr ⟨lw_p47, fun _ h => absurd h List.not_mem_nil⟩⟩⟩⟩⟩⟩⟩⟩⟩⟩⟩⟩⟩⟩⟩⟩
theorem lw_p48 : lw_okq (⟨"CommitPrefixesModel", "sendsAll", "(I)V"⟩, 43) := ⟨⟨by decide +kernel, by decide +kernel⟩, List.mem_of_getElem? (i := 952) (by decide +kernel), List.mem_of_getElem? (i := 1157) (by decide +kernel), List.mem_of_getElem? (i := 1158) (by decide +kernel)⟩
theorem lw_p49 : lw_okq (⟨"CommitPrefixesModel", "sends", "(III)V"⟩, 43) := ⟨⟨by decide +kernel, by decide +kernel⟩, List.mem_of_getElem? (i := 952) (by decide +kernel), List.mem_of_getElem? (i := 1161) (by decide +kernel), List.mem_of_getElem? (i := 1162) (by decide +kernel)⟩
theorem lw_p50 : lw_okq (⟨"CommitPrefixesModel", "startsTimer", "(I)V"⟩, 43) := ⟨⟨by decide +kernel, by decide +kernel⟩, List.mem_of_getElem? (i := 952) (by decide +kernel), List.mem_of_getElem? (i := 1165) (by decide +kernel), List.mem_of_getElem? (i := 1166) (by decide +kernel)⟩
theorem lw_p51 : lw_okq (⟨"CommitPrefixesModel", "decidesAbort", "()V"⟩, 43) := ⟨⟨by decide +kernel, by decide +kernel⟩, List.mem_of_getElem? (i := 952) (by decide +kernel), List.mem_of_getElem? (i := 1169) (by decide +kernel), List.mem_of_getElem? (i := 1170) (by decide +kernel)⟩
theorem lw_p52 : lw_okq (⟨"CommitPrefixesModel", "notes", "(II)V"⟩, 43) := ⟨⟨by decide +kernel, by decide +kernel⟩, List.mem_of_getElem? (i := 952) (by decide +kernel), List.mem_of_getElem? (i := 1173) (by decide +kernel), List.mem_of_getElem? (i := 1174) (by decide +kernel)⟩
theorem lw_p53 : lw_okq (⟨"CommitPrefixesModel", "recoversParticipant", "(I)V"⟩, 43) := ⟨⟨by decide +kernel, by decide +kernel⟩, List.mem_of_getElem? (i := 952) (by decide +kernel), List.mem_of_getElem? (i := 1177) (by decide +kernel), List.mem_of_getElem? (i := 1178) (by decide +kernel)⟩
theorem lw_p54 : lw_okq (⟨"CommitPrefixesModel", "arrives", "(I)V"⟩, 43) := ⟨⟨by decide +kernel, by decide +kernel⟩, List.mem_of_getElem? (i := 952) (by decide +kernel), List.mem_of_getElem? (i := 1181) (by decide +kernel), List.mem_of_getElem? (i := 1182) (by decide +kernel)⟩
theorem lw_p55 : lw_okq (⟨"CommitPrefixesModel", "comesToCoordinator", "(II)V"⟩, 43) := ⟨⟨by decide +kernel, by decide +kernel⟩, List.mem_of_getElem? (i := 952) (by decide +kernel), List.mem_of_getElem? (i := 1185) (by decide +kernel), List.mem_of_getElem? (i := 1186) (by decide +kernel)⟩
theorem lw_p56 : lw_okq (⟨"CommitPrefixesModel", "countsAll", "(II)Z"⟩, 43) := ⟨⟨by decide +kernel, by decide +kernel⟩, List.mem_of_getElem? (i := 952) (by decide +kernel), List.mem_of_getElem? (i := 1189) (by decide +kernel), List.mem_of_getElem? (i := 1190) (by decide +kernel)⟩
theorem lw_p57 : lw_okq (⟨"CommitPrefixesModel", "decidesCommit", "()V"⟩, 43) := ⟨⟨by decide +kernel, by decide +kernel⟩, List.mem_of_getElem? (i := 952) (by decide +kernel), List.mem_of_getElem? (i := 1193) (by decide +kernel), List.mem_of_getElem? (i := 1194) (by decide +kernel)⟩
theorem lw_p58 : lw_okq (⟨"CommitPrefixesModel", "becomesPre", "()V"⟩, 43) := ⟨⟨by decide +kernel, by decide +kernel⟩, List.mem_of_getElem? (i := 952) (by decide +kernel), List.mem_of_getElem? (i := 1197) (by decide +kernel), List.mem_of_getElem? (i := 1198) (by decide +kernel)⟩
theorem lw_p59 : lw_okq (⟨"CommitPrefixesModel", "hasDecided", "()Z"⟩, 43) := ⟨⟨by decide +kernel, by decide +kernel⟩, List.mem_of_getElem? (i := 952) (by decide +kernel), List.mem_of_getElem? (i := 1201) (by decide +kernel), List.mem_of_getElem? (i := 1202) (by decide +kernel)⟩
theorem lw_p60 : lw_okq (⟨"CommitPrefixesModel", "ends", "()V"⟩, 43) := ⟨⟨by decide +kernel, by decide +kernel⟩, List.mem_of_getElem? (i := 952) (by decide +kernel), List.mem_of_getElem? (i := 1205) (by decide +kernel), List.mem_of_getElem? (i := 1206) (by decide +kernel)⟩
theorem lw_p61 : lw_okq (⟨"CommitPrefixesModel", "comesToParticipant", "(III)V"⟩, 43) := ⟨⟨by decide +kernel, by decide +kernel⟩, List.mem_of_getElem? (i := 952) (by decide +kernel), List.mem_of_getElem? (i := 1209) (by decide +kernel), List.mem_of_getElem? (i := 1210) (by decide +kernel)⟩
theorem lw_p62 : lw_okq (⟨"CommitPrefixesModel", "comesPrepare", "(I)V"⟩, 43) := ⟨⟨by decide +kernel, by decide +kernel⟩, List.mem_of_getElem? (i := 952) (by decide +kernel), List.mem_of_getElem? (i := 1213) (by decide +kernel), List.mem_of_getElem? (i := 1214) (by decide +kernel)⟩
theorem lw_p63 : lw_okq (⟨"CommitPrefixesModel", "comesPre", "(I)V"⟩, 43) := ⟨⟨by decide +kernel, by decide +kernel⟩, List.mem_of_getElem? (i := 952) (by decide +kernel), List.mem_of_getElem? (i := 1217) (by decide +kernel), List.mem_of_getElem? (i := 1218) (by decide +kernel)⟩
def lw_privs_4 : List (MethodName × Nat) := [(⟨"CommitPrefixesModel", "sendsAll", "(I)V"⟩, 43), (⟨"CommitPrefixesModel", "sends", "(III)V"⟩, 43), (⟨"CommitPrefixesModel", "startsTimer", "(I)V"⟩, 43), (⟨"CommitPrefixesModel", "decidesAbort", "()V"⟩, 43), (⟨"CommitPrefixesModel", "notes", "(II)V"⟩, 43), (⟨"CommitPrefixesModel", "recoversParticipant", "(I)V"⟩, 43), (⟨"CommitPrefixesModel", "arrives", "(I)V"⟩, 43), (⟨"CommitPrefixesModel", "comesToCoordinator", "(II)V"⟩, 43), (⟨"CommitPrefixesModel", "countsAll", "(II)Z"⟩, 43), (⟨"CommitPrefixesModel", "decidesCommit", "()V"⟩, 43), (⟨"CommitPrefixesModel", "becomesPre", "()V"⟩, 43), (⟨"CommitPrefixesModel", "hasDecided", "()Z"⟩, 43), (⟨"CommitPrefixesModel", "ends", "()V"⟩, 43), (⟨"CommitPrefixesModel", "comesToParticipant", "(III)V"⟩, 43), (⟨"CommitPrefixesModel", "comesPrepare", "(I)V"⟩, 43), (⟨"CommitPrefixesModel", "comesPre", "(I)V"⟩, 43)]
theorem lw_r4 : ∀ q ∈ lw_privs_4, lw_okq q := List.forall_mem_cons.mpr ⟨lw_p48, List.forall_mem_cons.mpr ⟨lw_p49, List.forall_mem_cons.mpr ⟨lw_p50, List.forall_mem_cons.mpr ⟨lw_p51, List.forall_mem_cons.mpr ⟨lw_p52, List.forall_mem_cons.mpr ⟨lw_p53, List.forall_mem_cons.mpr ⟨lw_p54, List.forall_mem_cons.mpr ⟨lw_p55, List.forall_mem_cons.mpr ⟨lw_p56, List.forall_mem_cons.mpr ⟨lw_p57, List.forall_mem_cons.mpr ⟨lw_p58, List.forall_mem_cons.mpr ⟨lw_p59, List.forall_mem_cons.mpr ⟨lw_p60, List.forall_mem_cons.mpr ⟨lw_p61, List.forall_mem_cons.mpr ⟨lw_p62, List.forall_mem_cons.mpr ⟨lw_p63, fun _ h => absurd h List.not_mem_nil⟩⟩⟩⟩⟩⟩⟩⟩⟩⟩⟩⟩⟩⟩⟩⟩
theorem lw_p64 : lw_okq (⟨"CommitPrefixesModel", "comesDecision", "(II)V"⟩, 43) := ⟨⟨by decide +kernel, by decide +kernel⟩, List.mem_of_getElem? (i := 952) (by decide +kernel), List.mem_of_getElem? (i := 1221) (by decide +kernel), List.mem_of_getElem? (i := 1222) (by decide +kernel)⟩
theorem lw_p65 : lw_okq (⟨"CommitPrefixesModel", "comesAsk", "(II)V"⟩, 43) := ⟨⟨by decide +kernel, by decide +kernel⟩, List.mem_of_getElem? (i := 952) (by decide +kernel), List.mem_of_getElem? (i := 1225) (by decide +kernel), List.mem_of_getElem? (i := 1226) (by decide +kernel)⟩
theorem lw_p66 : lw_okq (⟨"CommitPrefixesModel", "beginsCoordinator", "()V"⟩, 43) := ⟨⟨by decide +kernel, by decide +kernel⟩, List.mem_of_getElem? (i := 952) (by decide +kernel), List.mem_of_getElem? (i := 1229) (by decide +kernel), List.mem_of_getElem? (i := 1230) (by decide +kernel)⟩
theorem lw_p67 : lw_okq (⟨"CommitPrefixesModel", "timesOut", "(I)V"⟩, 43) := ⟨⟨by decide +kernel, by decide +kernel⟩, List.mem_of_getElem? (i := 952) (by decide +kernel), List.mem_of_getElem? (i := 1233) (by decide +kernel), List.mem_of_getElem? (i := 1234) (by decide +kernel)⟩
theorem lw_p68 : lw_okq (⟨"CommitPrefixesModel", "timesOutCoordinator", "()V"⟩, 43) := ⟨⟨by decide +kernel, by decide +kernel⟩, List.mem_of_getElem? (i := 952) (by decide +kernel), List.mem_of_getElem? (i := 1237) (by decide +kernel), List.mem_of_getElem? (i := 1238) (by decide +kernel)⟩
theorem lw_p69 : lw_okq (⟨"CommitPrefixesModel", "timesOutParticipant", "(I)V"⟩, 43) := ⟨⟨by decide +kernel, by decide +kernel⟩, List.mem_of_getElem? (i := 952) (by decide +kernel), List.mem_of_getElem? (i := 1241) (by decide +kernel), List.mem_of_getElem? (i := 1242) (by decide +kernel)⟩
theorem lw_p70 : lw_okq (⟨"CommitPrefixesModel", "asksAll", "(I)V"⟩, 43) := ⟨⟨by decide +kernel, by decide +kernel⟩, List.mem_of_getElem? (i := 952) (by decide +kernel), List.mem_of_getElem? (i := 1245) (by decide +kernel), List.mem_of_getElem? (i := 1246) (by decide +kernel)⟩
theorem lw_p71 : lw_okq (⟨"CommitPrefixesModel", "readsAll", "()Z"⟩, 43) := ⟨⟨by decide +kernel, by decide +kernel⟩, List.mem_of_getElem? (i := 952) (by decide +kernel), List.mem_of_getElem? (i := 1264) (by decide +kernel), List.mem_of_getElem? (i := 1265) (by decide +kernel)⟩
theorem lw_p72 : lw_okq (⟨"CommitPrefixesModel", "readsItem", "()Z"⟩, 43) := ⟨⟨by decide +kernel, by decide +kernel⟩, List.mem_of_getElem? (i := 952) (by decide +kernel), List.mem_of_getElem? (i := 1268) (by decide +kernel), List.mem_of_getElem? (i := 1269) (by decide +kernel)⟩
theorem lw_p73 : lw_okq (⟨"CommitPrefixesModel", "readsWord", "()I"⟩, 43) := ⟨⟨by decide +kernel, by decide +kernel⟩, List.mem_of_getElem? (i := 952) (by decide +kernel), List.mem_of_getElem? (i := 1272) (by decide +kernel), List.mem_of_getElem? (i := 1273) (by decide +kernel)⟩
theorem lw_p74 : lw_okq (⟨"CommitPrefixesModel", "matches", "(I)I"⟩, 43) := ⟨⟨by decide +kernel, by decide +kernel⟩, List.mem_of_getElem? (i := 952) (by decide +kernel), List.mem_of_getElem? (i := 1276) (by decide +kernel), List.mem_of_getElem? (i := 1277) (by decide +kernel)⟩
theorem lw_p75 : lw_okq (⟨"CommitPrefixesModel", "sign", "(I)I"⟩, 43) := ⟨⟨by decide +kernel, by decide +kernel⟩, List.mem_of_getElem? (i := 952) (by decide +kernel), List.mem_of_getElem? (i := 1283) (by decide +kernel), List.mem_of_getElem? (i := 1284) (by decide +kernel)⟩
theorem lw_p76 : lw_okq (⟨"CommitPrefixesModel", "readsFirst", "(II)Z"⟩, 43) := ⟨⟨by decide +kernel, by decide +kernel⟩, List.mem_of_getElem? (i := 952) (by decide +kernel), List.mem_of_getElem? (i := 1292) (by decide +kernel), List.mem_of_getElem? (i := 1293) (by decide +kernel)⟩
theorem lw_p77 : lw_okq (⟨"CommitPrefixesModel", "readsNumber", "(II)I"⟩, 43) := ⟨⟨by decide +kernel, by decide +kernel⟩, List.mem_of_getElem? (i := 952) (by decide +kernel), List.mem_of_getElem? (i := 1296) (by decide +kernel), List.mem_of_getElem? (i := 1297) (by decide +kernel)⟩
theorem lw_p78 : lw_okq (⟨"CommitPrefixesModel", "readsDown", "()Z"⟩, 43) := ⟨⟨by decide +kernel, by decide +kernel⟩, List.mem_of_getElem? (i := 952) (by decide +kernel), List.mem_of_getElem? (i := 1300) (by decide +kernel), List.mem_of_getElem? (i := 1301) (by decide +kernel)⟩
theorem lw_p79 : lw_okq (⟨"CommitPrefixesModel", "holdsItem", "(I)V"⟩, 43) := ⟨⟨by decide +kernel, by decide +kernel⟩, List.mem_of_getElem? (i := 952) (by decide +kernel), List.mem_of_getElem? (i := 1304) (by decide +kernel), List.mem_of_getElem? (i := 1305) (by decide +kernel)⟩
def lw_privs_5 : List (MethodName × Nat) := [(⟨"CommitPrefixesModel", "comesDecision", "(II)V"⟩, 43), (⟨"CommitPrefixesModel", "comesAsk", "(II)V"⟩, 43), (⟨"CommitPrefixesModel", "beginsCoordinator", "()V"⟩, 43), (⟨"CommitPrefixesModel", "timesOut", "(I)V"⟩, 43), (⟨"CommitPrefixesModel", "timesOutCoordinator", "()V"⟩, 43), (⟨"CommitPrefixesModel", "timesOutParticipant", "(I)V"⟩, 43), (⟨"CommitPrefixesModel", "asksAll", "(I)V"⟩, 43), (⟨"CommitPrefixesModel", "readsAll", "()Z"⟩, 43), (⟨"CommitPrefixesModel", "readsItem", "()Z"⟩, 43), (⟨"CommitPrefixesModel", "readsWord", "()I"⟩, 43), (⟨"CommitPrefixesModel", "matches", "(I)I"⟩, 43), (⟨"CommitPrefixesModel", "sign", "(I)I"⟩, 43), (⟨"CommitPrefixesModel", "readsFirst", "(II)Z"⟩, 43), (⟨"CommitPrefixesModel", "readsNumber", "(II)I"⟩, 43), (⟨"CommitPrefixesModel", "readsDown", "()Z"⟩, 43), (⟨"CommitPrefixesModel", "holdsItem", "(I)V"⟩, 43)]
theorem lw_r5 : ∀ q ∈ lw_privs_5, lw_okq q := List.forall_mem_cons.mpr ⟨lw_p64, List.forall_mem_cons.mpr ⟨lw_p65, List.forall_mem_cons.mpr ⟨lw_p66, List.forall_mem_cons.mpr ⟨lw_p67, List.forall_mem_cons.mpr ⟨lw_p68, List.forall_mem_cons.mpr ⟨lw_p69, List.forall_mem_cons.mpr ⟨lw_p70, List.forall_mem_cons.mpr ⟨lw_p71, List.forall_mem_cons.mpr ⟨lw_p72, List.forall_mem_cons.mpr ⟨lw_p73, List.forall_mem_cons.mpr ⟨lw_p74, List.forall_mem_cons.mpr ⟨lw_p75, List.forall_mem_cons.mpr ⟨lw_p76, List.forall_mem_cons.mpr ⟨lw_p77, List.forall_mem_cons.mpr ⟨lw_p78, List.forall_mem_cons.mpr ⟨lw_p79, fun _ h => absurd h List.not_mem_nil⟩⟩⟩⟩⟩⟩⟩⟩⟩⟩⟩⟩⟩⟩⟩⟩
theorem lw_p80 : lw_okq (⟨"CommitPrefixesModel", "setOf", "(Z)I"⟩, 43) := ⟨⟨by decide +kernel, by decide +kernel⟩, List.mem_of_getElem? (i := 952) (by decide +kernel), List.mem_of_getElem? (i := 1320) (by decide +kernel), List.mem_of_getElem? (i := 1321) (by decide +kernel)⟩
theorem lw_p81 : lw_okq (⟨"CommitPrefixesModel", "manyLosses", "()I"⟩, 43) := ⟨⟨by decide +kernel, by decide +kernel⟩, List.mem_of_getElem? (i := 952) (by decide +kernel), List.mem_of_getElem? (i := 1324) (by decide +kernel), List.mem_of_getElem? (i := 1325) (by decide +kernel)⟩
theorem lw_p82 : lw_okq (⟨"CommitPrefixesModel", "notThen", "(II)I"⟩, 43) := ⟨⟨by decide +kernel, by decide +kernel⟩, List.mem_of_getElem? (i := 952) (by decide +kernel), List.mem_of_getElem? (i := 1348) (by decide +kernel), List.mem_of_getElem? (i := 1349) (by decide +kernel)⟩
theorem lw_p83 : lw_okq (⟨"CommitPrefixesModel", "isSite", "(I)Z"⟩, 43) := ⟨⟨by decide +kernel, by decide +kernel⟩, List.mem_of_getElem? (i := 952) (by decide +kernel), List.mem_of_getElem? (i := 1352) (by decide +kernel), List.mem_of_getElem? (i := 1353) (by decide +kernel)⟩
theorem lw_p84 : lw_okq (⟨"CommitPrefixesModel", "decidedAt", "(II)I"⟩, 43) := ⟨⟨by decide +kernel, by decide +kernel⟩, List.mem_of_getElem? (i := 952) (by decide +kernel), List.mem_of_getElem? (i := 1363) (by decide +kernel), List.mem_of_getElem? (i := 1364) (by decide +kernel)⟩
theorem lw_p85 : lw_okq (⟨"CommitPrefixesModel", "hasNoted", "(III)Z"⟩, 43) := ⟨⟨by decide +kernel, by decide +kernel⟩, List.mem_of_getElem? (i := 952) (by decide +kernel), List.mem_of_getElem? (i := 1367) (by decide +kernel), List.mem_of_getElem? (i := 1368) (by decide +kernel)⟩
theorem lw_p86 : lw_okq (⟨"CommitPrefixesModel", "areAlike", "(I)Z"⟩, 43) := ⟨⟨by decide +kernel, by decide +kernel⟩, List.mem_of_getElem? (i := 952) (by decide +kernel), List.mem_of_getElem? (i := 1391) (by decide +kernel), List.mem_of_getElem? (i := 1392) (by decide +kernel)⟩
theorem lw_p87 : lw_okq (⟨"CommitPrefixesModel", "blockedNow", "()I"⟩, 43) := ⟨⟨by decide +kernel, by decide +kernel⟩, List.mem_of_getElem? (i := 952) (by decide +kernel), List.mem_of_getElem? (i := 1399) (by decide +kernel), List.mem_of_getElem? (i := 1400) (by decide +kernel)⟩
theorem lw_p88 : lw_okq (⟨"CommitPrefixesModel", "isAsLast", "(I)Z"⟩, 43) := ⟨⟨by decide +kernel, by decide +kernel⟩, List.mem_of_getElem? (i := 952) (by decide +kernel), List.mem_of_getElem? (i := 1407) (by decide +kernel), List.mem_of_getElem? (i := 1408) (by decide +kernel)⟩
theorem lw_p89 : lw_okq (⟨"CommitPrefixesModel", "lossesThat", "(IZ)I"⟩, 43) := ⟨⟨by decide +kernel, by decide +kernel⟩, List.mem_of_getElem? (i := 952) (by decide +kernel), List.mem_of_getElem? (i := 1415) (by decide +kernel), List.mem_of_getElem? (i := 1416) (by decide +kernel)⟩
theorem lw_p90 : lw_okq (⟨"CommitPrefixesModel", "recoveredBy", "(II)I"⟩, 43) := ⟨⟨by decide +kernel, by decide +kernel⟩, List.mem_of_getElem? (i := 952) (by decide +kernel), List.mem_of_getElem? (i := 1427) (by decide +kernel), List.mem_of_getElem? (i := 1428) (by decide +kernel)⟩
theorem lw_p91 : lw_okq (⟨"CommitPrefixesModel", "notJudged", "(III)I"⟩, 43) := ⟨⟨by decide +kernel, by decide +kernel⟩, List.mem_of_getElem? (i := 952) (by decide +kernel), List.mem_of_getElem? (i := 1439) (by decide +kernel), List.mem_of_getElem? (i := 1440) (by decide +kernel)⟩
theorem lw_p92 : lw_okq (⟨"CommitPrefixesModel", "draw", "(I)I"⟩, 43) := ⟨⟨by decide +kernel, by decide +kernel⟩, List.mem_of_getElem? (i := 952) (by decide +kernel), List.mem_of_getElem? (i := 1447) (by decide +kernel), List.mem_of_getElem? (i := 1448) (by decide +kernel)⟩
theorem lw_p93 : lw_okq (⟨"CommitPrefixesModel", "passesAll", "(Z)V"⟩, 43) := ⟨⟨by decide +kernel, by decide +kernel⟩, List.mem_of_getElem? (i := 952) (by decide +kernel), List.mem_of_getElem? (i := 1460) (by decide +kernel), List.mem_of_getElem? (i := 1461) (by decide +kernel)⟩
theorem lw_p94 : lw_okq (⟨"CommitPrefixesModel", "passes", "([I)V"⟩, 43) := ⟨⟨by decide +kernel, by decide +kernel⟩, List.mem_of_getElem? (i := 952) (by decide +kernel), List.mem_of_getElem? (i := 1464) (by decide +kernel), List.mem_of_getElem? (i := 1465) (by decide +kernel)⟩
theorem lw_p95 : lw_okq (⟨"CommitPrefixesModel", "passOne", "(I)I"⟩, 43) := ⟨⟨by decide +kernel, by decide +kernel⟩, List.mem_of_getElem? (i := 952) (by decide +kernel), List.mem_of_getElem? (i := 1468) (by decide +kernel), List.mem_of_getElem? (i := 1469) (by decide +kernel)⟩
def lw_privs_6 : List (MethodName × Nat) := [(⟨"CommitPrefixesModel", "setOf", "(Z)I"⟩, 43), (⟨"CommitPrefixesModel", "manyLosses", "()I"⟩, 43), (⟨"CommitPrefixesModel", "notThen", "(II)I"⟩, 43), (⟨"CommitPrefixesModel", "isSite", "(I)Z"⟩, 43), (⟨"CommitPrefixesModel", "decidedAt", "(II)I"⟩, 43), (⟨"CommitPrefixesModel", "hasNoted", "(III)Z"⟩, 43), (⟨"CommitPrefixesModel", "areAlike", "(I)Z"⟩, 43), (⟨"CommitPrefixesModel", "blockedNow", "()I"⟩, 43), (⟨"CommitPrefixesModel", "isAsLast", "(I)Z"⟩, 43), (⟨"CommitPrefixesModel", "lossesThat", "(IZ)I"⟩, 43), (⟨"CommitPrefixesModel", "recoveredBy", "(II)I"⟩, 43), (⟨"CommitPrefixesModel", "notJudged", "(III)I"⟩, 43), (⟨"CommitPrefixesModel", "draw", "(I)I"⟩, 43), (⟨"CommitPrefixesModel", "passesAll", "(Z)V"⟩, 43), (⟨"CommitPrefixesModel", "passes", "([I)V"⟩, 43), (⟨"CommitPrefixesModel", "passOne", "(I)I"⟩, 43)]
theorem lw_r6 : ∀ q ∈ lw_privs_6, lw_okq q := List.forall_mem_cons.mpr ⟨lw_p80, List.forall_mem_cons.mpr ⟨lw_p81, List.forall_mem_cons.mpr ⟨lw_p82, List.forall_mem_cons.mpr ⟨lw_p83, List.forall_mem_cons.mpr ⟨lw_p84, List.forall_mem_cons.mpr ⟨lw_p85, List.forall_mem_cons.mpr ⟨lw_p86, List.forall_mem_cons.mpr ⟨lw_p87, List.forall_mem_cons.mpr ⟨lw_p88, List.forall_mem_cons.mpr ⟨lw_p89, List.forall_mem_cons.mpr ⟨lw_p90, List.forall_mem_cons.mpr ⟨lw_p91, List.forall_mem_cons.mpr ⟨lw_p92, List.forall_mem_cons.mpr ⟨lw_p93, List.forall_mem_cons.mpr ⟨lw_p94, List.forall_mem_cons.mpr ⟨lw_p95, fun _ h => absurd h List.not_mem_nil⟩⟩⟩⟩⟩⟩⟩⟩⟩⟩⟩⟩⟩⟩⟩⟩
def lw_privs : List (MethodName × Nat) := lw_privs_1 ++ (lw_privs_2 ++ (lw_privs_3 ++ (lw_privs_4 ++ (lw_privs_5 ++ (lw_privs_6)))))
def lw_tbl : List Cond := k2_sels lw_privs ++ tables_1
theorem lw_privs_ok : ∀ q ∈ lw_privs, lw_okq q := by
  show ∀ q ∈ lw_privs_1 ++ (lw_privs_2 ++ (lw_privs_3 ++ (lw_privs_4 ++ (lw_privs_5 ++ (lw_privs_6))))), lw_okq q
  exact List.forall_mem_append.mpr ⟨lw_r1, List.forall_mem_append.mpr ⟨lw_r2, List.forall_mem_append.mpr ⟨lw_r3, List.forall_mem_append.mpr ⟨lw_r4, List.forall_mem_append.mpr ⟨lw_r5, lw_r6⟩⟩⟩⟩⟩
end
section
def RX0 : String := "CommitPrefixes$1"
def TX0 : u_T := fun k => match k with
  | _ => ("", "", "", false)
def tyX0 : Nat → FieldType := fun k => match k with
  | _ => .int
abbrev wsX00 : List Cond := u_ws RX0 TX0 0
theorem nmX0 : ∀ a, a < 0 → ∀ b, b < 0 → a ≠ b → (TX0 a).2.1 ≠ (TX0 b).2.1 := by decide +kernel
theorem tyX0_ok : ∀ k, k < 0 → parseFieldDescriptor (TX0 k).2.2.1 = some (tyX0 k) := by decide +kernel
def RX1 : String := "CommitPrefixes$Coordinator"
def TX1 : u_T := fun k => match k with
  | 0 => ("CommitPrefixes$Site", "number", "I", true)
  | 1 => ("CommitPrefixes$Site", "log", "[I", true)
  | 2 => ("CommitPrefixes$Site", "length", "I", false)
  | 3 => ("CommitPrefixes$Site", "up", "Z", false)
  | 4 => ("CommitPrefixes$Site", "state", "I", false)
  | 5 => ("CommitPrefixes$Site", "timer", "I", false)
  | _ => ("CommitPrefixes$Coordinator", "counted", "I", false)
def tyX1 : Nat → FieldType := fun k => match k with
  | 0 => .int
  | 1 => .array .int
  | 2 => .int
  | 3 => .boolean
  | 4 => .int
  | 5 => .int
  | _ => .int
abbrev wsX10 : List Cond := u_ws RX1 TX1 7
theorem nmX1 : ∀ a, a < 7 → ∀ b, b < 7 → a ≠ b → (TX1 a).2.1 ≠ (TX1 b).2.1 := by decide +kernel
theorem tyX1_ok : ∀ k, k < 7 → parseFieldDescriptor (TX1 k).2.2.1 = some (tyX1 k) := by decide +kernel
abbrev cX1_init : ByteArray := prog_3_method_1_code
def yX1_init : MethodName := ⟨RX1, "<init>", "()V"⟩
abbrev cX1_stateBehind : ByteArray := prog_3_method_2_code
def yX1_stateBehind : MethodName := ⟨RX1, "stateBehind", "(IZ)I"⟩
abbrev cX1_begin : ByteArray := prog_3_method_3_code
def yX1_begin : MethodName := ⟨RX1, "begin", "(LCommitPrefixes$Run;)V"⟩
abbrev cX1_recover : ByteArray := prog_3_method_4_code
def yX1_recover : MethodName := ⟨RX1, "recover", "(LCommitPrefixes$Run;)V"⟩
abbrev cX1_receive : ByteArray := prog_3_method_5_code
def yX1_receive : MethodName := ⟨RX1, "receive", "(LCommitPrefixes$Run;II)V"⟩
abbrev cX1_timeOut : ByteArray := prog_3_method_6_code
def yX1_timeOut : MethodName := ⟨RX1, "timeOut", "(LCommitPrefixes$Run;)V"⟩
abbrev cX1_preCommit : ByteArray := prog_3_method_7_code
def yX1_preCommit : MethodName := ⟨RX1, "preCommit", "(LCommitPrefixes$Run;)V"⟩
abbrev cX1_decideCommit : ByteArray := prog_3_method_8_code
def yX1_decideCommit : MethodName := ⟨RX1, "decideCommit", "(LCommitPrefixes$Run;)V"⟩
abbrev cX1_decideAbort : ByteArray := prog_3_method_9_code
def yX1_decideAbort : MethodName := ⟨RX1, "decideAbort", "(LCommitPrefixes$Run;)V"⟩
abbrev cX1_turnTo : ByteArray := prog_3_method_10_code
def yX1_turnTo : MethodName := ⟨RX1, "turnTo", "(II)V"⟩
abbrev cX1_allCounted : ByteArray := prog_3_method_11_code
def yX1_allCounted : MethodName := ⟨RX1, "allCounted", "(LCommitPrefixes$Run;I)Z"⟩
abbrev cX1_tellsDecision : ByteArray := prog_3_method_12_code
def yX1_tellsDecision : MethodName := ⟨RX1, "tellsDecision", "()Z"⟩
abbrev cX1_decision : ByteArray := prog_3_method_13_code
def yX1_decision : MethodName := ⟨RX1, "decision", "()I"⟩
def RX2 : String := "CommitPrefixes$Item"
def TX2 : u_T := fun k => match k with
  | _ => ("", "", "", false)
def tyX2 : Nat → FieldType := fun k => match k with
  | _ => .int
abbrev wsX20 : List Cond := u_ws RX2 TX2 0
theorem nmX2 : ∀ a, a < 0 → ∀ b, b < 0 → a ≠ b → (TX2 a).2.1 ≠ (TX2 b).2.1 := by decide +kernel
theorem tyX2_ok : ∀ k, k < 0 → parseFieldDescriptor (TX2 k).2.2.1 = some (tyX2 k) := by decide +kernel
def RX3 : String := "CommitPrefixes$Participant"
def TX3 : u_T := fun k => match k with
  | 0 => ("CommitPrefixes$Site", "number", "I", true)
  | 1 => ("CommitPrefixes$Site", "log", "[I", true)
  | 2 => ("CommitPrefixes$Site", "length", "I", false)
  | 3 => ("CommitPrefixes$Site", "up", "Z", false)
  | 4 => ("CommitPrefixes$Site", "state", "I", false)
  | _ => ("CommitPrefixes$Site", "timer", "I", false)
def tyX3 : Nat → FieldType := fun k => match k with
  | 0 => .int
  | 1 => .array .int
  | 2 => .int
  | 3 => .boolean
  | 4 => .int
  | _ => .int
abbrev wsX30 : List Cond := u_ws RX3 TX3 6
theorem nmX3 : ∀ a, a < 6 → ∀ b, b < 6 → a ≠ b → (TX3 a).2.1 ≠ (TX3 b).2.1 := by decide +kernel
theorem tyX3_ok : ∀ k, k < 6 → parseFieldDescriptor (TX3 k).2.2.1 = some (tyX3 k) := by decide +kernel
abbrev cX3_init : ByteArray := prog_5_method_1_code
def yX3_init : MethodName := ⟨RX3, "<init>", "(I)V"⟩
abbrev cX3_stateBehind : ByteArray := prog_5_method_2_code
def yX3_stateBehind : MethodName := ⟨RX3, "stateBehind", "(I)I"⟩
abbrev cX3_recover : ByteArray := prog_5_method_3_code
def yX3_recover : MethodName := ⟨RX3, "recover", "(LCommitPrefixes$Run;)V"⟩
abbrev cX3_receive : ByteArray := prog_5_method_4_code
def yX3_receive : MethodName := ⟨RX3, "receive", "(LCommitPrefixes$Run;II)V"⟩
abbrev cX3_timeOut : ByteArray := prog_5_method_5_code
def yX3_timeOut : MethodName := ⟨RX3, "timeOut", "(LCommitPrefixes$Run;)V"⟩
abbrev cX3_sayYes : ByteArray := prog_5_method_6_code
def yX3_sayYes : MethodName := ⟨RX3, "sayYes", "(LCommitPrefixes$Run;)V"⟩
abbrev cX3_hearPre : ByteArray := prog_5_method_7_code
def yX3_hearPre : MethodName := ⟨RX3, "hearPre", "(LCommitPrefixes$Run;)V"⟩
abbrev cX3_isSettled : ByteArray := prog_5_method_8_code
def yX3_isSettled : MethodName := ⟨RX3, "isSettled", "()Z"⟩
abbrev cX3_settle : ByteArray := prog_5_method_9_code
def yX3_settle : MethodName := ⟨RX3, "settle", "(I)V"⟩
def RX4 : String := "CommitPrefixes$Run"
def TX4 : u_T := fun k => match k with
  | 0 => ("CommitPrefixes$Run", "setup", "LCommitPrefixes$Setup;", true)
  | 1 => ("CommitPrefixes$Run", "coordinator", "LCommitPrefixes$Coordinator;", true)
  | 2 => ("CommitPrefixes$Run", "sites", "[LCommitPrefixes$Site;", true)
  | 3 => ("CommitPrefixes$Run", "presumed", "Z", false)
  | 4 => ("CommitPrefixes$Run", "losses", "J", false)
  | 5 => ("CommitPrefixes$Run", "everyone", "I", false)
  | 6 => ("CommitPrefixes$Run", "tick", "I", false)
  | 7 => ("CommitPrefixes$Run", "still", "I", false)
  | 8 => ("CommitPrefixes$Run", "count", "I", false)
  | 9 => ("CommitPrefixes$Run", "which", "[I", true)
  | 10 => ("CommitPrefixes$Run", "from", "[I", true)
  | 11 => ("CommitPrefixes$Run", "to", "[I", true)
  | 12 => ("CommitPrefixes$Run", "at", "[I", true)
  | 13 => ("CommitPrefixes$Run", "fate", "[I", true)
  | 14 => ("CommitPrefixes$Run", "states", "[I", true)
  | 15 => ("CommitPrefixes$Run", "lengths", "[I", true)
  | _ => ("CommitPrefixes$Run", "sentBehind", "[I", true)
def tyX4 : Nat → FieldType := fun k => match k with
  | 0 => .object "CommitPrefixes$Setup"
  | 1 => .object "CommitPrefixes$Coordinator"
  | 2 => .array (.object "CommitPrefixes$Site")
  | 3 => .boolean
  | 4 => .long
  | 5 => .int
  | 6 => .int
  | 7 => .int
  | 8 => .int
  | 9 => .array .int
  | 10 => .array .int
  | 11 => .array .int
  | 12 => .array .int
  | 13 => .array .int
  | 14 => .array .int
  | 15 => .array .int
  | _ => .array .int
abbrev wsX40 : List Cond := u_ws RX4 TX4 17
theorem nmX4 : ∀ a, a < 17 → ∀ b, b < 17 → a ≠ b → (TX4 a).2.1 ≠ (TX4 b).2.1 := by decide +kernel
theorem tyX4_ok : ∀ k, k < 17 → parseFieldDescriptor (TX4 k).2.2.1 = some (tyX4 k) := by decide +kernel
abbrev cX4_init : ByteArray := prog_6_method_1_code
def yX4_init : MethodName := ⟨RX4, "<init>", "(LCommitPrefixes$Setup;)V"⟩
abbrev cX4_play : ByteArray := prog_6_method_2_code
def yX4_play : MethodName := ⟨RX4, "play", "(JZ)V"⟩
abbrev cX4_comeUp : ByteArray := prog_6_method_3_code
def yX4_comeUp : MethodName := ⟨RX4, "comeUp", "()V"⟩
abbrev cX4_goDown : ByteArray := prog_6_method_4_code
def yX4_goDown : MethodName := ⟨RX4, "goDown", "()V"⟩
abbrev cX4_deliver : ByteArray := prog_6_method_5_code
def yX4_deliver : MethodName := ⟨RX4, "deliver", "(II)V"⟩
abbrev cX4_endWaits : ByteArray := prog_6_method_6_code
def yX4_endWaits : MethodName := ⟨RX4, "endWaits", "()V"⟩
abbrev cX4_keepMoment : ByteArray := prog_6_method_7_code
def yX4_keepMoment : MethodName := ⟨RX4, "keepMoment", "()V"⟩
abbrev cX4_isAnythingAhead : ByteArray := prog_6_method_8_code
def yX4_isAnythingAhead : MethodName := ⟨RX4, "isAnythingAhead", "()Z"⟩
abbrev cX4_waitEnd : ByteArray := prog_6_method_9_code
def yX4_waitEnd : MethodName := ⟨RX4, "waitEnd", "()I"⟩
abbrev cX4_send : ByteArray := prog_6_method_10_code
def yX4_send : MethodName := ⟨RX4, "send", "(III)V"⟩
abbrev cX4_wasSent : ByteArray := prog_6_method_11_code
def yX4_wasSent : MethodName := ⟨RX4, "wasSent", "(I)Z"⟩
abbrev cX4_moment : ByteArray := prog_6_method_12_code
def yX4_moment : MethodName := ⟨RX4, "moment", "(II)I"⟩
abbrev cX4_stateAt : ByteArray := prog_6_method_13_code
def yX4_stateAt : MethodName := ⟨RX4, "stateAt", "(II)I"⟩
abbrev cX4_lengthAt : ByteArray := prog_6_method_14_code
def yX4_lengthAt : MethodName := ⟨RX4, "lengthAt", "(II)I"⟩
abbrev cX4_sentAt : ByteArray := prog_6_method_15_code
def yX4_sentAt : MethodName := ⟨RX4, "sentAt", "(I)I"⟩
abbrev cX4_decisionAt : ByteArray := prog_6_method_16_code
def yX4_decisionAt : MethodName := ⟨RX4, "decisionAt", "(II)I"⟩
abbrev cX4_isAlikeAt : ByteArray := prog_6_method_17_code
def yX4_isAlikeAt : MethodName := ⟨RX4, "isAlikeAt", "(I)Z"⟩
abbrev cX4_whoIsBlocked : ByteArray := prog_6_method_18_code
def yX4_whoIsBlocked : MethodName := ⟨RX4, "whoIsBlocked", "()I"⟩
abbrev cX4_quietTick : ByteArray := prog_6_method_19_code
def yX4_quietTick : MethodName := ⟨RX4, "quietTick", "()I"⟩
abbrev cX4_isSameAsBefore : ByteArray := prog_6_method_20_code
def yX4_isSameAsBefore : MethodName := ⟨RX4, "isSameAsBefore", "(I)Z"⟩
def RX5 : String := "CommitPrefixes$Setup"
def TX5 : u_T := fun k => match k with
  | 0 => ("CommitPrefixes$Setup", "participants", "I", false)
  | 1 => ("CommitPrefixes$Setup", "phases", "I", false)
  | 2 => ("CommitPrefixes$Setup", "wait", "I", false)
  | 3 => ("CommitPrefixes$Setup", "presumed", "Z", false)
  | 4 => ("CommitPrefixes$Setup", "votes", "I", false)
  | 5 => ("CommitPrefixes$Setup", "losses", "J", false)
  | 6 => ("CommitPrefixes$Setup", "goesDown", "[I", true)
  | 7 => ("CommitPrefixes$Setup", "comesUp", "[I", true)
  | _ => ("CommitPrefixes$Setup", "seed", "I", false)
def tyX5 : Nat → FieldType := fun k => match k with
  | 0 => .int
  | 1 => .int
  | 2 => .int
  | 3 => .boolean
  | 4 => .int
  | 5 => .long
  | 6 => .array .int
  | 7 => .array .int
  | _ => .int
abbrev wsX50 : List Cond := u_ws RX5 TX5 9
theorem nmX5 : ∀ a, a < 9 → ∀ b, b < 9 → a ≠ b → (TX5 a).2.1 ≠ (TX5 b).2.1 := by decide +kernel
theorem tyX5_ok : ∀ k, k < 9 → parseFieldDescriptor (TX5 k).2.2.1 = some (tyX5 k) := by decide +kernel
abbrev cX5_init : ByteArray := prog_7_method_1_code
def yX5_init : MethodName := ⟨RX5, "<init>", "()V"⟩
abbrev cX5_takeFrom : ByteArray := prog_7_method_2_code
def yX5_takeFrom : MethodName := ⟨RX5, "takeFrom", "(LCommitPrefixes$Setup;)V"⟩
abbrev cX5_mayBe : ByteArray := prog_7_method_3_code
def yX5_mayBe : MethodName := ⟨RX5, "mayBe", "(II)Z"⟩
abbrev cX5_number : ByteArray := prog_7_method_4_code
def yX5_number : MethodName := ⟨RX5, "number", "(I)I"⟩
abbrev cX5_giveNumber : ByteArray := prog_7_method_5_code
def yX5_giveNumber : MethodName := ⟨RX5, "giveNumber", "(II)V"⟩
abbrev cX5_votesYes : ByteArray := prog_7_method_6_code
def yX5_votesYes : MethodName := ⟨RX5, "votesYes", "(I)Z"⟩
abbrev cX5_giveVote : ByteArray := prog_7_method_7_code
def yX5_giveVote : MethodName := ⟨RX5, "giveVote", "(IZ)V"⟩
abbrev cX5_giveLoss : ByteArray := prog_7_method_8_code
def yX5_giveLoss : MethodName := ⟨RX5, "giveLoss", "(IZ)V"⟩
abbrev cX5_giveDown : ByteArray := prog_7_method_9_code
def yX5_giveDown : MethodName := ⟨RX5, "giveDown", "(III)V"⟩
abbrev cX5_everyone : ByteArray := prog_7_method_10_code
def yX5_everyone : MethodName := ⟨RX5, "everyone", "()I"⟩
abbrev cX5_sitesWithDown : ByteArray := prog_7_method_11_code
def yX5_sitesWithDown : MethodName := ⟨RX5, "sitesWithDown", "()I"⟩
abbrev cX5_draw : ByteArray := prog_7_method_12_code
def yX5_draw : MethodName := ⟨RX5, "draw", "(I)I"⟩
abbrev cX5_apply : ByteArray := prog_7_method_13_code
def yX5_apply : MethodName := ⟨RX5, "apply", "(LCommitPrefixes$Item;III)V"⟩
def RX6 : String := "CommitPrefixes$Shelf"
def TX6 : u_T := fun k => match k with
  | 0 => ("CommitPrefixes$Shelf", "content", "I", false)
  | 1 => ("CommitPrefixes$Shelf", "sort", "I", false)
  | 2 => ("CommitPrefixes$Shelf", "size", "I", false)
  | 3 => ("CommitPrefixes$Shelf", "elements", "[J", true)
  | 4 => ("CommitPrefixes$Shelf", "which", "I", false)
  | 5 => ("CommitPrefixes$Shelf", "from", "I", false)
  | 6 => ("CommitPrefixes$Shelf", "to", "I", false)
  | _ => ("CommitPrefixes$Shelf", "tick", "I", false)
def tyX6 : Nat → FieldType := fun k => match k with
  | 0 => .int
  | 1 => .int
  | 2 => .int
  | 3 => .array .long
  | 4 => .int
  | 5 => .int
  | 6 => .int
  | _ => .int
abbrev wsX60 : List Cond := u_ws RX6 TX6 8
theorem nmX6 : ∀ a, a < 8 → ∀ b, b < 8 → a ≠ b → (TX6 a).2.1 ≠ (TX6 b).2.1 := by decide +kernel
theorem tyX6_ok : ∀ k, k < 8 → parseFieldDescriptor (TX6 k).2.2.1 = some (tyX6 k) := by decide +kernel
abbrev cX6_init : ByteArray := prog_8_method_1_code
def yX6_init : MethodName := ⟨RX6, "<init>", "()V"⟩
abbrev cX6_isEmpty : ByteArray := prog_8_method_2_code
def yX6_isEmpty : MethodName := ⟨RX6, "isEmpty", "()Z"⟩
abbrev cX6_isRow : ByteArray := prog_8_method_3_code
def yX6_isRow : MethodName := ⟨RX6, "isRow", "()Z"⟩
abbrev cX6_isMessage : ByteArray := prog_8_method_4_code
def yX6_isMessage : MethodName := ⟨RX6, "isMessage", "()Z"⟩
abbrev cX6_clear : ByteArray := prog_8_method_5_code
def yX6_clear : MethodName := ⟨RX6, "clear", "()V"⟩
abbrev cX6_holdRow : ByteArray := prog_8_method_6_code
def yX6_holdRow : MethodName := ⟨RX6, "holdRow", "(II)V"⟩
abbrev cX6_holdMessage : ByteArray := prog_8_method_7_code
def yX6_holdMessage : MethodName := ⟨RX6, "holdMessage", "(IIII)V"⟩
abbrev cX6_has : ByteArray := prog_8_method_8_code
def yX6_has : MethodName := ⟨RX6, "has", "(I)Z"⟩
abbrev cX6_hasStretch : ByteArray := prog_8_method_9_code
def yX6_hasStretch : MethodName := ⟨RX6, "hasStretch", "(II)Z"⟩
abbrev cX6_keepAt : ByteArray := prog_8_method_10_code
def yX6_keepAt : MethodName := ⟨RX6, "keepAt", "(IJ)V"⟩
abbrev cX6_lowestBits : ByteArray := prog_8_method_11_code
def yX6_lowestBits : MethodName := ⟨RX6, "lowestBits", "(J)J"⟩
abbrev cX6_letter : ByteArray := prog_8_method_12_code
def yX6_letter : MethodName := ⟨RX6, "letter", "(I)I"⟩
abbrev cX6_isOfSort : ByteArray := prog_8_method_13_code
def yX6_isOfSort : MethodName := ⟨RX6, "isOfSort", "(I)Z"⟩
abbrev cX6_saysAs : ByteArray := prog_8_method_14_code
def yX6_saysAs : MethodName := ⟨RX6, "saysAs", "(I)I"⟩
def RX7 : String := "CommitPrefixes$Site"
def TX7 : u_T := fun k => match k with
  | _ => ("", "", "", false)
def tyX7 : Nat → FieldType := fun k => match k with
  | _ => .int
abbrev wsX70 : List Cond := u_ws RX7 TX7 0
theorem nmX7 : ∀ a, a < 0 → ∀ b, b < 0 → a ≠ b → (TX7 a).2.1 ≠ (TX7 b).2.1 := by decide +kernel
theorem tyX7_ok : ∀ k, k < 0 → parseFieldDescriptor (TX7 k).2.2.1 = some (tyX7 k) := by decide +kernel
abbrev cX7_init : ByteArray := prog_9_method_1_code
def yX7_init : MethodName := ⟨RX7, "<init>", "(I)V"⟩
abbrev cX7_startAnew : ByteArray := prog_9_method_5_code
def yX7_startAnew : MethodName := ⟨RX7, "startAnew", "()V"⟩
abbrev cX7_enter : ByteArray := prog_9_method_6_code
def yX7_enter : MethodName := ⟨RX7, "enter", "(II)V"⟩
abbrev cX7_goAway : ByteArray := prog_9_method_7_code
def yX7_goAway : MethodName := ⟨RX7, "goAway", "()V"⟩
abbrev cX7_note : ByteArray := prog_9_method_8_code
def yX7_note : MethodName := ⟨RX7, "note", "(I)V"⟩
abbrev cX7_lastRecord : ByteArray := prog_9_method_9_code
def yX7_lastRecord : MethodName := ⟨RX7, "lastRecord", "()I"⟩
abbrev cX7_hasNoted : ByteArray := prog_9_method_10_code
def yX7_hasNoted : MethodName := ⟨RX7, "hasNoted", "(II)Z"⟩
def RX8 : String := "CommitPrefixes$TextReader"
def TX8 : u_T := fun k => match k with
  | 0 => ("CommitPrefixes$TextReader", "draft", "LCommitPrefixes$Setup;", true)
  | 1 => ("CommitPrefixes$TextReader", "fault", "I", false)
  | 2 => ("CommitPrefixes$TextReader", "place", "I", false)
  | _ => ("CommitPrefixes$TextReader", "numbers", "[I", true)
def tyX8 : Nat → FieldType := fun k => match k with
  | 0 => .object "CommitPrefixes$Setup"
  | 1 => .int
  | 2 => .int
  | _ => .array .int
abbrev wsX80 : List Cond := u_ws RX8 TX8 4
theorem nmX8 : ∀ a, a < 4 → ∀ b, b < 4 → a ≠ b → (TX8 a).2.1 ≠ (TX8 b).2.1 := by decide +kernel
theorem tyX8_ok : ∀ k, k < 4 → parseFieldDescriptor (TX8 k).2.2.1 = some (tyX8 k) := by decide +kernel
abbrev cX8_init : ByteArray := prog_10_method_1_code
def yX8_init : MethodName := ⟨RX8, "<init>", "()V"⟩
abbrev cX8_readItems : ByteArray := prog_10_method_2_code
def yX8_readItems : MethodName := ⟨RX8, "readItems", "(LCommitPrefixes$Shelf;)I"⟩
abbrev cX8_readItem : ByteArray := prog_10_method_3_code
def yX8_readItem : MethodName := ⟨RX8, "readItem", "(LCommitPrefixes$Shelf;)Z"⟩
abbrev cX8_lowest : ByteArray := prog_10_method_4_code
def yX8_lowest : MethodName := ⟨RX8, "lowest", "(LCommitPrefixes$Item;I)I"⟩
abbrev cX8_highest : ByteArray := prog_10_method_5_code
def yX8_highest : MethodName := ⟨RX8, "highest", "(LCommitPrefixes$Item;I)I"⟩
abbrev cX8_readWord : ByteArray := prog_10_method_6_code
def yX8_readWord : MethodName := ⟨RX8, "readWord", "(LCommitPrefixes$Shelf;)LCommitPrefixes$Item;"⟩
abbrev cX8_sameLetters : ByteArray := prog_10_method_7_code
def yX8_sameLetters : MethodName := ⟨RX8, "sameLetters", "(LCommitPrefixes$Shelf;Ljava/lang/String;)I"⟩
abbrev cX8_stands : ByteArray := prog_10_method_8_code
def yX8_stands : MethodName := ⟨RX8, "stands", "(LCommitPrefixes$Shelf;II)Z"⟩
abbrev cX8_readSign : ByteArray := prog_10_method_9_code
def yX8_readSign : MethodName := ⟨RX8, "readSign", "(LCommitPrefixes$Shelf;I)Z"⟩
abbrev cX8_readNumber : ByteArray := prog_10_method_10_code
def yX8_readNumber : MethodName := ⟨RX8, "readNumber", "(LCommitPrefixes$Shelf;III)Z"⟩
abbrev cX8_isDigit : ByteArray := prog_10_method_11_code
def yX8_isDigit : MethodName := ⟨RX8, "isDigit", "(LCommitPrefixes$Shelf;I)Z"⟩
def RX9 : String := "CommitPrefixes"
def TX9 : u_T := fun k => match k with
  | 0 => ("CommitPrefixes", "shelves", "[LCommitPrefixes$Shelf;", true)
  | 1 => ("CommitPrefixes", "refusals", "[I", true)
  | 2 => ("CommitPrefixes", "setup", "LCommitPrefixes$Setup;", true)
  | 3 => ("CommitPrefixes", "kept", "LCommitPrefixes$Setup;", true)
  | 4 => ("CommitPrefixes", "imageTaken", "Z", false)
  | 5 => ("CommitPrefixes", "reader", "LCommitPrefixes$TextReader;", true)
  | 6 => ("CommitPrefixes", "latestFault", "I", false)
  | 7 => ("CommitPrefixes", "run", "LCommitPrefixes$Run;", true)
  | 8 => ("CommitPrefixes", "runStands", "Z", false)
  | 9 => ("CommitPrefixes", "trial", "LCommitPrefixes$Run;", true)
  | 10 => ("CommitPrefixes", "trialsStand", "Z", false)
  | 11 => ("CommitPrefixes", "harmful", "J", false)
  | _ => ("CommitPrefixes", "blocking", "J", false)
def tyX9 : Nat → FieldType := fun k => match k with
  | 0 => .array (.object "CommitPrefixes$Shelf")
  | 1 => .array .int
  | 2 => .object "CommitPrefixes$Setup"
  | 3 => .object "CommitPrefixes$Setup"
  | 4 => .boolean
  | 5 => .object "CommitPrefixes$TextReader"
  | 6 => .int
  | 7 => .object "CommitPrefixes$Run"
  | 8 => .boolean
  | 9 => .object "CommitPrefixes$Run"
  | 10 => .boolean
  | 11 => .long
  | _ => .long
abbrev wsX90 : List Cond := u_ws RX9 TX9 13
theorem nmX9 : ∀ a, a < 13 → ∀ b, b < 13 → a ≠ b → (TX9 a).2.1 ≠ (TX9 b).2.1 := by decide +kernel
theorem tyX9_ok : ∀ k, k < 13 → parseFieldDescriptor (TX9 k).2.2.1 = some (tyX9 k) := by decide +kernel
abbrev cX9_init : ByteArray := prog_1_method_1_code
def yX9_init : MethodName := ⟨RX9, "<init>", "()V"⟩
abbrev cX9_row : ByteArray := prog_1_method_2_code
def yX9_row : MethodName := ⟨RX9, "row", "(III)I"⟩
abbrev cX9_set : ByteArray := prog_1_method_3_code
def yX9_set : MethodName := ⟨RX9, "set", "(IIJ)I"⟩
abbrev cX9_copy : ByteArray := prog_1_method_4_code
def yX9_copy : MethodName := ⟨RX9, "copy", "(IIIII)I"⟩
abbrev cX9_element : ByteArray := prog_1_method_5_code
def yX9_element : MethodName := ⟨RX9, "element", "(II)J"⟩
abbrev cX9_show : ByteArray := prog_1_method_6_code
def yX9_show : MethodName := ⟨RX9, "show", "(II)I"⟩
abbrev cX9_holds : ByteArray := prog_1_method_7_code
def yX9_holds : MethodName := ⟨RX9, "holds", "(I)I"⟩
abbrev cX9_says : ByteArray := prog_1_method_8_code
def yX9_says : MethodName := ⟨RX9, "says", "(II)I"⟩
abbrev cX9_read : ByteArray := prog_1_method_9_code
def yX9_read : MethodName := ⟨RX9, "read", "(I)I"⟩
abbrev cX9_fault : ByteArray := prog_1_method_10_code
def yX9_fault : MethodName := ⟨RX9, "fault", "()I"⟩
abbrev cX9_put : ByteArray := prog_1_method_11_code
def yX9_put : MethodName := ⟨RX9, "put", "(II)I"⟩
abbrev cX9_vote : ByteArray := prog_1_method_12_code
def yX9_vote : MethodName := ⟨RX9, "vote", "(IZ)I"⟩
abbrev cX9_lose : ByteArray := prog_1_method_13_code
def yX9_lose : MethodName := ⟨RX9, "lose", "(IZ)I"⟩
abbrev cX9_down : ByteArray := prog_1_method_14_code
def yX9_down : MethodName := ⟨RX9, "down", "(III)I"⟩
abbrev cX9_told : ByteArray := prog_1_method_15_code
def yX9_told : MethodName := ⟨RX9, "told", "(I)I"⟩
abbrev cX9_drawn : ByteArray := prog_1_method_16_code
def yX9_drawn : MethodName := ⟨RX9, "drawn", "(I)I"⟩
abbrev cX9_seed : ByteArray := prog_1_method_17_code
def yX9_seed : MethodName := ⟨RX9, "seed", "(I)I"⟩
abbrev cX9_image : ByteArray := prog_1_method_18_code
def yX9_image : MethodName := ⟨RX9, "image", "()I"⟩
abbrev cX9_restore : ByteArray := prog_1_method_19_code
def yX9_restore : MethodName := ⟨RX9, "restore", "()I"⟩
abbrev cX9_state : ByteArray := prog_1_method_20_code
def yX9_state : MethodName := ⟨RX9, "state", "(II)I"⟩
abbrev cX9_decided : ByteArray := prog_1_method_21_code
def yX9_decided : MethodName := ⟨RX9, "decided", "(II)I"⟩
abbrev cX9_records : ByteArray := prog_1_method_22_code
def yX9_records : MethodName := ⟨RX9, "records", "(II)I"⟩
abbrev cX9_record : ByteArray := prog_1_method_23_code
def yX9_record : MethodName := ⟨RX9, "record", "(II)I"⟩
abbrev cX9_sent : ByteArray := prog_1_method_24_code
def yX9_sent : MethodName := ⟨RX9, "sent", "(I)I"⟩
abbrev cX9_message : ByteArray := prog_1_method_25_code
def yX9_message : MethodName := ⟨RX9, "message", "(II)I"⟩
abbrev cX9_alike : ByteArray := prog_1_method_26_code
def yX9_alike : MethodName := ⟨RX9, "alike", "(I)I"⟩
abbrev cX9_blocked : ByteArray := prog_1_method_27_code
def yX9_blocked : MethodName := ⟨RX9, "blocked", "()I"⟩
abbrev cX9_quiet : ByteArray := prog_1_method_28_code
def yX9_quiet : MethodName := ⟨RX9, "quiet", "()I"⟩
abbrev cX9_harm : ByteArray := prog_1_method_29_code
def yX9_harm : MethodName := ⟨RX9, "harm", "(I)I"⟩
abbrev cX9_block : ByteArray := prog_1_method_30_code
def yX9_block : MethodName := ⟨RX9, "block", "(I)I"⟩
abbrev cX9_recovery : ByteArray := prog_1_method_31_code
def yX9_recovery : MethodName := ⟨RX9, "recovery", "(II)I"⟩
abbrev cX9_spared : ByteArray := prog_1_method_32_code
def yX9_spared : MethodName := ⟨RX9, "spared", "()I"⟩
abbrev cX9_judge : ByteArray := prog_1_method_33_code
def yX9_judge : MethodName := ⟨RX9, "judge", "(III)I"⟩
abbrev cX9_status : ByteArray := prog_1_method_34_code
def yX9_status : MethodName := ⟨RX9, "status", "(I)I"⟩
abbrev cX9_refuse : ByteArray := prog_1_method_35_code
def yX9_refuse : MethodName := ⟨RX9, "refuse", "(I)I"⟩
abbrev cX9_isShelf : ByteArray := prog_1_method_36_code
def yX9_isShelf : MethodName := ⟨RX9, "isShelf", "(I)Z"⟩
abbrev cX9_isTick : ByteArray := prog_1_method_37_code
def yX9_isTick : MethodName := ⟨RX9, "isTick", "(I)Z"⟩
abbrev cX9_isSite : ByteArray := prog_1_method_38_code
def yX9_isSite : MethodName := ⟨RX9, "isSite", "(I)Z"⟩
abbrev cX9_isIn : ByteArray := prog_1_method_39_code
def yX9_isIn : MethodName := ⟨RX9, "isIn", "(JI)Z"⟩
abbrev cX9_partOf : ByteArray := prog_1_method_40_code
def yX9_partOf : MethodName := ⟨RX9, "partOf", "(JI)I"⟩
abbrev cX9_rowLack : ByteArray := prog_1_method_41_code
def yX9_rowLack : MethodName := ⟨RX9, "rowLack", "(I)I"⟩
abbrev cX9_copyLack : ByteArray := prog_1_method_42_code
def yX9_copyLack : MethodName := ⟨RX9, "copyLack", "(II)I"⟩
abbrev cX9_momentLack : ByteArray := prog_1_method_43_code
def yX9_momentLack : MethodName := ⟨RX9, "momentLack", "(II)I"⟩
abbrev cX9_judgeLack : ByteArray := prog_1_method_44_code
def yX9_judgeLack : MethodName := ⟨RX9, "judgeLack", "(III)I"⟩
abbrev cX9_forgetRuns : ByteArray := prog_1_method_45_code
def yX9_forgetRuns : MethodName := ⟨RX9, "forgetRuns", "()V"⟩
abbrev cX9_current : ByteArray := prog_1_method_46_code
def yX9_current : MethodName := ⟨RX9, "current", "()LCommitPrefixes$Run;"⟩
abbrev cX9_tryLosses : ByteArray := prog_1_method_47_code
def yX9_tryLosses : MethodName := ⟨RX9, "tryLosses", "(LCommitPrefixes$Run;)V"⟩
def RX10 : String := "CommitPrefixesModel"
def TX10 : u_T := fun k => match k with
  | 0 => ("CommitPrefixesModel", "refused", "[I", true)
  | 1 => ("CommitPrefixesModel", "votes", "[I", true)
  | 2 => ("CommitPrefixesModel", "losses", "[I", true)
  | 3 => ("CommitPrefixesModel", "downs", "[I", true)
  | 4 => ("CommitPrefixesModel", "ups", "[I", true)
  | 5 => ("CommitPrefixesModel", "n", "I", false)
  | 6 => ("CommitPrefixesModel", "phases", "I", false)
  | 7 => ("CommitPrefixesModel", "wait", "I", false)
  | 8 => ("CommitPrefixesModel", "presumed", "I", false)
  | 9 => ("CommitPrefixesModel", "seed", "I", false)
  | 10 => ("CommitPrefixesModel", "state", "[I", true)
  | 11 => ("CommitPrefixesModel", "isUp", "[I", true)
  | 12 => ("CommitPrefixesModel", "timer", "[I", true)
  | 13 => ("CommitPrefixesModel", "log", "[I", true)
  | 14 => ("CommitPrefixesModel", "logMany", "[I", true)
  | 15 => ("CommitPrefixesModel", "counted", "[I", true)
  | 16 => ("CommitPrefixesModel", "which", "[I", true)
  | 17 => ("CommitPrefixesModel", "sender", "[I", true)
  | 18 => ("CommitPrefixesModel", "goal", "[I", true)
  | 19 => ("CommitPrefixesModel", "sentAt", "[I", true)
  | 20 => ("CommitPrefixesModel", "fate", "[I", true)
  | 21 => ("CommitPrefixesModel", "messages", "I", false)
  | 22 => ("CommitPrefixesModel", "tick", "I", false)
  | 23 => ("CommitPrefixesModel", "firstNew", "I", false)
  | 24 => ("CommitPrefixesModel", "decision", "I", false)
  | 25 => ("CommitPrefixesModel", "stateThen", "[I", true)
  | 26 => ("CommitPrefixesModel", "recordsThen", "[I", true)
  | 27 => ("CommitPrefixesModel", "sentThen", "[I", true)
  | 28 => ("CommitPrefixesModel", "held", "[I", true)
  | 29 => ("CommitPrefixesModel", "size", "[I", true)
  | 30 => ("CommitPrefixesModel", "elements", "[J", true)
  | 31 => ("CommitPrefixesModel", "item", "[I", true)
  | 32 => ("CommitPrefixesModel", "first", "[I", true)
  | 33 => ("CommitPrefixesModel", "second", "[I", true)
  | 34 => ("CommitPrefixesModel", "third", "[I", true)
  | 35 => ("CommitPrefixesModel", "reading", "I", false)
  | 36 => ("CommitPrefixesModel", "faultAt", "I", false)
  | 37 => ("CommitPrefixesModel", "items", "I", false)
  | 38 => ("CommitPrefixesModel", "shelfRead", "I", false)
  | 39 => ("CommitPrefixesModel", "kept", "[I", true)
  | 40 => ("CommitPrefixesModel", "hasImage", "Z", false)
  | 41 => ("CommitPrefixesModel", "isKeeping", "Z", false)
  | _ => ("CommitPrefixesModel", "cursor", "I", false)
def tyX10 : Nat → FieldType := fun k => match k with
  | 0 => .array .int
  | 1 => .array .int
  | 2 => .array .int
  | 3 => .array .int
  | 4 => .array .int
  | 5 => .int
  | 6 => .int
  | 7 => .int
  | 8 => .int
  | 9 => .int
  | 10 => .array .int
  | 11 => .array .int
  | 12 => .array .int
  | 13 => .array .int
  | 14 => .array .int
  | 15 => .array .int
  | 16 => .array .int
  | 17 => .array .int
  | 18 => .array .int
  | 19 => .array .int
  | 20 => .array .int
  | 21 => .int
  | 22 => .int
  | 23 => .int
  | 24 => .int
  | 25 => .array .int
  | 26 => .array .int
  | 27 => .array .int
  | 28 => .array .int
  | 29 => .array .int
  | 30 => .array .long
  | 31 => .array .int
  | 32 => .array .int
  | 33 => .array .int
  | 34 => .array .int
  | 35 => .int
  | 36 => .int
  | 37 => .int
  | 38 => .int
  | 39 => .array .int
  | 40 => .boolean
  | 41 => .boolean
  | _ => .int
abbrev wsX100 : List Cond := u_ws RX10 TX10 43
theorem nmX10 : ∀ a, a < 43 → ∀ b, b < 43 → a ≠ b → (TX10 a).2.1 ≠ (TX10 b).2.1 := by decide +kernel
theorem tyX10_ok : ∀ k, k < 43 → parseFieldDescriptor (TX10 k).2.2.1 = some (tyX10 k) := by decide +kernel
abbrev cX10_init : ByteArray := prog_12_method_1_code
def yX10_init : MethodName := ⟨RX10, "<init>", "()V"⟩
abbrev cX10_no : ByteArray := prog_12_method_2_code
def yX10_no : MethodName := ⟨RX10, "no", "(I)I"⟩
abbrev cX10_isIn : ByteArray := prog_12_method_3_code
def yX10_isIn : MethodName := ⟨RX10, "isIn", "(III)Z"⟩
abbrev cX10_isSite : ByteArray := prog_12_method_4_code
def yX10_isSite : MethodName := ⟨RX10, "isSite", "(I)Z"⟩
abbrev cX10_isTick : ByteArray := prog_12_method_5_code
def yX10_isTick : MethodName := ⟨RX10, "isTick", "(I)Z"⟩
abbrev cX10_isDown : ByteArray := prog_12_method_6_code
def yX10_isDown : MethodName := ⟨RX10, "isDown", "(II)Z"⟩
abbrev cX10_sends : ByteArray := prog_12_method_7_code
def yX10_sends : MethodName := ⟨RX10, "sends", "(III)V"⟩
abbrev cX10_sendsAll : ByteArray := prog_12_method_8_code
def yX10_sendsAll : MethodName := ⟨RX10, "sendsAll", "(I)V"⟩
abbrev cX10_notes : ByteArray := prog_12_method_9_code
def yX10_notes : MethodName := ⟨RX10, "notes", "(II)V"⟩
abbrev cX10_startsTimer : ByteArray := prog_12_method_10_code
def yX10_startsTimer : MethodName := ⟨RX10, "startsTimer", "(I)V"⟩
abbrev cX10_decidesCommit : ByteArray := prog_12_method_11_code
def yX10_decidesCommit : MethodName := ⟨RX10, "decidesCommit", "()V"⟩
abbrev cX10_decidesAbort : ByteArray := prog_12_method_12_code
def yX10_decidesAbort : MethodName := ⟨RX10, "decidesAbort", "()V"⟩
abbrev cX10_beginsCoordinator : ByteArray := prog_12_method_13_code
def yX10_beginsCoordinator : MethodName := ⟨RX10, "beginsCoordinator", "()V"⟩
abbrev cX10_becomesPre : ByteArray := prog_12_method_14_code
def yX10_becomesPre : MethodName := ⟨RX10, "becomesPre", "()V"⟩
abbrev cX10_countsAll : ByteArray := prog_12_method_15_code
def yX10_countsAll : MethodName := ⟨RX10, "countsAll", "(II)Z"⟩
abbrev cX10_hasDecided : ByteArray := prog_12_method_16_code
def yX10_hasDecided : MethodName := ⟨RX10, "hasDecided", "()Z"⟩
abbrev cX10_ends : ByteArray := prog_12_method_17_code
def yX10_ends : MethodName := ⟨RX10, "ends", "()V"⟩
abbrev cX10_comesToCoordinator : ByteArray := prog_12_method_18_code
def yX10_comesToCoordinator : MethodName := ⟨RX10, "comesToCoordinator", "(II)V"⟩
abbrev cX10_timesOutCoordinator : ByteArray := prog_12_method_19_code
def yX10_timesOutCoordinator : MethodName := ⟨RX10, "timesOutCoordinator", "()V"⟩
abbrev cX10_comesPrepare : ByteArray := prog_12_method_20_code
def yX10_comesPrepare : MethodName := ⟨RX10, "comesPrepare", "(I)V"⟩
abbrev cX10_comesPre : ByteArray := prog_12_method_21_code
def yX10_comesPre : MethodName := ⟨RX10, "comesPre", "(I)V"⟩
abbrev cX10_comesDecision : ByteArray := prog_12_method_22_code
def yX10_comesDecision : MethodName := ⟨RX10, "comesDecision", "(II)V"⟩
abbrev cX10_comesAsk : ByteArray := prog_12_method_23_code
def yX10_comesAsk : MethodName := ⟨RX10, "comesAsk", "(II)V"⟩
abbrev cX10_comesToParticipant : ByteArray := prog_12_method_24_code
def yX10_comesToParticipant : MethodName := ⟨RX10, "comesToParticipant", "(III)V"⟩
abbrev cX10_asksAll : ByteArray := prog_12_method_25_code
def yX10_asksAll : MethodName := ⟨RX10, "asksAll", "(I)V"⟩
abbrev cX10_timesOutParticipant : ByteArray := prog_12_method_26_code
def yX10_timesOutParticipant : MethodName := ⟨RX10, "timesOutParticipant", "(I)V"⟩
abbrev cX10_lastOf : ByteArray := prog_12_method_27_code
def yX10_lastOf : MethodName := ⟨RX10, "lastOf", "(II)I"⟩
abbrev cX10_recoversCoordinator : ByteArray := prog_12_method_28_code
def yX10_recoversCoordinator : MethodName := ⟨RX10, "recoversCoordinator", "()V"⟩
abbrev cX10_recoversParticipant : ByteArray := prog_12_method_29_code
def yX10_recoversParticipant : MethodName := ⟨RX10, "recoversParticipant", "(I)V"⟩
abbrev cX10_recovers : ByteArray := prog_12_method_30_code
def yX10_recovers : MethodName := ⟨RX10, "recovers", "(I)V"⟩
abbrev cX10_arrives : ByteArray := prog_12_method_31_code
def yX10_arrives : MethodName := ⟨RX10, "arrives", "(I)V"⟩
abbrev cX10_timesOut : ByteArray := prog_12_method_32_code
def yX10_timesOut : MethodName := ⟨RX10, "timesOut", "(I)V"⟩
abbrev cX10_goesSites : ByteArray := prog_12_method_33_code
def yX10_goesSites : MethodName := ⟨RX10, "goesSites", "()V"⟩
abbrev cX10_goesTick : ByteArray := prog_12_method_34_code
def yX10_goesTick : MethodName := ⟨RX10, "goesTick", "()V"⟩
abbrev cX10_runs : ByteArray := prog_12_method_35_code
def yX10_runs : MethodName := ⟨RX10, "runs", "()V"⟩
abbrev cX10_isShelf : ByteArray := prog_12_method_36_code
def yX10_isShelf : MethodName := ⟨RX10, "isShelf", "(I)Z"⟩
abbrev cX10_isRow : ByteArray := prog_12_method_37_code
def yX10_isRow : MethodName := ⟨RX10, "isRow", "(I)Z"⟩
abbrev cX10_lowest : ByteArray := prog_12_method_38_code
def yX10_lowest : MethodName := ⟨RX10, "lowest", "(IJ)J"⟩
abbrev cX10_notRow : ByteArray := prog_12_method_39_code
def yX10_notRow : MethodName := ⟨RX10, "notRow", "(I)I"⟩
abbrev cX10_row : ByteArray := prog_12_method_40_code
def yX10_row : MethodName := ⟨RX10, "row", "(III)I"⟩
abbrev cX10_set : ByteArray := prog_12_method_41_code
def yX10_set : MethodName := ⟨RX10, "set", "(IIJ)I"⟩
abbrev cX10_notCopied : ByteArray := prog_12_method_42_code
def yX10_notCopied : MethodName := ⟨RX10, "notCopied", "(IIIII)I"⟩
abbrev cX10_copy : ByteArray := prog_12_method_43_code
def yX10_copy : MethodName := ⟨RX10, "copy", "(IIIII)I"⟩
abbrev cX10_element : ByteArray := prog_12_method_44_code
def yX10_element : MethodName := ⟨RX10, "element", "(II)J"⟩
abbrev cX10_show : ByteArray := prog_12_method_45_code
def yX10_show : MethodName := ⟨RX10, "show", "(II)I"⟩
abbrev cX10_holds : ByteArray := prog_12_method_46_code
def yX10_holds : MethodName := ⟨RX10, "holds", "(I)I"⟩
abbrev cX10_kindOf : ByteArray := prog_12_method_47_code
def yX10_kindOf : MethodName := ⟨RX10, "kindOf", "(I)I"⟩
abbrev cX10_says : ByteArray := prog_12_method_48_code
def yX10_says : MethodName := ⟨RX10, "says", "(II)I"⟩
abbrev cX10_sign : ByteArray := prog_12_method_49_code
def yX10_sign : MethodName := ⟨RX10, "sign", "(I)I"⟩
abbrev cX10_lettersOf : ByteArray := prog_12_method_50_code
def yX10_lettersOf : MethodName := ⟨RX10, "lettersOf", "(I)I"⟩
abbrev cX10_letterOf : ByteArray := prog_12_method_51_code
def yX10_letterOf : MethodName := ⟨RX10, "letterOf", "(II)I"⟩
abbrev cX10_matches : ByteArray := prog_12_method_52_code
def yX10_matches : MethodName := ⟨RX10, "matches", "(I)I"⟩
abbrev cX10_readsWord : ByteArray := prog_12_method_53_code
def yX10_readsWord : MethodName := ⟨RX10, "readsWord", "()I"⟩
abbrev cX10_readsNumber : ByteArray := prog_12_method_54_code
def yX10_readsNumber : MethodName := ⟨RX10, "readsNumber", "(II)I"⟩
abbrev cX10_readsDown : ByteArray := prog_12_method_55_code
def yX10_readsDown : MethodName := ⟨RX10, "readsDown", "()Z"⟩
abbrev cX10_readsFirst : ByteArray := prog_12_method_56_code
def yX10_readsFirst : MethodName := ⟨RX10, "readsFirst", "(II)Z"⟩
abbrev cX10_readsItem : ByteArray := prog_12_method_57_code
def yX10_readsItem : MethodName := ⟨RX10, "readsItem", "()Z"⟩
abbrev cX10_readsAll : ByteArray := prog_12_method_58_code
def yX10_readsAll : MethodName := ⟨RX10, "readsAll", "()Z"⟩
abbrev cX10_holdsItem : ByteArray := prog_12_method_59_code
def yX10_holdsItem : MethodName := ⟨RX10, "holdsItem", "(I)V"⟩
abbrev cX10_read : ByteArray := prog_12_method_60_code
def yX10_read : MethodName := ⟨RX10, "read", "(I)I"⟩
abbrev cX10_fault : ByteArray := prog_12_method_61_code
def yX10_fault : MethodName := ⟨RX10, "fault", "()I"⟩
abbrev cX10_put : ByteArray := prog_12_method_62_code
def yX10_put : MethodName := ⟨RX10, "put", "(II)I"⟩
abbrev cX10_vote : ByteArray := prog_12_method_63_code
def yX10_vote : MethodName := ⟨RX10, "vote", "(IZ)I"⟩
abbrev cX10_lose : ByteArray := prog_12_method_64_code
def yX10_lose : MethodName := ⟨RX10, "lose", "(IZ)I"⟩
abbrev cX10_down : ByteArray := prog_12_method_65_code
def yX10_down : MethodName := ⟨RX10, "down", "(III)I"⟩
abbrev cX10_manyLosses : ByteArray := prog_12_method_66_code
def yX10_manyLosses : MethodName := ⟨RX10, "manyLosses", "()I"⟩
abbrev cX10_setOf : ByteArray := prog_12_method_67_code
def yX10_setOf : MethodName := ⟨RX10, "setOf", "(Z)I"⟩
abbrev cX10_told : ByteArray := prog_12_method_68_code
def yX10_told : MethodName := ⟨RX10, "told", "(I)I"⟩
abbrev cX10_notThen : ByteArray := prog_12_method_69_code
def yX10_notThen : MethodName := ⟨RX10, "notThen", "(II)I"⟩
abbrev cX10_state : ByteArray := prog_12_method_70_code
def yX10_state : MethodName := ⟨RX10, "state", "(II)I"⟩
abbrev cX10_hasNoted : ByteArray := prog_12_method_71_code
def yX10_hasNoted : MethodName := ⟨RX10, "hasNoted", "(III)Z"⟩
abbrev cX10_decidedAt : ByteArray := prog_12_method_72_code
def yX10_decidedAt : MethodName := ⟨RX10, "decidedAt", "(II)I"⟩
abbrev cX10_decided : ByteArray := prog_12_method_73_code
def yX10_decided : MethodName := ⟨RX10, "decided", "(II)I"⟩
abbrev cX10_records : ByteArray := prog_12_method_74_code
def yX10_records : MethodName := ⟨RX10, "records", "(II)I"⟩
abbrev cX10_record : ByteArray := prog_12_method_75_code
def yX10_record : MethodName := ⟨RX10, "record", "(II)I"⟩
abbrev cX10_sent : ByteArray := prog_12_method_76_code
def yX10_sent : MethodName := ⟨RX10, "sent", "(I)I"⟩
abbrev cX10_message : ByteArray := prog_12_method_77_code
def yX10_message : MethodName := ⟨RX10, "message", "(II)I"⟩
abbrev cX10_areAlike : ByteArray := prog_12_method_78_code
def yX10_areAlike : MethodName := ⟨RX10, "areAlike", "(I)Z"⟩
abbrev cX10_alike : ByteArray := prog_12_method_79_code
def yX10_alike : MethodName := ⟨RX10, "alike", "(I)I"⟩
abbrev cX10_blockedNow : ByteArray := prog_12_method_80_code
def yX10_blockedNow : MethodName := ⟨RX10, "blockedNow", "()I"⟩
abbrev cX10_blocked : ByteArray := prog_12_method_81_code
def yX10_blocked : MethodName := ⟨RX10, "blocked", "()I"⟩
abbrev cX10_isAsLast : ByteArray := prog_12_method_82_code
def yX10_isAsLast : MethodName := ⟨RX10, "isAsLast", "(I)Z"⟩
abbrev cX10_quiet : ByteArray := prog_12_method_83_code
def yX10_quiet : MethodName := ⟨RX10, "quiet", "()I"⟩
abbrev cX10_lossesThat : ByteArray := prog_12_method_84_code
def yX10_lossesThat : MethodName := ⟨RX10, "lossesThat", "(IZ)I"⟩
abbrev cX10_harm : ByteArray := prog_12_method_85_code
def yX10_harm : MethodName := ⟨RX10, "harm", "(I)I"⟩
abbrev cX10_block : ByteArray := prog_12_method_86_code
def yX10_block : MethodName := ⟨RX10, "block", "(I)I"⟩
abbrev cX10_recoveredBy : ByteArray := prog_12_method_87_code
def yX10_recoveredBy : MethodName := ⟨RX10, "recoveredBy", "(II)I"⟩
abbrev cX10_recovery : ByteArray := prog_12_method_88_code
def yX10_recovery : MethodName := ⟨RX10, "recovery", "(II)I"⟩
abbrev cX10_spared : ByteArray := prog_12_method_89_code
def yX10_spared : MethodName := ⟨RX10, "spared", "()I"⟩
abbrev cX10_notJudged : ByteArray := prog_12_method_90_code
def yX10_notJudged : MethodName := ⟨RX10, "notJudged", "(III)I"⟩
abbrev cX10_judge : ByteArray := prog_12_method_91_code
def yX10_judge : MethodName := ⟨RX10, "judge", "(III)I"⟩
abbrev cX10_draw : ByteArray := prog_12_method_92_code
def yX10_draw : MethodName := ⟨RX10, "draw", "(I)I"⟩
abbrev cX10_drawn : ByteArray := prog_12_method_93_code
def yX10_drawn : MethodName := ⟨RX10, "drawn", "(I)I"⟩
abbrev cX10_seed : ByteArray := prog_12_method_94_code
def yX10_seed : MethodName := ⟨RX10, "seed", "(I)I"⟩
abbrev cX10_passes : ByteArray := prog_12_method_95_code
def yX10_passes : MethodName := ⟨RX10, "passes", "([I)V"⟩
abbrev cX10_passOne : ByteArray := prog_12_method_96_code
def yX10_passOne : MethodName := ⟨RX10, "passOne", "(I)I"⟩
abbrev cX10_passesAll : ByteArray := prog_12_method_97_code
def yX10_passesAll : MethodName := ⟨RX10, "passesAll", "(Z)V"⟩
abbrev cX10_image : ByteArray := prog_12_method_98_code
def yX10_image : MethodName := ⟨RX10, "image", "()I"⟩
abbrev cX10_restore : ByteArray := prog_12_method_99_code
def yX10_restore : MethodName := ⟨RX10, "restore", "()I"⟩
abbrev cX10_status : ByteArray := prog_12_method_100_code
def yX10_status : MethodName := ⟨RX10, "status", "(I)I"⟩
def RJx145de : String := "java/io/Serializable"
def TJx145de : u_T := fun k => match k with
  | _ => ("", "", "", false)
def tyJx145de : Nat → FieldType := fun k => match k with
  | _ => .int
abbrev wsJx145de0 : List Cond := u_ws RJx145de TJx145de 0
theorem nmJx145de : ∀ a, a < 0 → ∀ b, b < 0 → a ≠ b → (TJx145de a).2.1 ≠ (TJx145de b).2.1 := by decide +kernel
theorem tyJx145de_ok : ∀ k, k < 0 → parseFieldDescriptor (TJx145de k).2.2.1 = some (tyJx145de k) := by decide +kernel
def RJx9f9b0 : String := "java/lang/CharSequence"
def TJx9f9b0 : u_T := fun k => match k with
  | _ => ("", "", "", false)
def tyJx9f9b0 : Nat → FieldType := fun k => match k with
  | _ => .int
abbrev wsJx9f9b00 : List Cond := u_ws RJx9f9b0 TJx9f9b0 0
theorem nmJx9f9b0 : ∀ a, a < 0 → ∀ b, b < 0 → a ≠ b → (TJx9f9b0 a).2.1 ≠ (TJx9f9b0 b).2.1 := by decide +kernel
theorem tyJx9f9b0_ok : ∀ k, k < 0 → parseFieldDescriptor (TJx9f9b0 k).2.2.1 = some (tyJx9f9b0 k) := by decide +kernel
def RJxb160c : String := "java/lang/Comparable"
def TJxb160c : u_T := fun k => match k with
  | _ => ("", "", "", false)
def tyJxb160c : Nat → FieldType := fun k => match k with
  | _ => .int
abbrev wsJxb160c0 : List Cond := u_ws RJxb160c TJxb160c 0
theorem nmJxb160c : ∀ a, a < 0 → ∀ b, b < 0 → a ≠ b → (TJxb160c a).2.1 ≠ (TJxb160c b).2.1 := by decide +kernel
theorem tyJxb160c_ok : ∀ k, k < 0 → parseFieldDescriptor (TJxb160c k).2.2.1 = some (tyJxb160c k) := by decide +kernel
def RJx29ce0 : String := "java/lang/Enum"
def TJx29ce0 : u_T := fun k => match k with
  | _ => ("", "", "", false)
def tyJx29ce0 : Nat → FieldType := fun k => match k with
  | _ => .int
abbrev wsJx29ce00 : List Cond := u_ws RJx29ce0 TJx29ce0 0
theorem nmJx29ce0 : ∀ a, a < 0 → ∀ b, b < 0 → a ≠ b → (TJx29ce0 a).2.1 ≠ (TJx29ce0 b).2.1 := by decide +kernel
theorem tyJx29ce0_ok : ∀ k, k < 0 → parseFieldDescriptor (TJx29ce0 k).2.2.1 = some (tyJx29ce0 k) := by decide +kernel
abbrev cJx29ce0_ordinal_8abf5 : ByteArray := prog_13_method_2_code
def yJx29ce0_ordinal_8abf5 : MethodName := ⟨RJx29ce0, "ordinal", "()I"⟩
def RJ13 : String := "java/lang/Long"
def TJ13 : u_T := fun k => match k with
  | _ => ("", "", "", false)
def tyJ13 : Nat → FieldType := fun k => match k with
  | _ => .int
abbrev wsJ130 : List Cond := u_ws RJ13 TJ13 0
theorem nmJ13 : ∀ a, a < 0 → ∀ b, b < 0 → a ≠ b → (TJ13 a).2.1 ≠ (TJ13 b).2.1 := by decide +kernel
theorem tyJ13_ok : ∀ k, k < 0 → parseFieldDescriptor (TJ13 k).2.2.1 = some (tyJ13 k) := by decide +kernel
abbrev cJ13_bitCount_95d88 : ByteArray := prog_14_method_50_code
def yJ13_bitCount_95d88 : MethodName := ⟨RJ13, "bitCount", "(J)I"⟩
def RJ9 : String := "java/lang/Math"
def TJ9 : u_T := fun k => match k with
  | _ => ("", "", "", false)
def tyJ9 : Nat → FieldType := fun k => match k with
  | _ => .int
abbrev wsJ90 : List Cond := u_ws RJ9 TJ9 0
theorem nmJ9 : ∀ a, a < 0 → ∀ b, b < 0 → a ≠ b → (TJ9 a).2.1 ≠ (TJ9 b).2.1 := by decide +kernel
theorem tyJ9_ok : ∀ k, k < 0 → parseFieldDescriptor (TJ9 k).2.2.1 = some (tyJ9 k) := by decide +kernel
abbrev cJ9_max_7cf53 : ByteArray := prog_15_method_65_code
def yJ9_max_7cf53 : MethodName := ⟨RJ9, "max", "(II)I"⟩
abbrev cJ9_min_7cf53 : ByteArray := prog_15_method_69_code
def yJ9_min_7cf53 : MethodName := ⟨RJ9, "min", "(II)I"⟩
def RJ0 : String := "java/lang/String"
def TJ0 : u_T := fun k => match k with
  | _ => ("", "", "", false)
def tyJ0 : Nat → FieldType := fun k => match k with
  | _ => .int
abbrev wsJ00 : List Cond := u_ws RJ0 TJ0 0
theorem nmJ0 : ∀ a, a < 0 → ∀ b, b < 0 → a ≠ b → (TJ0 a).2.1 ≠ (TJ0 b).2.1 := by decide +kernel
theorem tyJ0_ok : ∀ k, k < 0 → parseFieldDescriptor (TJ0 k).2.2.1 = some (tyJ0 k) := by decide +kernel
abbrev cJ0_length_8abf5 : ByteArray := prog_16_method_54_code
def yJ0_length_8abf5 : MethodName := ⟨RJ0, "length", "()I"⟩
abbrev cJ0_charAt_5068e : ByteArray := prog_16_method_56_code
def yJ0_charAt_5068e : MethodName := ⟨RJ0, "charAt", "(I)C"⟩
abbrev cJ0_coder_7d493 : ByteArray := prog_16_method_152_code
def yJ0_coder_7d493 : MethodName := ⟨RJ0, "coder", "()B"⟩
abbrev cJ0_isLatin1_aae02 : ByteArray := prog_16_method_154_code
def yJ0_isLatin1_aae02 : MethodName := ⟨RJ0, "isLatin1", "()Z"⟩
abbrev cJ0_checkIndex_df160 : ByteArray := prog_16_method_155_code
def yJ0_checkIndex_df160 : MethodName := ⟨RJ0, "checkIndex", "(II)V"⟩
def RJ1 : String := "java/lang/StringLatin1"
def TJ1 : u_T := fun k => match k with
  | _ => ("", "", "", false)
def tyJ1 : Nat → FieldType := fun k => match k with
  | _ => .int
abbrev wsJ10 : List Cond := u_ws RJ1 TJ1 0
theorem nmJ1 : ∀ a, a < 0 → ∀ b, b < 0 → a ≠ b → (TJ1 a).2.1 ≠ (TJ1 b).2.1 := by decide +kernel
theorem tyJ1_ok : ∀ k, k < 0 → parseFieldDescriptor (TJ1 k).2.2.1 = some (tyJ1 k) := by decide +kernel
abbrev cJ1_charAt_3b067 : ByteArray := prog_17_method_2_code
def yJ1_charAt_3b067 : MethodName := ⟨RJ1, "charAt", "([BI)C"⟩
def RJ2 : String := "java/lang/StringUTF16"
def TJ2 : u_T := fun k => match k with
  | _ => ("", "", "", false)
def tyJ2 : Nat → FieldType := fun k => match k with
  | _ => .int
abbrev wsJ20 : List Cond := u_ws RJ2 TJ2 0
theorem nmJ2 : ∀ a, a < 0 → ∀ b, b < 0 → a ≠ b → (TJ2 a).2.1 ≠ (TJ2 b).2.1 := by decide +kernel
theorem tyJ2_ok : ∀ k, k < 0 → parseFieldDescriptor (TJ2 k).2.2.1 = some (tyJ2 k) := by decide +kernel
abbrev cJ2_getChar_3b067 : ByteArray := prog_18_method_5_code
def yJ2_getChar_3b067 : MethodName := ⟨RJ2, "getChar", "([BI)C"⟩
abbrev cJ2_length_9d52b : ByteArray := prog_18_method_6_code
def yJ2_length_9d52b : MethodName := ⟨RJ2, "length", "([B)I"⟩
abbrev cJ2_charAt_3b067 : ByteArray := prog_18_method_83_code
def yJ2_charAt_3b067 : MethodName := ⟨RJ2, "charAt", "([BI)C"⟩
abbrev cJ2_checkIndex_2214a : ByteArray := prog_18_method_91_code
def yJ2_checkIndex_2214a : MethodName := ⟨RJ2, "checkIndex", "(I[B)V"⟩
def RJ10 : String := "java/lang/System"
def TJ10 : u_T := fun k => match k with
  | _ => ("", "", "", false)
def tyJ10 : Nat → FieldType := fun k => match k with
  | _ => .int
abbrev wsJ100 : List Cond := u_ws RJ10 TJ10 0
theorem nmJ10 : ∀ a, a < 0 → ∀ b, b < 0 → a ≠ b → (TJ10 a).2.1 ≠ (TJ10 b).2.1 := by decide +kernel
theorem tyJ10_ok : ∀ k, k < 0 → parseFieldDescriptor (TJ10 k).2.2.1 = some (tyJ10 k) := by decide +kernel
def RJxfd54e : String := "java/lang/constant/Constable"
def TJxfd54e : u_T := fun k => match k with
  | _ => ("", "", "", false)
def tyJxfd54e : Nat → FieldType := fun k => match k with
  | _ => .int
abbrev wsJxfd54e0 : List Cond := u_ws RJxfd54e TJxfd54e 0
theorem nmJxfd54e : ∀ a, a < 0 → ∀ b, b < 0 → a ≠ b → (TJxfd54e a).2.1 ≠ (TJxfd54e b).2.1 := by decide +kernel
theorem tyJxfd54e_ok : ∀ k, k < 0 → parseFieldDescriptor (TJxfd54e k).2.2.1 = some (tyJxfd54e k) := by decide +kernel
def RJx3cf43 : String := "java/lang/constant/ConstantDesc"
def TJx3cf43 : u_T := fun k => match k with
  | _ => ("", "", "", false)
def tyJx3cf43 : Nat → FieldType := fun k => match k with
  | _ => .int
abbrev wsJx3cf430 : List Cond := u_ws RJx3cf43 TJx3cf43 0
theorem nmJx3cf43 : ∀ a, a < 0 → ∀ b, b < 0 → a ≠ b → (TJx3cf43 a).2.1 ≠ (TJx3cf43 b).2.1 := by decide +kernel
theorem tyJx3cf43_ok : ∀ k, k < 0 → parseFieldDescriptor (TJx3cf43 k).2.2.1 = some (tyJx3cf43 k) := by decide +kernel
def RJ7 : String := "java/util/Arrays"
def TJ7 : u_T := fun k => match k with
  | _ => ("", "", "", false)
def tyJ7 : Nat → FieldType := fun k => match k with
  | _ => .int
abbrev wsJ70 : List Cond := u_ws RJ7 TJ7 0
theorem nmJ7 : ∀ a, a < 0 → ∀ b, b < 0 → a ≠ b → (TJ7 a).2.1 ≠ (TJ7 b).2.1 := by decide +kernel
theorem tyJ7_ok : ∀ k, k < 0 → parseFieldDescriptor (TJ7 k).2.2.1 = some (tyJ7 k) := by decide +kernel
abbrev cJ7_fill_d0a16 : ByteArray := prog_20_method_101_code
def yJ7_fill_d0a16 : MethodName := ⟨RJ7, "fill", "([JJ)V"⟩
abbrev cJ7_fill_53178 : ByteArray := prog_20_method_103_code
def yJ7_fill_53178 : MethodName := ⟨RJ7, "fill", "([II)V"⟩
def RJ3 : String := "jdk/internal/util/Preconditions"
def TJ3 : u_T := fun k => match k with
  | _ => ("", "", "", false)
def tyJ3 : Nat → FieldType := fun k => match k with
  | _ => .int
abbrev wsJ30 : List Cond := u_ws RJ3 TJ3 0
theorem nmJ3 : ∀ a, a < 0 → ∀ b, b < 0 → a ≠ b → (TJ3 a).2.1 ≠ (TJ3 b).2.1 := by decide +kernel
theorem tyJ3_ok : ∀ k, k < 0 → parseFieldDescriptor (TJ3 k).2.2.1 = some (tyJ3 k) := by decide +kernel
abbrev cJ3_checkIndex_8e157 : ByteArray := prog_21_method_11_code
def yJ3_checkIndex_8e157 : MethodName := ⟨RJ3, "checkIndex", "(IILjava/util/function/BiFunction;)I"⟩
def RL : String := "CommitPrefixesLaw"
abbrev cL_law : ByteArray := code
def yL_law : MethodName := ⟨RL, "law", "([I)Z"⟩
abbrev vwCl : List vw_C := [(RX1, TX1, 7), (RX3, TX3, 6), (RX4, TX4, 17), (RX5, TX5, 9), (RX6, TX6, 8), (RX8, TX8, 4), (RX9, TX9, 13), (RX10, TX10, 43)]
end
section
/-- the words that a contract may carry: those of the tables that hold as long as the classes stand -/
def TT : List Cond := lw_tbl.filter goodWord
theorem tt_mem {w : Cond} (h : w ∈ lw_tbl) (g : goodWord w = true) : w ∈ TT := List.mem_filter.mpr ⟨h, g⟩
theorem tt_good {w : Cond} (h : w ∈ TT) : goodWord w = true := (List.mem_filter.mp h).2
theorem tt_tbl {w : Cond} (h : w ∈ TT) : w ∈ lw_tbl := (List.mem_filter.mp h).1
theorem tb_1 : ∀ w ∈ tables_1_1, w ∈ lw_tbl := fun _ h => List.mem_append_right _ (List.mem_append_left _ h)
theorem tb_2 : ∀ w ∈ tables_1_2, w ∈ lw_tbl := fun _ h => List.mem_append_right _ (List.mem_append_right _ (List.mem_append_left _ h))
theorem tb_3 : ∀ w ∈ tables_1_3, w ∈ lw_tbl := fun _ h => List.mem_append_right _ (List.mem_append_right _ (List.mem_append_right _ (List.mem_append_left _ h)))
theorem tb_4 : ∀ w ∈ tables_1_4, w ∈ lw_tbl := fun _ h => List.mem_append_right _ (List.mem_append_right _ (List.mem_append_right _ (List.mem_append_right _ (List.mem_append_left _ h))))
theorem tb_5 : ∀ w ∈ tables_1_5, w ∈ lw_tbl := fun _ h => List.mem_append_right _ (List.mem_append_right _ (List.mem_append_right _ (List.mem_append_right _ (List.mem_append_right _ (List.mem_append_left _ h)))))
theorem tb_6 : ∀ w ∈ tables_1_6, w ∈ lw_tbl := fun _ h => List.mem_append_right _ (List.mem_append_right _ (List.mem_append_right _ (List.mem_append_right _ (List.mem_append_right _ (List.mem_append_right _ (List.mem_append_left _ h))))))
theorem tb_7 : ∀ w ∈ tables_1_7, w ∈ lw_tbl := fun _ h => List.mem_append_right _ (List.mem_append_right _ (List.mem_append_right _ (List.mem_append_right _ (List.mem_append_right _ (List.mem_append_right _ (List.mem_append_right _ (h)))))))
theorem k1_0 : Jvm.Cond.initialized "CommitPrefixesLaw" ∈ TT := tt_mem (tb_1 _ (List.mem_of_getElem? (i := 0) rfl)) rfl
theorem k1_1 : Jvm.Cond.initialized "CommitPrefixes" ∈ TT := tt_mem (tb_1 _ (List.mem_of_getElem? (i := 1) rfl)) rfl
theorem k1_2 : Jvm.Cond.initialized "CommitPrefixes$Setup" ∈ TT := tt_mem (tb_1 _ (List.mem_of_getElem? (i := 2) rfl)) rfl
theorem k1_3 : Jvm.Cond.initialized "java/util/Arrays" ∈ TT := tt_mem (tb_1 _ (List.mem_of_getElem? (i := 3) rfl)) rfl
theorem k1_4 : Jvm.Cond.initialized "CommitPrefixes$TextReader" ∈ TT := tt_mem (tb_1 _ (List.mem_of_getElem? (i := 4) rfl)) rfl
theorem k1_5 : Jvm.Cond.initialized "CommitPrefixes$Run" ∈ TT := tt_mem (tb_1 _ (List.mem_of_getElem? (i := 5) rfl)) rfl
theorem k1_6 : Jvm.Cond.initialized "CommitPrefixes$Site" ∈ TT := tt_mem (tb_1 _ (List.mem_of_getElem? (i := 6) rfl)) rfl
theorem k1_7 : Jvm.Cond.initialized "CommitPrefixes$Coordinator" ∈ TT := tt_mem (tb_1 _ (List.mem_of_getElem? (i := 7) rfl)) rfl
theorem k1_8 : Jvm.Cond.initialized "CommitPrefixes$Participant" ∈ TT := tt_mem (tb_1 _ (List.mem_of_getElem? (i := 8) rfl)) rfl
theorem k1_9 : Jvm.Cond.initialized "CommitPrefixes$Shelf" ∈ TT := tt_mem (tb_1 _ (List.mem_of_getElem? (i := 9) rfl)) rfl
theorem k1_10 : Jvm.Cond.initialized "CommitPrefixesModel" ∈ TT := tt_mem (tb_1 _ (List.mem_of_getElem? (i := 10) rfl)) rfl
theorem k1_11 : Jvm.Cond.initialized "java/lang/System" ∈ TT := tt_mem (tb_1 _ (List.mem_of_getElem? (i := 11) rfl)) rfl
theorem k1_12 : Jvm.Cond.initialized "java/lang/String" ∈ TT := tt_mem (tb_1 _ (List.mem_of_getElem? (i := 12) rfl)) rfl
theorem k1_13 : Jvm.Cond.initialized "java/lang/StringLatin1" ∈ TT := tt_mem (tb_1 _ (List.mem_of_getElem? (i := 13) rfl)) rfl
theorem k1_14 : Jvm.Cond.initialized "jdk/internal/util/Preconditions" ∈ TT := tt_mem (tb_1 _ (List.mem_of_getElem? (i := 14) rfl)) rfl
theorem k1_15 : Jvm.Cond.initialized "java/lang/StringUTF16" ∈ TT := tt_mem (tb_1 _ (List.mem_of_getElem? (i := 15) rfl)) rfl
theorem k1_16 : Jvm.Cond.initialized "java/lang/Math" ∈ TT := tt_mem (tb_1 _ (List.mem_of_getElem? (i := 16) rfl)) rfl
theorem k1_17 : Jvm.Cond.initialized "CommitPrefixes$1" ∈ TT := tt_mem (tb_1 _ (List.mem_of_getElem? (i := 17) rfl)) rfl
theorem k1_18 : Jvm.Cond.initialized "java/lang/Enum" ∈ TT := tt_mem (tb_1 _ (List.mem_of_getElem? (i := 18) rfl)) rfl
theorem k1_19 : Jvm.Cond.initialized "CommitPrefixes$Item" ∈ TT := tt_mem (tb_1 _ (List.mem_of_getElem? (i := 19) rfl)) rfl
theorem k1_20 : Jvm.Cond.initialized "java/lang/Long" ∈ TT := tt_mem (tb_1 _ (List.mem_of_getElem? (i := 20) rfl)) rfl
theorem k1_21 : Jvm.Cond.classLink "CommitPrefixesLaw" 7 "CommitPrefixes" ∈ TT := tt_mem (tb_1 _ (List.mem_of_getElem? (i := 21) rfl)) rfl
theorem k1_22 : Jvm.Cond.instantiable "CommitPrefixes" 13 ∈ TT := tt_mem (tb_1 _ (List.mem_of_getElem? (i := 22) rfl)) rfl
theorem k1_23 : Jvm.Cond.methodLink "CommitPrefixesLaw" 9 ⟨"CommitPrefixes", "<init>", "()V"⟩ ∈ TT := tt_mem (tb_1 _ (List.mem_of_getElem? (i := 23) rfl)) rfl
theorem k1_24 : Jvm.Cond.instanceMethod ⟨"CommitPrefixes", "<init>", "()V"⟩ ∈ TT := tt_mem (tb_1 _ (List.mem_of_getElem? (i := 24) rfl)) rfl
theorem k1_25 : Jvm.Cond.code ⟨"CommitPrefixes", "<init>", "()V"⟩ prog_1_method_1_code 2 Option.none ∈ TT := tt_mem (tb_1 _ (List.mem_of_getElem? (i := 25) rfl)) rfl
theorem k1_26 : Jvm.Cond.methodLink "CommitPrefixes" 1 ⟨"java/lang/Object", "<init>", "()V"⟩ ∈ TT := tt_mem (tb_1 _ (List.mem_of_getElem? (i := 26) rfl)) rfl
theorem k1_27 : Jvm.Cond.instanceMethod ⟨"java/lang/Object", "<init>", "()V"⟩ ∈ TT := tt_mem (tb_1 _ (List.mem_of_getElem? (i := 27) rfl)) rfl
theorem k1_28 : Jvm.Cond.code ⟨"java/lang/Object", "<init>", "()V"⟩ object_method_1_code 1 Option.none ∈ TT := tt_mem (tb_1 _ (List.mem_of_getElem? (i := 28) rfl)) rfl
theorem k1_29 : Jvm.Cond.classLink "CommitPrefixes" 9 "CommitPrefixes$Shelf" ∈ TT := tt_mem (tb_1 _ (List.mem_of_getElem? (i := 29) rfl)) rfl
theorem n1_30 : Jvm.Cond.arrayOver (Jvm.ClassFile.FieldType.object "CommitPrefixes$Shelf") ∈ lw_tbl := tb_1 _ (List.mem_of_getElem? (i := 30) rfl)
theorem k1_31 : Jvm.Cond.classLink "CommitPrefixes" 19 "CommitPrefixes$Setup" ∈ TT := tt_mem (tb_1 _ (List.mem_of_getElem? (i := 31) rfl)) rfl
theorem k1_32 : Jvm.Cond.instantiable "CommitPrefixes$Setup" 9 ∈ TT := tt_mem (tb_1 _ (List.mem_of_getElem? (i := 32) rfl)) rfl
theorem k1_33 : Jvm.Cond.methodLink "CommitPrefixes" 21 ⟨"CommitPrefixes$Setup", "<init>", "()V"⟩ ∈ TT := tt_mem (tb_1 _ (List.mem_of_getElem? (i := 33) rfl)) rfl
theorem k1_34 : Jvm.Cond.instanceMethod ⟨"CommitPrefixes$Setup", "<init>", "()V"⟩ ∈ TT := tt_mem (tb_1 _ (List.mem_of_getElem? (i := 34) rfl)) rfl
theorem k1_35 : Jvm.Cond.code ⟨"CommitPrefixes$Setup", "<init>", "()V"⟩ prog_7_method_1_code 1 Option.none ∈ TT := tt_mem (tb_1 _ (List.mem_of_getElem? (i := 35) rfl)) rfl
theorem k1_36 : Jvm.Cond.methodLink "CommitPrefixes$Setup" 3 ⟨"java/lang/Object", "<init>", "()V"⟩ ∈ TT := tt_mem (tb_1 _ (List.mem_of_getElem? (i := 36) rfl)) rfl
theorem k1_37 : Jvm.Cond.methodLink "CommitPrefixes$Setup" 42 ⟨"java/util/Arrays", "fill", "([II)V"⟩ ∈ TT := tt_mem (tb_1 _ (List.mem_of_getElem? (i := 37) rfl)) rfl
theorem k1_38 : Jvm.Cond.static ⟨"java/util/Arrays", "fill", "([II)V"⟩ ∈ TT := tt_mem (tb_1 _ (List.mem_of_getElem? (i := 38) rfl)) rfl
theorem k1_39 : Jvm.Cond.code ⟨"java/util/Arrays", "fill", "([II)V"⟩ prog_20_method_103_code 4 Option.none ∈ TT := tt_mem (tb_1 _ (List.mem_of_getElem? (i := 39) rfl)) rfl
theorem k1_40 : Jvm.Cond.fieldLink "CommitPrefixes$Setup" 9 "CommitPrefixes$Setup" "participants" "I" ∈ TT := tt_mem (tb_1 _ (List.mem_of_getElem? (i := 40) rfl)) rfl
theorem k1_41 : Jvm.Cond.fieldLink "CommitPrefixes$Run" 107 "CommitPrefixes$Setup" "participants" "I" ∈ TT := tt_mem (tb_1 _ (List.mem_of_getElem? (i := 41) rfl)) rfl
theorem k1_42 : Jvm.Cond.fieldLink "CommitPrefixes" 302 "CommitPrefixes$Setup" "participants" "I" ∈ TT := tt_mem (tb_1 _ (List.mem_of_getElem? (i := 42) rfl)) rfl
theorem k1_43 : Jvm.Cond.fieldLink "CommitPrefixes$Setup" 15 "CommitPrefixes$Setup" "phases" "I" ∈ TT := tt_mem (tb_1 _ (List.mem_of_getElem? (i := 43) rfl)) rfl
theorem k1_44 : Jvm.Cond.fieldLink "CommitPrefixes$Participant" 76 "CommitPrefixes$Setup" "phases" "I" ∈ TT := tt_mem (tb_1 _ (List.mem_of_getElem? (i := 44) rfl)) rfl
theorem k1_45 : Jvm.Cond.fieldLink "CommitPrefixes$Coordinator" 56 "CommitPrefixes$Setup" "phases" "I" ∈ TT := tt_mem (tb_1 _ (List.mem_of_getElem? (i := 45) rfl)) rfl
theorem k1_46 : Jvm.Cond.fieldLink "CommitPrefixes$Setup" 18 "CommitPrefixes$Setup" "wait" "I" ∈ TT := tt_mem (tb_1 _ (List.mem_of_getElem? (i := 46) rfl)) rfl
theorem k1_47 : Jvm.Cond.fieldLink "CommitPrefixes$Run" 150 "CommitPrefixes$Setup" "wait" "I" ∈ TT := tt_mem (tb_1 _ (List.mem_of_getElem? (i := 47) rfl)) rfl
theorem k1_48 : Jvm.Cond.fieldLink "CommitPrefixes$Setup" 21 "CommitPrefixes$Setup" "presumed" "Z" ∈ TT := tt_mem (tb_1 _ (List.mem_of_getElem? (i := 48) rfl)) rfl
theorem k1_49 : Jvm.Cond.fieldLink "CommitPrefixes" 275 "CommitPrefixes$Setup" "presumed" "Z" ∈ TT := tt_mem (tb_1 _ (List.mem_of_getElem? (i := 49) rfl)) rfl
theorem k1_50 : Jvm.Cond.fieldLink "CommitPrefixes$Setup" 25 "CommitPrefixes$Setup" "votes" "I" ∈ TT := tt_mem (tb_1 _ (List.mem_of_getElem? (i := 50) rfl)) rfl
theorem k1_51 : Jvm.Cond.fieldLink "CommitPrefixes" 203 "CommitPrefixes$Setup" "votes" "I" ∈ TT := tt_mem (tb_1 _ (List.mem_of_getElem? (i := 51) rfl)) rfl
theorem k1_52 : Jvm.Cond.fieldLink "CommitPrefixes$Setup" 28 "CommitPrefixes$Setup" "losses" "J" ∈ TT := tt_mem (tb_1 _ (List.mem_of_getElem? (i := 52) rfl)) rfl
theorem k1_53 : Jvm.Cond.fieldLink "CommitPrefixes" 186 "CommitPrefixes$Setup" "losses" "J" ∈ TT := tt_mem (tb_1 _ (List.mem_of_getElem? (i := 53) rfl)) rfl
theorem k1_54 : Jvm.Cond.fieldLink "CommitPrefixes$Setup" 32 "CommitPrefixes$Setup" "goesDown" "[I" ∈ TT := tt_mem (tb_1 _ (List.mem_of_getElem? (i := 54) rfl)) rfl
theorem k1_55 : Jvm.Cond.fieldLink "CommitPrefixes$Run" 120 "CommitPrefixes$Setup" "goesDown" "[I" ∈ TT := tt_mem (tb_1 _ (List.mem_of_getElem? (i := 55) rfl)) rfl
theorem k1_56 : Jvm.Cond.fieldLink "CommitPrefixes$Setup" 36 "CommitPrefixes$Setup" "comesUp" "[I" ∈ TT := tt_mem (tb_1 _ (List.mem_of_getElem? (i := 56) rfl)) rfl
theorem k1_57 : Jvm.Cond.fieldLink "CommitPrefixes$Run" 110 "CommitPrefixes$Setup" "comesUp" "[I" ∈ TT := tt_mem (tb_1 _ (List.mem_of_getElem? (i := 57) rfl)) rfl
theorem k1_58 : Jvm.Cond.fieldLink "CommitPrefixes$Setup" 39 "CommitPrefixes$Setup" "seed" "I" ∈ TT := tt_mem (tb_1 _ (List.mem_of_getElem? (i := 58) rfl)) rfl
theorem k1_59 : Jvm.Cond.fieldLink "CommitPrefixes" 219 "CommitPrefixes$Setup" "seed" "I" ∈ TT := tt_mem (tb_1 _ (List.mem_of_getElem? (i := 59) rfl)) rfl
theorem k1_60 : Jvm.Cond.lays "CommitPrefixes$Setup" "CommitPrefixes$Setup" "participants" "I" ∈ TT := tt_mem (tb_1 _ (List.mem_of_getElem? (i := 60) rfl)) rfl
theorem k1_62 : Jvm.Cond.lays "CommitPrefixes$Setup" "CommitPrefixes$Setup" "phases" "I" ∈ TT := tt_mem (tb_1 _ (List.mem_of_getElem? (i := 62) rfl)) rfl
theorem k1_64 : Jvm.Cond.lays "CommitPrefixes$Setup" "CommitPrefixes$Setup" "wait" "I" ∈ TT := tt_mem (tb_1 _ (List.mem_of_getElem? (i := 64) rfl)) rfl
theorem k1_66 : Jvm.Cond.lays "CommitPrefixes$Setup" "CommitPrefixes$Setup" "presumed" "Z" ∈ TT := tt_mem (tb_1 _ (List.mem_of_getElem? (i := 66) rfl)) rfl
theorem k1_68 : Jvm.Cond.lays "CommitPrefixes$Setup" "CommitPrefixes$Setup" "votes" "I" ∈ TT := tt_mem (tb_1 _ (List.mem_of_getElem? (i := 68) rfl)) rfl
theorem k1_70 : Jvm.Cond.lays "CommitPrefixes$Setup" "CommitPrefixes$Setup" "losses" "J" ∈ TT := tt_mem (tb_1 _ (List.mem_of_getElem? (i := 70) rfl)) rfl
theorem k1_72 : Jvm.Cond.laysFinal "CommitPrefixes$Setup" "CommitPrefixes$Setup" "goesDown" "[I" ∈ TT := tt_mem (tb_1 _ (List.mem_of_getElem? (i := 72) rfl)) rfl
theorem k1_74 : Jvm.Cond.laysFinal "CommitPrefixes$Setup" "CommitPrefixes$Setup" "comesUp" "[I" ∈ TT := tt_mem (tb_1 _ (List.mem_of_getElem? (i := 74) rfl)) rfl
theorem k1_76 : Jvm.Cond.lays "CommitPrefixes$Setup" "CommitPrefixes$Setup" "seed" "I" ∈ TT := tt_mem (tb_1 _ (List.mem_of_getElem? (i := 76) rfl)) rfl
theorem k1_78 : Jvm.Cond.superclass "CommitPrefixes$Setup" "java/lang/Object" ∈ TT := tt_mem (tb_1 _ (List.mem_of_getElem? (i := 78) rfl)) rfl
theorem k1_79 : Jvm.Cond.arrayClass Jvm.ClassFile.FieldType.int ∈ TT := tt_mem (tb_1 _ (List.mem_of_getElem? (i := 79) rfl)) rfl
theorem k1_80 : Jvm.Cond.classLink "CommitPrefixes" 33 "CommitPrefixes$TextReader" ∈ TT := tt_mem (tb_1 _ (List.mem_of_getElem? (i := 80) rfl)) rfl
theorem k1_81 : Jvm.Cond.instantiable "CommitPrefixes$TextReader" 4 ∈ TT := tt_mem (tb_1 _ (List.mem_of_getElem? (i := 81) rfl)) rfl
theorem n1_82 : Jvm.Cond.methodLinkNest "CommitPrefixes" 35 ⟨"CommitPrefixes$TextReader", "<init>", "()V"⟩ "CommitPrefixes" ∈ lw_tbl := tb_1 _ (List.mem_of_getElem? (i := 82) rfl)
theorem k1_83 : Jvm.Cond.instanceMethod ⟨"CommitPrefixes$TextReader", "<init>", "()V"⟩ ∈ TT := tt_mem (tb_1 _ (List.mem_of_getElem? (i := 83) rfl)) rfl
theorem k1_84 : Jvm.Cond.code ⟨"CommitPrefixes$TextReader", "<init>", "()V"⟩ prog_10_method_1_code 1 Option.none ∈ TT := tt_mem (tb_1 _ (List.mem_of_getElem? (i := 84) rfl)) rfl
theorem k1_85 : Jvm.Cond.methodLink "CommitPrefixes$TextReader" 3 ⟨"java/lang/Object", "<init>", "()V"⟩ ∈ TT := tt_mem (tb_1 _ (List.mem_of_getElem? (i := 85) rfl)) rfl
theorem k1_86 : Jvm.Cond.classLink "CommitPrefixes$TextReader" 9 "CommitPrefixes$Setup" ∈ TT := tt_mem (tb_1 _ (List.mem_of_getElem? (i := 86) rfl)) rfl
theorem k1_87 : Jvm.Cond.methodLink "CommitPrefixes$TextReader" 11 ⟨"CommitPrefixes$Setup", "<init>", "()V"⟩ ∈ TT := tt_mem (tb_1 _ (List.mem_of_getElem? (i := 87) rfl)) rfl
theorem k1_88 : Jvm.Cond.fieldLink "CommitPrefixes$TextReader" 12 "CommitPrefixes$TextReader" "draft" "LCommitPrefixes$Setup;" ∈ TT := tt_mem (tb_1 _ (List.mem_of_getElem? (i := 88) rfl)) rfl
theorem k1_89 : Jvm.Cond.fieldLink "CommitPrefixes" 154 "CommitPrefixes$TextReader" "draft" "LCommitPrefixes$Setup;" ∈ TT := tt_mem (tb_1 _ (List.mem_of_getElem? (i := 89) rfl)) rfl
theorem k1_90 : Jvm.Cond.fieldLink "CommitPrefixes$TextReader" 18 "CommitPrefixes$TextReader" "fault" "I" ∈ TT := tt_mem (tb_1 _ (List.mem_of_getElem? (i := 90) rfl)) rfl
theorem k1_91 : Jvm.Cond.fieldLink "CommitPrefixes" 164 "CommitPrefixes$TextReader" "fault" "I" ∈ TT := tt_mem (tb_1 _ (List.mem_of_getElem? (i := 91) rfl)) rfl
theorem k1_92 : Jvm.Cond.fieldLink "CommitPrefixes$TextReader" 22 "CommitPrefixes$TextReader" "place" "I" ∈ TT := tt_mem (tb_1 _ (List.mem_of_getElem? (i := 92) rfl)) rfl
theorem k1_93 : Jvm.Cond.fieldLink "CommitPrefixes$TextReader" 25 "CommitPrefixes$TextReader" "numbers" "[I" ∈ TT := tt_mem (tb_1 _ (List.mem_of_getElem? (i := 93) rfl)) rfl
theorem k1_94 : Jvm.Cond.laysFinal "CommitPrefixes$TextReader" "CommitPrefixes$TextReader" "draft" "LCommitPrefixes$Setup;" ∈ TT := tt_mem (tb_1 _ (List.mem_of_getElem? (i := 94) rfl)) rfl
theorem k1_96 : Jvm.Cond.lays "CommitPrefixes$TextReader" "CommitPrefixes$TextReader" "fault" "I" ∈ TT := tt_mem (tb_1 _ (List.mem_of_getElem? (i := 96) rfl)) rfl
theorem k1_98 : Jvm.Cond.lays "CommitPrefixes$TextReader" "CommitPrefixes$TextReader" "place" "I" ∈ TT := tt_mem (tb_1 _ (List.mem_of_getElem? (i := 98) rfl)) rfl
theorem k1_100 : Jvm.Cond.laysFinal "CommitPrefixes$TextReader" "CommitPrefixes$TextReader" "numbers" "[I" ∈ TT := tt_mem (tb_1 _ (List.mem_of_getElem? (i := 100) rfl)) rfl
theorem k1_102 : Jvm.Cond.superclass "CommitPrefixes$TextReader" "java/lang/Object" ∈ TT := tt_mem (tb_1 _ (List.mem_of_getElem? (i := 102) rfl)) rfl
theorem k1_103 : Jvm.Cond.classLink "CommitPrefixes" 44 "CommitPrefixes$Run" ∈ TT := tt_mem (tb_1 _ (List.mem_of_getElem? (i := 103) rfl)) rfl
theorem k1_104 : Jvm.Cond.instantiable "CommitPrefixes$Run" 17 ∈ TT := tt_mem (tb_1 _ (List.mem_of_getElem? (i := 104) rfl)) rfl
theorem k1_105 : Jvm.Cond.methodLink "CommitPrefixes" 46 ⟨"CommitPrefixes$Run", "<init>", "(LCommitPrefixes$Setup;)V"⟩ ∈ TT := tt_mem (tb_1 _ (List.mem_of_getElem? (i := 105) rfl)) rfl
theorem k1_106 : Jvm.Cond.instanceMethod ⟨"CommitPrefixes$Run", "<init>", "(LCommitPrefixes$Setup;)V"⟩ ∈ TT := tt_mem (tb_1 _ (List.mem_of_getElem? (i := 106) rfl)) rfl
theorem k1_107 : Jvm.Cond.code ⟨"CommitPrefixes$Run", "<init>", "(LCommitPrefixes$Setup;)V"⟩ prog_6_method_1_code 3 Option.none ∈ TT := tt_mem (tb_1 _ (List.mem_of_getElem? (i := 107) rfl)) rfl
theorem k1_108 : Jvm.Cond.methodLink "CommitPrefixes$Run" 3 ⟨"java/lang/Object", "<init>", "()V"⟩ ∈ TT := tt_mem (tb_1 _ (List.mem_of_getElem? (i := 108) rfl)) rfl
theorem k1_109 : Jvm.Cond.classLink "CommitPrefixes$Run" 9 "CommitPrefixes$Coordinator" ∈ TT := tt_mem (tb_1 _ (List.mem_of_getElem? (i := 109) rfl)) rfl
theorem k1_110 : Jvm.Cond.instantiable "CommitPrefixes$Coordinator" 7 ∈ TT := tt_mem (tb_1 _ (List.mem_of_getElem? (i := 110) rfl)) rfl
theorem k1_111 : Jvm.Cond.methodLink "CommitPrefixes$Run" 11 ⟨"CommitPrefixes$Coordinator", "<init>", "()V"⟩ ∈ TT := tt_mem (tb_1 _ (List.mem_of_getElem? (i := 111) rfl)) rfl
theorem k1_112 : Jvm.Cond.instanceMethod ⟨"CommitPrefixes$Coordinator", "<init>", "()V"⟩ ∈ TT := tt_mem (tb_1 _ (List.mem_of_getElem? (i := 112) rfl)) rfl
theorem k1_113 : Jvm.Cond.code ⟨"CommitPrefixes$Coordinator", "<init>", "()V"⟩ prog_3_method_1_code 1 Option.none ∈ TT := tt_mem (tb_1 _ (List.mem_of_getElem? (i := 113) rfl)) rfl
theorem k1_114 : Jvm.Cond.methodLink "CommitPrefixes$Coordinator" 3 ⟨"CommitPrefixes$Site", "<init>", "(I)V"⟩ ∈ TT := tt_mem (tb_1 _ (List.mem_of_getElem? (i := 114) rfl)) rfl
theorem k1_115 : Jvm.Cond.instanceMethod ⟨"CommitPrefixes$Site", "<init>", "(I)V"⟩ ∈ TT := tt_mem (tb_1 _ (List.mem_of_getElem? (i := 115) rfl)) rfl
theorem k1_116 : Jvm.Cond.code ⟨"CommitPrefixes$Site", "<init>", "(I)V"⟩ prog_9_method_1_code 2 Option.none ∈ TT := tt_mem (tb_1 _ (List.mem_of_getElem? (i := 116) rfl)) rfl
theorem k1_117 : Jvm.Cond.methodLink "CommitPrefixes$Site" 3 ⟨"java/lang/Object", "<init>", "()V"⟩ ∈ TT := tt_mem (tb_1 _ (List.mem_of_getElem? (i := 117) rfl)) rfl
theorem k1_118 : Jvm.Cond.fieldLink "CommitPrefixes$Coordinator" 9 "CommitPrefixes$Coordinator" "counted" "I" ∈ TT := tt_mem (tb_1 _ (List.mem_of_getElem? (i := 118) rfl)) rfl
theorem k1_119 : Jvm.Cond.fieldLink "CommitPrefixes$Site" 29 "CommitPrefixes$Site" "number" "I" ∈ TT := tt_mem (tb_1 _ (List.mem_of_getElem? (i := 119) rfl)) rfl
theorem k1_120 : Jvm.Cond.fieldLink "CommitPrefixes$Coordinator" 28 "CommitPrefixes$Coordinator" "number" "I" ∈ TT := tt_mem (tb_1 _ (List.mem_of_getElem? (i := 120) rfl)) rfl
theorem k1_121 : Jvm.Cond.sameField "CommitPrefixes$Coordinator" "CommitPrefixes$Site" "number" "I" ∈ TT := tt_mem (tb_1 _ (List.mem_of_getElem? (i := 121) rfl)) rfl
theorem k1_122 : Jvm.Cond.fieldLink "CommitPrefixes$Participant" 45 "CommitPrefixes$Participant" "number" "I" ∈ TT := tt_mem (tb_1 _ (List.mem_of_getElem? (i := 122) rfl)) rfl
theorem k1_123 : Jvm.Cond.sameField "CommitPrefixes$Participant" "CommitPrefixes$Site" "number" "I" ∈ TT := tt_mem (tb_1 _ (List.mem_of_getElem? (i := 123) rfl)) rfl
theorem k1_124 : Jvm.Cond.fieldLink "CommitPrefixes$Site" 11 "CommitPrefixes$Site" "log" "[I" ∈ TT := tt_mem (tb_1 _ (List.mem_of_getElem? (i := 124) rfl)) rfl
theorem k1_125 : Jvm.Cond.fieldLink "CommitPrefixes" 249 "CommitPrefixes$Site" "log" "[I" ∈ TT := tt_mem (tb_1 _ (List.mem_of_getElem? (i := 125) rfl)) rfl
theorem k1_126 : Jvm.Cond.fieldLink "CommitPrefixes$Site" 15 "CommitPrefixes$Site" "length" "I" ∈ TT := tt_mem (tb_1 _ (List.mem_of_getElem? (i := 126) rfl)) rfl
theorem k1_127 : Jvm.Cond.fieldLink "CommitPrefixes$Run" 147 "CommitPrefixes$Site" "length" "I" ∈ TT := tt_mem (tb_1 _ (List.mem_of_getElem? (i := 127) rfl)) rfl
theorem k1_128 : Jvm.Cond.fieldLink "CommitPrefixes$Coordinator" 81 "CommitPrefixes$Coordinator" "length" "I" ∈ TT := tt_mem (tb_1 _ (List.mem_of_getElem? (i := 128) rfl)) rfl
theorem k1_129 : Jvm.Cond.sameField "CommitPrefixes$Coordinator" "CommitPrefixes$Site" "length" "I" ∈ TT := tt_mem (tb_1 _ (List.mem_of_getElem? (i := 129) rfl)) rfl
theorem k1_130 : Jvm.Cond.fieldLink "CommitPrefixes" 244 "CommitPrefixes$Site" "length" "I" ∈ TT := tt_mem (tb_1 _ (List.mem_of_getElem? (i := 130) rfl)) rfl
theorem k1_131 : Jvm.Cond.fieldLink "CommitPrefixes$Site" 19 "CommitPrefixes$Site" "up" "Z" ∈ TT := tt_mem (tb_1 _ (List.mem_of_getElem? (i := 131) rfl)) rfl
theorem k1_132 : Jvm.Cond.fieldLink "CommitPrefixes$Run" 113 "CommitPrefixes$Site" "up" "Z" ∈ TT := tt_mem (tb_1 _ (List.mem_of_getElem? (i := 132) rfl)) rfl
theorem k1_133 : Jvm.Cond.fieldLink "CommitPrefixes$Run" 134 "CommitPrefixes$Coordinator" "up" "Z" ∈ TT := tt_mem (tb_1 _ (List.mem_of_getElem? (i := 133) rfl)) rfl
theorem k1_134 : Jvm.Cond.sameField "CommitPrefixes$Coordinator" "CommitPrefixes$Site" "up" "Z" ∈ TT := tt_mem (tb_1 _ (List.mem_of_getElem? (i := 134) rfl)) rfl
theorem k1_135 : Jvm.Cond.fieldLink "CommitPrefixes$Site" 23 "CommitPrefixes$Site" "state" "I" ∈ TT := tt_mem (tb_1 _ (List.mem_of_getElem? (i := 135) rfl)) rfl
theorem k1_136 : Jvm.Cond.fieldLink "CommitPrefixes$Participant" 26 "CommitPrefixes$Participant" "state" "I" ∈ TT := tt_mem (tb_1 _ (List.mem_of_getElem? (i := 136) rfl)) rfl
theorem k1_137 : Jvm.Cond.sameField "CommitPrefixes$Participant" "CommitPrefixes$Site" "state" "I" ∈ TT := tt_mem (tb_1 _ (List.mem_of_getElem? (i := 137) rfl)) rfl
theorem k1_138 : Jvm.Cond.fieldLink "CommitPrefixes$Coordinator" 45 "CommitPrefixes$Coordinator" "state" "I" ∈ TT := tt_mem (tb_1 _ (List.mem_of_getElem? (i := 138) rfl)) rfl
theorem k1_139 : Jvm.Cond.sameField "CommitPrefixes$Coordinator" "CommitPrefixes$Site" "state" "I" ∈ TT := tt_mem (tb_1 _ (List.mem_of_getElem? (i := 139) rfl)) rfl
theorem k1_140 : Jvm.Cond.fieldLink "CommitPrefixes$Run" 144 "CommitPrefixes$Site" "state" "I" ∈ TT := tt_mem (tb_1 _ (List.mem_of_getElem? (i := 140) rfl)) rfl
theorem k1_141 : Jvm.Cond.fieldLink "CommitPrefixes$Site" 26 "CommitPrefixes$Site" "timer" "I" ∈ TT := tt_mem (tb_1 _ (List.mem_of_getElem? (i := 141) rfl)) rfl
theorem k1_142 : Jvm.Cond.fieldLink "CommitPrefixes$Participant" 35 "CommitPrefixes$Participant" "timer" "I" ∈ TT := tt_mem (tb_1 _ (List.mem_of_getElem? (i := 142) rfl)) rfl
theorem k1_143 : Jvm.Cond.sameField "CommitPrefixes$Participant" "CommitPrefixes$Site" "timer" "I" ∈ TT := tt_mem (tb_1 _ (List.mem_of_getElem? (i := 143) rfl)) rfl
theorem k1_144 : Jvm.Cond.fieldLink "CommitPrefixes$Run" 138 "CommitPrefixes$Site" "timer" "I" ∈ TT := tt_mem (tb_1 _ (List.mem_of_getElem? (i := 144) rfl)) rfl
theorem k1_145 : Jvm.Cond.fieldLink "CommitPrefixes$Coordinator" 74 "CommitPrefixes$Coordinator" "timer" "I" ∈ TT := tt_mem (tb_1 _ (List.mem_of_getElem? (i := 145) rfl)) rfl
theorem k1_146 : Jvm.Cond.sameField "CommitPrefixes$Coordinator" "CommitPrefixes$Site" "timer" "I" ∈ TT := tt_mem (tb_1 _ (List.mem_of_getElem? (i := 146) rfl)) rfl
theorem k1_147 : Jvm.Cond.lays "CommitPrefixes$Coordinator" "CommitPrefixes$Coordinator" "counted" "I" ∈ TT := tt_mem (tb_1 _ (List.mem_of_getElem? (i := 147) rfl)) rfl
theorem k1_149 : Jvm.Cond.laysFinal "CommitPrefixes$Coordinator" "CommitPrefixes$Site" "number" "I" ∈ TT := tt_mem (tb_1 _ (List.mem_of_getElem? (i := 149) rfl)) rfl
theorem k1_151 : Jvm.Cond.laysFinal "CommitPrefixes$Coordinator" "CommitPrefixes$Site" "log" "[I" ∈ TT := tt_mem (tb_1 _ (List.mem_of_getElem? (i := 151) rfl)) rfl
theorem k1_153 : Jvm.Cond.lays "CommitPrefixes$Coordinator" "CommitPrefixes$Site" "length" "I" ∈ TT := tt_mem (tb_1 _ (List.mem_of_getElem? (i := 153) rfl)) rfl
theorem k1_155 : Jvm.Cond.lays "CommitPrefixes$Coordinator" "CommitPrefixes$Site" "up" "Z" ∈ TT := tt_mem (tb_1 _ (List.mem_of_getElem? (i := 155) rfl)) rfl
theorem k1_157 : Jvm.Cond.lays "CommitPrefixes$Coordinator" "CommitPrefixes$Site" "state" "I" ∈ TT := tt_mem (tb_1 _ (List.mem_of_getElem? (i := 157) rfl)) rfl
theorem k1_159 : Jvm.Cond.lays "CommitPrefixes$Coordinator" "CommitPrefixes$Site" "timer" "I" ∈ TT := tt_mem (tb_1 _ (List.mem_of_getElem? (i := 159) rfl)) rfl
theorem k1_161 : Jvm.Cond.superclass "CommitPrefixes$Coordinator" "CommitPrefixes$Site" ∈ TT := tt_mem (tb_1 _ (List.mem_of_getElem? (i := 161) rfl)) rfl
theorem k1_162 : Jvm.Cond.classLink "CommitPrefixes$Run" 18 "CommitPrefixes$Site" ∈ TT := tt_mem (tb_1 _ (List.mem_of_getElem? (i := 162) rfl)) rfl
theorem n1_163 : Jvm.Cond.arrayOver (Jvm.ClassFile.FieldType.object "CommitPrefixes$Site") ∈ lw_tbl := tb_1 _ (List.mem_of_getElem? (i := 163) rfl)
theorem k1_164 : Jvm.Cond.classLink "CommitPrefixes$Run" 74 "CommitPrefixes$Participant" ∈ TT := tt_mem (tb_1 _ (List.mem_of_getElem? (i := 164) rfl)) rfl
theorem k1_165 : Jvm.Cond.instantiable "CommitPrefixes$Participant" 6 ∈ TT := tt_mem (tb_1 _ (List.mem_of_getElem? (i := 165) rfl)) rfl
theorem k1_166 : Jvm.Cond.methodLink "CommitPrefixes$Run" 76 ⟨"CommitPrefixes$Participant", "<init>", "(I)V"⟩ ∈ TT := tt_mem (tb_1 _ (List.mem_of_getElem? (i := 166) rfl)) rfl
theorem k1_167 : Jvm.Cond.instanceMethod ⟨"CommitPrefixes$Participant", "<init>", "(I)V"⟩ ∈ TT := tt_mem (tb_1 _ (List.mem_of_getElem? (i := 167) rfl)) rfl
theorem k1_168 : Jvm.Cond.code ⟨"CommitPrefixes$Participant", "<init>", "(I)V"⟩ prog_5_method_1_code 2 Option.none ∈ TT := tt_mem (tb_1 _ (List.mem_of_getElem? (i := 168) rfl)) rfl
theorem k1_169 : Jvm.Cond.methodLink "CommitPrefixes$Participant" 3 ⟨"CommitPrefixes$Site", "<init>", "(I)V"⟩ ∈ TT := tt_mem (tb_1 _ (List.mem_of_getElem? (i := 169) rfl)) rfl
theorem k1_170 : Jvm.Cond.laysFinal "CommitPrefixes$Participant" "CommitPrefixes$Site" "number" "I" ∈ TT := tt_mem (tb_1 _ (List.mem_of_getElem? (i := 170) rfl)) rfl
theorem k1_171 : Jvm.Cond.laysFinal "CommitPrefixes$Participant" "CommitPrefixes$Site" "log" "[I" ∈ TT := tt_mem (tb_1 _ (List.mem_of_getElem? (i := 171) rfl)) rfl
theorem k1_172 : Jvm.Cond.lays "CommitPrefixes$Participant" "CommitPrefixes$Site" "length" "I" ∈ TT := tt_mem (tb_1 _ (List.mem_of_getElem? (i := 172) rfl)) rfl
theorem k1_173 : Jvm.Cond.lays "CommitPrefixes$Participant" "CommitPrefixes$Site" "up" "Z" ∈ TT := tt_mem (tb_1 _ (List.mem_of_getElem? (i := 173) rfl)) rfl
theorem k1_174 : Jvm.Cond.lays "CommitPrefixes$Participant" "CommitPrefixes$Site" "state" "I" ∈ TT := tt_mem (tb_1 _ (List.mem_of_getElem? (i := 174) rfl)) rfl
theorem k1_175 : Jvm.Cond.lays "CommitPrefixes$Participant" "CommitPrefixes$Site" "timer" "I" ∈ TT := tt_mem (tb_1 _ (List.mem_of_getElem? (i := 175) rfl)) rfl
theorem k1_176 : Jvm.Cond.superclass "CommitPrefixes$Participant" "CommitPrefixes$Site" ∈ TT := tt_mem (tb_1 _ (List.mem_of_getElem? (i := 176) rfl)) rfl
theorem k1_177 : Jvm.Cond.fieldLink "CommitPrefixes$Run" 70 "CommitPrefixes$Run" "setup" "LCommitPrefixes$Setup;" ∈ TT := tt_mem (tb_1 _ (List.mem_of_getElem? (i := 177) rfl)) rfl
theorem k1_178 : Jvm.Cond.fieldLink "CommitPrefixes$Participant" 41 "CommitPrefixes$Run" "setup" "LCommitPrefixes$Setup;" ∈ TT := tt_mem (tb_1 _ (List.mem_of_getElem? (i := 178) rfl)) rfl
theorem k1_179 : Jvm.Cond.fieldLink "CommitPrefixes$Coordinator" 52 "CommitPrefixes$Run" "setup" "LCommitPrefixes$Setup;" ∈ TT := tt_mem (tb_1 _ (List.mem_of_getElem? (i := 179) rfl)) rfl
theorem k1_180 : Jvm.Cond.fieldLink "CommitPrefixes$Run" 12 "CommitPrefixes$Run" "coordinator" "LCommitPrefixes$Coordinator;" ∈ TT := tt_mem (tb_1 _ (List.mem_of_getElem? (i := 180) rfl)) rfl
theorem k1_181 : Jvm.Cond.fieldLink "CommitPrefixes$Run" 20 "CommitPrefixes$Run" "sites" "[LCommitPrefixes$Site;" ∈ TT := tt_mem (tb_1 _ (List.mem_of_getElem? (i := 181) rfl)) rfl
theorem k1_182 : Jvm.Cond.fieldLink "CommitPrefixes" 240 "CommitPrefixes$Run" "sites" "[LCommitPrefixes$Site;" ∈ TT := tt_mem (tb_1 _ (List.mem_of_getElem? (i := 182) rfl)) rfl
theorem k1_183 : Jvm.Cond.fieldLink "CommitPrefixes$Run" 24 "CommitPrefixes$Run" "presumed" "Z" ∈ TT := tt_mem (tb_1 _ (List.mem_of_getElem? (i := 183) rfl)) rfl
theorem k1_184 : Jvm.Cond.fieldLink "CommitPrefixes$Participant" 72 "CommitPrefixes$Run" "presumed" "Z" ∈ TT := tt_mem (tb_1 _ (List.mem_of_getElem? (i := 184) rfl)) rfl
theorem k1_185 : Jvm.Cond.fieldLink "CommitPrefixes$Coordinator" 77 "CommitPrefixes$Run" "presumed" "Z" ∈ TT := tt_mem (tb_1 _ (List.mem_of_getElem? (i := 185) rfl)) rfl
theorem k1_186 : Jvm.Cond.fieldLink "CommitPrefixes$Run" 28 "CommitPrefixes$Run" "losses" "J" ∈ TT := tt_mem (tb_1 _ (List.mem_of_getElem? (i := 186) rfl)) rfl
theorem k1_187 : Jvm.Cond.fieldLink "CommitPrefixes$Run" 32 "CommitPrefixes$Run" "everyone" "I" ∈ TT := tt_mem (tb_1 _ (List.mem_of_getElem? (i := 187) rfl)) rfl
theorem k1_188 : Jvm.Cond.fieldLink "CommitPrefixes$Coordinator" 31 "CommitPrefixes$Run" "everyone" "I" ∈ TT := tt_mem (tb_1 _ (List.mem_of_getElem? (i := 188) rfl)) rfl
theorem k1_189 : Jvm.Cond.fieldLink "CommitPrefixes$Participant" 79 "CommitPrefixes$Run" "everyone" "I" ∈ TT := tt_mem (tb_1 _ (List.mem_of_getElem? (i := 189) rfl)) rfl
theorem k1_190 : Jvm.Cond.fieldLink "CommitPrefixes$Run" 36 "CommitPrefixes$Run" "tick" "I" ∈ TT := tt_mem (tb_1 _ (List.mem_of_getElem? (i := 190) rfl)) rfl
theorem k1_191 : Jvm.Cond.fieldLink "CommitPrefixes$Participant" 30 "CommitPrefixes$Run" "tick" "I" ∈ TT := tt_mem (tb_1 _ (List.mem_of_getElem? (i := 191) rfl)) rfl
theorem k1_192 : Jvm.Cond.fieldLink "CommitPrefixes$Run" 39 "CommitPrefixes$Run" "still" "I" ∈ TT := tt_mem (tb_1 _ (List.mem_of_getElem? (i := 192) rfl)) rfl
theorem k1_193 : Jvm.Cond.fieldLink "CommitPrefixes$Run" 42 "CommitPrefixes$Run" "count" "I" ∈ TT := tt_mem (tb_1 _ (List.mem_of_getElem? (i := 193) rfl)) rfl
theorem k1_194 : Jvm.Cond.fieldLink "CommitPrefixes" 288 "CommitPrefixes$Run" "count" "I" ∈ TT := tt_mem (tb_1 _ (List.mem_of_getElem? (i := 194) rfl)) rfl
theorem k1_195 : Jvm.Cond.fieldLink "CommitPrefixes$Run" 45 "CommitPrefixes$Run" "which" "[I" ∈ TT := tt_mem (tb_1 _ (List.mem_of_getElem? (i := 195) rfl)) rfl
theorem k1_196 : Jvm.Cond.fieldLink "CommitPrefixes" 120 "CommitPrefixes$Run" "which" "[I" ∈ TT := tt_mem (tb_1 _ (List.mem_of_getElem? (i := 196) rfl)) rfl
theorem k1_197 : Jvm.Cond.fieldLink "CommitPrefixes$Run" 49 "CommitPrefixes$Run" "from" "[I" ∈ TT := tt_mem (tb_1 _ (List.mem_of_getElem? (i := 197) rfl)) rfl
theorem k1_198 : Jvm.Cond.fieldLink "CommitPrefixes" 123 "CommitPrefixes$Run" "from" "[I" ∈ TT := tt_mem (tb_1 _ (List.mem_of_getElem? (i := 198) rfl)) rfl
theorem k1_199 : Jvm.Cond.fieldLink "CommitPrefixes$Run" 52 "CommitPrefixes$Run" "to" "[I" ∈ TT := tt_mem (tb_1 _ (List.mem_of_getElem? (i := 199) rfl)) rfl
theorem k1_200 : Jvm.Cond.fieldLink "CommitPrefixes" 126 "CommitPrefixes$Run" "to" "[I" ∈ TT := tt_mem (tb_1 _ (List.mem_of_getElem? (i := 200) rfl)) rfl
theorem k1_201 : Jvm.Cond.fieldLink "CommitPrefixes$Run" 55 "CommitPrefixes$Run" "at" "[I" ∈ TT := tt_mem (tb_1 _ (List.mem_of_getElem? (i := 201) rfl)) rfl
theorem k1_202 : Jvm.Cond.fieldLink "CommitPrefixes" 129 "CommitPrefixes$Run" "at" "[I" ∈ TT := tt_mem (tb_1 _ (List.mem_of_getElem? (i := 202) rfl)) rfl
theorem k1_203 : Jvm.Cond.fieldLink "CommitPrefixes$Run" 58 "CommitPrefixes$Run" "fate" "[I" ∈ TT := tt_mem (tb_1 _ (List.mem_of_getElem? (i := 203) rfl)) rfl
theorem k1_204 : Jvm.Cond.fieldLink "CommitPrefixes" 255 "CommitPrefixes$Run" "fate" "[I" ∈ TT := tt_mem (tb_1 _ (List.mem_of_getElem? (i := 204) rfl)) rfl
theorem k1_205 : Jvm.Cond.fieldLink "CommitPrefixes$Run" 61 "CommitPrefixes$Run" "states" "[I" ∈ TT := tt_mem (tb_1 _ (List.mem_of_getElem? (i := 205) rfl)) rfl
theorem k1_206 : Jvm.Cond.fieldLink "CommitPrefixes$Run" 64 "CommitPrefixes$Run" "lengths" "[I" ∈ TT := tt_mem (tb_1 _ (List.mem_of_getElem? (i := 206) rfl)) rfl
theorem k1_207 : Jvm.Cond.fieldLink "CommitPrefixes$Run" 67 "CommitPrefixes$Run" "sentBehind" "[I" ∈ TT := tt_mem (tb_1 _ (List.mem_of_getElem? (i := 207) rfl)) rfl
theorem k1_208 : Jvm.Cond.laysFinal "CommitPrefixes$Run" "CommitPrefixes$Run" "setup" "LCommitPrefixes$Setup;" ∈ TT := tt_mem (tb_1 _ (List.mem_of_getElem? (i := 208) rfl)) rfl
theorem k1_210 : Jvm.Cond.laysFinal "CommitPrefixes$Run" "CommitPrefixes$Run" "coordinator" "LCommitPrefixes$Coordinator;" ∈ TT := tt_mem (tb_1 _ (List.mem_of_getElem? (i := 210) rfl)) rfl
theorem k1_212 : Jvm.Cond.laysFinal "CommitPrefixes$Run" "CommitPrefixes$Run" "sites" "[LCommitPrefixes$Site;" ∈ TT := tt_mem (tb_1 _ (List.mem_of_getElem? (i := 212) rfl)) rfl
theorem k1_214 : Jvm.Cond.lays "CommitPrefixes$Run" "CommitPrefixes$Run" "presumed" "Z" ∈ TT := tt_mem (tb_1 _ (List.mem_of_getElem? (i := 214) rfl)) rfl
theorem k1_216 : Jvm.Cond.lays "CommitPrefixes$Run" "CommitPrefixes$Run" "losses" "J" ∈ TT := tt_mem (tb_1 _ (List.mem_of_getElem? (i := 216) rfl)) rfl
theorem k1_218 : Jvm.Cond.lays "CommitPrefixes$Run" "CommitPrefixes$Run" "everyone" "I" ∈ TT := tt_mem (tb_1 _ (List.mem_of_getElem? (i := 218) rfl)) rfl
theorem k1_220 : Jvm.Cond.lays "CommitPrefixes$Run" "CommitPrefixes$Run" "tick" "I" ∈ TT := tt_mem (tb_1 _ (List.mem_of_getElem? (i := 220) rfl)) rfl
theorem k1_222 : Jvm.Cond.lays "CommitPrefixes$Run" "CommitPrefixes$Run" "still" "I" ∈ TT := tt_mem (tb_1 _ (List.mem_of_getElem? (i := 222) rfl)) rfl
theorem k1_224 : Jvm.Cond.lays "CommitPrefixes$Run" "CommitPrefixes$Run" "count" "I" ∈ TT := tt_mem (tb_1 _ (List.mem_of_getElem? (i := 224) rfl)) rfl
theorem k1_226 : Jvm.Cond.laysFinal "CommitPrefixes$Run" "CommitPrefixes$Run" "which" "[I" ∈ TT := tt_mem (tb_1 _ (List.mem_of_getElem? (i := 226) rfl)) rfl
theorem k1_228 : Jvm.Cond.laysFinal "CommitPrefixes$Run" "CommitPrefixes$Run" "from" "[I" ∈ TT := tt_mem (tb_1 _ (List.mem_of_getElem? (i := 228) rfl)) rfl
theorem k1_230 : Jvm.Cond.laysFinal "CommitPrefixes$Run" "CommitPrefixes$Run" "to" "[I" ∈ TT := tt_mem (tb_1 _ (List.mem_of_getElem? (i := 230) rfl)) rfl
theorem k1_232 : Jvm.Cond.laysFinal "CommitPrefixes$Run" "CommitPrefixes$Run" "at" "[I" ∈ TT := tt_mem (tb_1 _ (List.mem_of_getElem? (i := 232) rfl)) rfl
theorem k1_234 : Jvm.Cond.laysFinal "CommitPrefixes$Run" "CommitPrefixes$Run" "fate" "[I" ∈ TT := tt_mem (tb_1 _ (List.mem_of_getElem? (i := 234) rfl)) rfl
theorem k1_236 : Jvm.Cond.laysFinal "CommitPrefixes$Run" "CommitPrefixes$Run" "states" "[I" ∈ TT := tt_mem (tb_1 _ (List.mem_of_getElem? (i := 236) rfl)) rfl
theorem k1_238 : Jvm.Cond.laysFinal "CommitPrefixes$Run" "CommitPrefixes$Run" "lengths" "[I" ∈ TT := tt_mem (tb_1 _ (List.mem_of_getElem? (i := 238) rfl)) rfl
theorem k2_0 : Jvm.Cond.laysFinal "CommitPrefixes$Run" "CommitPrefixes$Run" "sentBehind" "[I" ∈ TT := tt_mem (tb_2 _ (List.mem_of_getElem? (i := 0) rfl)) rfl
theorem k2_2 : Jvm.Cond.superclass "CommitPrefixes$Run" "java/lang/Object" ∈ TT := tt_mem (tb_2 _ (List.mem_of_getElem? (i := 2) rfl)) rfl
theorem k2_3 : Jvm.Cond.instantiable "CommitPrefixes$Shelf" 8 ∈ TT := tt_mem (tb_2 _ (List.mem_of_getElem? (i := 3) rfl)) rfl
theorem n2_4 : Jvm.Cond.methodLinkNest "CommitPrefixes" 69 ⟨"CommitPrefixes$Shelf", "<init>", "()V"⟩ "CommitPrefixes" ∈ lw_tbl := tb_2 _ (List.mem_of_getElem? (i := 4) rfl)
theorem k2_5 : Jvm.Cond.instanceMethod ⟨"CommitPrefixes$Shelf", "<init>", "()V"⟩ ∈ TT := tt_mem (tb_2 _ (List.mem_of_getElem? (i := 5) rfl)) rfl
theorem k2_6 : Jvm.Cond.code ⟨"CommitPrefixes$Shelf", "<init>", "()V"⟩ prog_8_method_1_code 1 Option.none ∈ TT := tt_mem (tb_2 _ (List.mem_of_getElem? (i := 6) rfl)) rfl
theorem k2_7 : Jvm.Cond.methodLink "CommitPrefixes$Shelf" 3 ⟨"java/lang/Object", "<init>", "()V"⟩ ∈ TT := tt_mem (tb_2 _ (List.mem_of_getElem? (i := 7) rfl)) rfl
theorem k2_8 : Jvm.Cond.fieldLink "CommitPrefixes$Shelf" 11 "CommitPrefixes$Shelf" "content" "I" ∈ TT := tt_mem (tb_2 _ (List.mem_of_getElem? (i := 8) rfl)) rfl
theorem k2_9 : Jvm.Cond.fieldLink "CommitPrefixes$Shelf" 15 "CommitPrefixes$Shelf" "sort" "I" ∈ TT := tt_mem (tb_2 _ (List.mem_of_getElem? (i := 9) rfl)) rfl
theorem k2_10 : Jvm.Cond.fieldLink "CommitPrefixes" 143 "CommitPrefixes$Shelf" "sort" "I" ∈ TT := tt_mem (tb_2 _ (List.mem_of_getElem? (i := 10) rfl)) rfl
theorem k2_11 : Jvm.Cond.fieldLink "CommitPrefixes$Shelf" 18 "CommitPrefixes$Shelf" "size" "I" ∈ TT := tt_mem (tb_2 _ (List.mem_of_getElem? (i := 11) rfl)) rfl
theorem k2_12 : Jvm.Cond.fieldLink "CommitPrefixes$TextReader" 29 "CommitPrefixes$Shelf" "size" "I" ∈ TT := tt_mem (tb_2 _ (List.mem_of_getElem? (i := 12) rfl)) rfl
theorem k2_13 : Jvm.Cond.fieldLink "CommitPrefixes" 309 "CommitPrefixes$Shelf" "size" "I" ∈ TT := tt_mem (tb_2 _ (List.mem_of_getElem? (i := 13) rfl)) rfl
theorem k2_14 : Jvm.Cond.fieldLink "CommitPrefixes$Shelf" 21 "CommitPrefixes$Shelf" "elements" "[J" ∈ TT := tt_mem (tb_2 _ (List.mem_of_getElem? (i := 14) rfl)) rfl
theorem k2_15 : Jvm.Cond.fieldLink "CommitPrefixes" 100 "CommitPrefixes$Shelf" "elements" "[J" ∈ TT := tt_mem (tb_2 _ (List.mem_of_getElem? (i := 15) rfl)) rfl
theorem k2_16 : Jvm.Cond.fieldLink "CommitPrefixes$Shelf" 25 "CommitPrefixes$Shelf" "which" "I" ∈ TT := tt_mem (tb_2 _ (List.mem_of_getElem? (i := 16) rfl)) rfl
theorem k2_17 : Jvm.Cond.fieldLink "CommitPrefixes" 146 "CommitPrefixes$Shelf" "which" "I" ∈ TT := tt_mem (tb_2 _ (List.mem_of_getElem? (i := 17) rfl)) rfl
theorem k2_18 : Jvm.Cond.fieldLink "CommitPrefixes$Shelf" 28 "CommitPrefixes$Shelf" "from" "I" ∈ TT := tt_mem (tb_2 _ (List.mem_of_getElem? (i := 18) rfl)) rfl
theorem k2_19 : Jvm.Cond.fieldLink "CommitPrefixes$Shelf" 31 "CommitPrefixes$Shelf" "to" "I" ∈ TT := tt_mem (tb_2 _ (List.mem_of_getElem? (i := 19) rfl)) rfl
theorem k2_20 : Jvm.Cond.fieldLink "CommitPrefixes$Shelf" 34 "CommitPrefixes$Shelf" "tick" "I" ∈ TT := tt_mem (tb_2 _ (List.mem_of_getElem? (i := 20) rfl)) rfl
theorem k2_21 : Jvm.Cond.lays "CommitPrefixes$Shelf" "CommitPrefixes$Shelf" "content" "I" ∈ TT := tt_mem (tb_2 _ (List.mem_of_getElem? (i := 21) rfl)) rfl
theorem k2_23 : Jvm.Cond.lays "CommitPrefixes$Shelf" "CommitPrefixes$Shelf" "sort" "I" ∈ TT := tt_mem (tb_2 _ (List.mem_of_getElem? (i := 23) rfl)) rfl
theorem k2_25 : Jvm.Cond.lays "CommitPrefixes$Shelf" "CommitPrefixes$Shelf" "size" "I" ∈ TT := tt_mem (tb_2 _ (List.mem_of_getElem? (i := 25) rfl)) rfl
theorem k2_27 : Jvm.Cond.laysFinal "CommitPrefixes$Shelf" "CommitPrefixes$Shelf" "elements" "[J" ∈ TT := tt_mem (tb_2 _ (List.mem_of_getElem? (i := 27) rfl)) rfl
theorem k2_29 : Jvm.Cond.lays "CommitPrefixes$Shelf" "CommitPrefixes$Shelf" "which" "I" ∈ TT := tt_mem (tb_2 _ (List.mem_of_getElem? (i := 29) rfl)) rfl
theorem k2_31 : Jvm.Cond.lays "CommitPrefixes$Shelf" "CommitPrefixes$Shelf" "from" "I" ∈ TT := tt_mem (tb_2 _ (List.mem_of_getElem? (i := 31) rfl)) rfl
theorem k2_33 : Jvm.Cond.lays "CommitPrefixes$Shelf" "CommitPrefixes$Shelf" "to" "I" ∈ TT := tt_mem (tb_2 _ (List.mem_of_getElem? (i := 33) rfl)) rfl
theorem k2_35 : Jvm.Cond.lays "CommitPrefixes$Shelf" "CommitPrefixes$Shelf" "tick" "I" ∈ TT := tt_mem (tb_2 _ (List.mem_of_getElem? (i := 35) rfl)) rfl
theorem k2_37 : Jvm.Cond.superclass "CommitPrefixes$Shelf" "java/lang/Object" ∈ TT := tt_mem (tb_2 _ (List.mem_of_getElem? (i := 37) rfl)) rfl
theorem k2_38 : Jvm.Cond.arrayClass Jvm.ClassFile.FieldType.long ∈ TT := tt_mem (tb_2 _ (List.mem_of_getElem? (i := 38) rfl)) rfl
theorem k2_39 : Jvm.Cond.fieldLink "CommitPrefixes" 11 "CommitPrefixes" "shelves" "[LCommitPrefixes$Shelf;" ∈ TT := tt_mem (tb_2 _ (List.mem_of_getElem? (i := 39) rfl)) rfl
theorem k2_40 : Jvm.Cond.fieldLink "CommitPrefixes" 15 "CommitPrefixes" "refusals" "[I" ∈ TT := tt_mem (tb_2 _ (List.mem_of_getElem? (i := 40) rfl)) rfl
theorem k2_41 : Jvm.Cond.fieldLink "CommitPrefixes" 22 "CommitPrefixes" "setup" "LCommitPrefixes$Setup;" ∈ TT := tt_mem (tb_2 _ (List.mem_of_getElem? (i := 41) rfl)) rfl
theorem k2_42 : Jvm.Cond.fieldLink "CommitPrefixes" 26 "CommitPrefixes" "kept" "LCommitPrefixes$Setup;" ∈ TT := tt_mem (tb_2 _ (List.mem_of_getElem? (i := 42) rfl)) rfl
theorem k2_43 : Jvm.Cond.fieldLink "CommitPrefixes" 29 "CommitPrefixes" "imageTaken" "Z" ∈ TT := tt_mem (tb_2 _ (List.mem_of_getElem? (i := 43) rfl)) rfl
theorem k2_44 : Jvm.Cond.fieldLink "CommitPrefixes" 36 "CommitPrefixes" "reader" "LCommitPrefixes$TextReader;" ∈ TT := tt_mem (tb_2 _ (List.mem_of_getElem? (i := 44) rfl)) rfl
theorem k2_45 : Jvm.Cond.fieldLink "CommitPrefixes" 40 "CommitPrefixes" "latestFault" "I" ∈ TT := tt_mem (tb_2 _ (List.mem_of_getElem? (i := 45) rfl)) rfl
theorem k2_46 : Jvm.Cond.fieldLink "CommitPrefixes" 49 "CommitPrefixes" "run" "LCommitPrefixes$Run;" ∈ TT := tt_mem (tb_2 _ (List.mem_of_getElem? (i := 46) rfl)) rfl
theorem k2_47 : Jvm.Cond.fieldLink "CommitPrefixes" 53 "CommitPrefixes" "runStands" "Z" ∈ TT := tt_mem (tb_2 _ (List.mem_of_getElem? (i := 47) rfl)) rfl
theorem k2_48 : Jvm.Cond.fieldLink "CommitPrefixes" 56 "CommitPrefixes" "trial" "LCommitPrefixes$Run;" ∈ TT := tt_mem (tb_2 _ (List.mem_of_getElem? (i := 48) rfl)) rfl
theorem k2_49 : Jvm.Cond.fieldLink "CommitPrefixes" 59 "CommitPrefixes" "trialsStand" "Z" ∈ TT := tt_mem (tb_2 _ (List.mem_of_getElem? (i := 49) rfl)) rfl
theorem k2_50 : Jvm.Cond.fieldLink "CommitPrefixes" 62 "CommitPrefixes" "harmful" "J" ∈ TT := tt_mem (tb_2 _ (List.mem_of_getElem? (i := 50) rfl)) rfl
theorem k2_51 : Jvm.Cond.fieldLink "CommitPrefixes" 66 "CommitPrefixes" "blocking" "J" ∈ TT := tt_mem (tb_2 _ (List.mem_of_getElem? (i := 51) rfl)) rfl
theorem k2_52 : Jvm.Cond.laysFinal "CommitPrefixes" "CommitPrefixes" "shelves" "[LCommitPrefixes$Shelf;" ∈ TT := tt_mem (tb_2 _ (List.mem_of_getElem? (i := 52) rfl)) rfl
theorem k2_54 : Jvm.Cond.laysFinal "CommitPrefixes" "CommitPrefixes" "refusals" "[I" ∈ TT := tt_mem (tb_2 _ (List.mem_of_getElem? (i := 54) rfl)) rfl
theorem k2_56 : Jvm.Cond.laysFinal "CommitPrefixes" "CommitPrefixes" "setup" "LCommitPrefixes$Setup;" ∈ TT := tt_mem (tb_2 _ (List.mem_of_getElem? (i := 56) rfl)) rfl
theorem k2_58 : Jvm.Cond.laysFinal "CommitPrefixes" "CommitPrefixes" "kept" "LCommitPrefixes$Setup;" ∈ TT := tt_mem (tb_2 _ (List.mem_of_getElem? (i := 58) rfl)) rfl
theorem k2_60 : Jvm.Cond.lays "CommitPrefixes" "CommitPrefixes" "imageTaken" "Z" ∈ TT := tt_mem (tb_2 _ (List.mem_of_getElem? (i := 60) rfl)) rfl
theorem k2_62 : Jvm.Cond.laysFinal "CommitPrefixes" "CommitPrefixes" "reader" "LCommitPrefixes$TextReader;" ∈ TT := tt_mem (tb_2 _ (List.mem_of_getElem? (i := 62) rfl)) rfl
theorem k2_64 : Jvm.Cond.lays "CommitPrefixes" "CommitPrefixes" "latestFault" "I" ∈ TT := tt_mem (tb_2 _ (List.mem_of_getElem? (i := 64) rfl)) rfl
theorem k2_66 : Jvm.Cond.laysFinal "CommitPrefixes" "CommitPrefixes" "run" "LCommitPrefixes$Run;" ∈ TT := tt_mem (tb_2 _ (List.mem_of_getElem? (i := 66) rfl)) rfl
theorem k2_68 : Jvm.Cond.lays "CommitPrefixes" "CommitPrefixes" "runStands" "Z" ∈ TT := tt_mem (tb_2 _ (List.mem_of_getElem? (i := 68) rfl)) rfl
theorem k2_70 : Jvm.Cond.laysFinal "CommitPrefixes" "CommitPrefixes" "trial" "LCommitPrefixes$Run;" ∈ TT := tt_mem (tb_2 _ (List.mem_of_getElem? (i := 70) rfl)) rfl
theorem k2_72 : Jvm.Cond.lays "CommitPrefixes" "CommitPrefixes" "trialsStand" "Z" ∈ TT := tt_mem (tb_2 _ (List.mem_of_getElem? (i := 72) rfl)) rfl
theorem k2_74 : Jvm.Cond.lays "CommitPrefixes" "CommitPrefixes" "harmful" "J" ∈ TT := tt_mem (tb_2 _ (List.mem_of_getElem? (i := 74) rfl)) rfl
theorem k2_76 : Jvm.Cond.lays "CommitPrefixes" "CommitPrefixes" "blocking" "J" ∈ TT := tt_mem (tb_2 _ (List.mem_of_getElem? (i := 76) rfl)) rfl
theorem k2_78 : Jvm.Cond.superclass "CommitPrefixes" "java/lang/Object" ∈ TT := tt_mem (tb_2 _ (List.mem_of_getElem? (i := 78) rfl)) rfl
theorem k2_79 : Jvm.Cond.methodLink "CommitPrefixesLaw" 13 ⟨"CommitPrefixes", "row", "(III)I"⟩ ∈ TT := tt_mem (tb_2 _ (List.mem_of_getElem? (i := 79) rfl)) rfl
theorem k2_80 : Jvm.Cond.instanceMethod ⟨"CommitPrefixes", "row", "(III)I"⟩ ∈ TT := tt_mem (tb_2 _ (List.mem_of_getElem? (i := 80) rfl)) rfl
theorem k2_81 : Jvm.Cond.selects "CommitPrefixes" ⟨"CommitPrefixes", "row", "(III)I"⟩ ⟨"CommitPrefixes", "row", "(III)I"⟩ ∈ TT := tt_mem (tb_2 _ (List.mem_of_getElem? (i := 81) rfl)) rfl
theorem k2_82 : Jvm.Cond.code ⟨"CommitPrefixes", "row", "(III)I"⟩ prog_1_method_2_code 4 (Option.some Jvm.ClassFile.FieldType.int) ∈ TT := tt_mem (tb_2 _ (List.mem_of_getElem? (i := 82) rfl)) rfl
theorem k2_83 : Jvm.Cond.methodLink "CommitPrefixes" 70 ⟨"CommitPrefixes", "isShelf", "(I)Z"⟩ ∈ TT := tt_mem (tb_2 _ (List.mem_of_getElem? (i := 83) rfl)) rfl
theorem k2_84 : Jvm.Cond.static ⟨"CommitPrefixes", "isShelf", "(I)Z"⟩ ∈ TT := tt_mem (tb_2 _ (List.mem_of_getElem? (i := 84) rfl)) rfl
theorem k2_85 : Jvm.Cond.code ⟨"CommitPrefixes", "isShelf", "(I)Z"⟩ prog_1_method_36_code 1 (Option.some Jvm.ClassFile.FieldType.boolean) ∈ TT := tt_mem (tb_2 _ (List.mem_of_getElem? (i := 85) rfl)) rfl
theorem k2_86 : Jvm.Cond.methodLink "CommitPrefixes" 74 ⟨"CommitPrefixes", "refuse", "(I)I"⟩ ∈ TT := tt_mem (tb_2 _ (List.mem_of_getElem? (i := 86) rfl)) rfl
theorem k2_88 : Jvm.Cond.instanceMethod ⟨"CommitPrefixes", "refuse", "(I)I"⟩ ∈ TT := tt_mem (tb_2 _ (List.mem_of_getElem? (i := 88) rfl)) rfl
theorem k2_89 : Jvm.Cond.code ⟨"CommitPrefixes", "refuse", "(I)I"⟩ prog_1_method_35_code 2 (Option.some Jvm.ClassFile.FieldType.int) ∈ TT := tt_mem (tb_2 _ (List.mem_of_getElem? (i := 89) rfl)) rfl
theorem k2_90 : Jvm.Cond.methodLink "CommitPrefixes" 78 ⟨"CommitPrefixes$Shelf", "holdRow", "(II)V"⟩ ∈ TT := tt_mem (tb_2 _ (List.mem_of_getElem? (i := 90) rfl)) rfl
theorem k2_91 : Jvm.Cond.instanceMethod ⟨"CommitPrefixes$Shelf", "holdRow", "(II)V"⟩ ∈ TT := tt_mem (tb_2 _ (List.mem_of_getElem? (i := 91) rfl)) rfl
theorem k2_92 : Jvm.Cond.selects "CommitPrefixes$Shelf" ⟨"CommitPrefixes$Shelf", "holdRow", "(II)V"⟩ ⟨"CommitPrefixes$Shelf", "holdRow", "(II)V"⟩ ∈ TT := tt_mem (tb_2 _ (List.mem_of_getElem? (i := 92) rfl)) rfl
theorem k2_93 : Jvm.Cond.code ⟨"CommitPrefixes$Shelf", "holdRow", "(II)V"⟩ prog_8_method_6_code 3 Option.none ∈ TT := tt_mem (tb_2 _ (List.mem_of_getElem? (i := 93) rfl)) rfl
theorem k2_94 : Jvm.Cond.methodLink "CommitPrefixes$Shelf" 37 ⟨"java/util/Arrays", "fill", "([JJ)V"⟩ ∈ TT := tt_mem (tb_2 _ (List.mem_of_getElem? (i := 94) rfl)) rfl
theorem k2_95 : Jvm.Cond.static ⟨"java/util/Arrays", "fill", "([JJ)V"⟩ ∈ TT := tt_mem (tb_2 _ (List.mem_of_getElem? (i := 95) rfl)) rfl
theorem k2_96 : Jvm.Cond.code ⟨"java/util/Arrays", "fill", "([JJ)V"⟩ prog_20_method_101_code 5 Option.none ∈ TT := tt_mem (tb_2 _ (List.mem_of_getElem? (i := 96) rfl)) rfl
theorem k2_97 : Jvm.Cond.methodLink "CommitPrefixesLaw" 20 ⟨"CommitPrefixes", "set", "(IIJ)I"⟩ ∈ TT := tt_mem (tb_2 _ (List.mem_of_getElem? (i := 97) rfl)) rfl
theorem k2_98 : Jvm.Cond.instanceMethod ⟨"CommitPrefixes", "set", "(IIJ)I"⟩ ∈ TT := tt_mem (tb_2 _ (List.mem_of_getElem? (i := 98) rfl)) rfl
theorem k2_99 : Jvm.Cond.selects "CommitPrefixes" ⟨"CommitPrefixes", "set", "(IIJ)I"⟩ ⟨"CommitPrefixes", "set", "(IIJ)I"⟩ ∈ TT := tt_mem (tb_2 _ (List.mem_of_getElem? (i := 99) rfl)) rfl
theorem k2_100 : Jvm.Cond.code ⟨"CommitPrefixes", "set", "(IIJ)I"⟩ prog_1_method_3_code 6 (Option.some Jvm.ClassFile.FieldType.int) ∈ TT := tt_mem (tb_2 _ (List.mem_of_getElem? (i := 100) rfl)) rfl
theorem k2_101 : Jvm.Cond.methodLink "CommitPrefixes" 82 ⟨"CommitPrefixes", "rowLack", "(I)I"⟩ ∈ TT := tt_mem (tb_2 _ (List.mem_of_getElem? (i := 101) rfl)) rfl
theorem k2_103 : Jvm.Cond.instanceMethod ⟨"CommitPrefixes", "rowLack", "(I)I"⟩ ∈ TT := tt_mem (tb_2 _ (List.mem_of_getElem? (i := 103) rfl)) rfl
theorem k2_104 : Jvm.Cond.code ⟨"CommitPrefixes", "rowLack", "(I)I"⟩ prog_1_method_41_code 2 (Option.some Jvm.ClassFile.FieldType.int) ∈ TT := tt_mem (tb_2 _ (List.mem_of_getElem? (i := 104) rfl)) rfl
theorem k2_105 : Jvm.Cond.methodLink "CommitPrefixes" 306 ⟨"CommitPrefixes$Shelf", "isMessage", "()Z"⟩ ∈ TT := tt_mem (tb_2 _ (List.mem_of_getElem? (i := 105) rfl)) rfl
theorem k2_106 : Jvm.Cond.instanceMethod ⟨"CommitPrefixes$Shelf", "isMessage", "()Z"⟩ ∈ TT := tt_mem (tb_2 _ (List.mem_of_getElem? (i := 106) rfl)) rfl
theorem k2_107 : Jvm.Cond.selects "CommitPrefixes$Shelf" ⟨"CommitPrefixes$Shelf", "isMessage", "()Z"⟩ ⟨"CommitPrefixes$Shelf", "isMessage", "()Z"⟩ ∈ TT := tt_mem (tb_2 _ (List.mem_of_getElem? (i := 107) rfl)) rfl
theorem k2_108 : Jvm.Cond.code ⟨"CommitPrefixes$Shelf", "isMessage", "()Z"⟩ prog_8_method_4_code 1 (Option.some Jvm.ClassFile.FieldType.boolean) ∈ TT := tt_mem (tb_2 _ (List.mem_of_getElem? (i := 108) rfl)) rfl
theorem k2_109 : Jvm.Cond.methodLink "CommitPrefixes" 136 ⟨"CommitPrefixes$Shelf", "isEmpty", "()Z"⟩ ∈ TT := tt_mem (tb_2 _ (List.mem_of_getElem? (i := 109) rfl)) rfl
theorem k2_110 : Jvm.Cond.instanceMethod ⟨"CommitPrefixes$Shelf", "isEmpty", "()Z"⟩ ∈ TT := tt_mem (tb_2 _ (List.mem_of_getElem? (i := 110) rfl)) rfl
theorem k2_111 : Jvm.Cond.selects "CommitPrefixes$Shelf" ⟨"CommitPrefixes$Shelf", "isEmpty", "()Z"⟩ ⟨"CommitPrefixes$Shelf", "isEmpty", "()Z"⟩ ∈ TT := tt_mem (tb_2 _ (List.mem_of_getElem? (i := 111) rfl)) rfl
theorem k2_112 : Jvm.Cond.code ⟨"CommitPrefixes$Shelf", "isEmpty", "()Z"⟩ prog_8_method_2_code 1 (Option.some Jvm.ClassFile.FieldType.boolean) ∈ TT := tt_mem (tb_2 _ (List.mem_of_getElem? (i := 112) rfl)) rfl
theorem k2_113 : Jvm.Cond.methodLink "CommitPrefixes" 85 ⟨"CommitPrefixes$Shelf", "has", "(I)Z"⟩ ∈ TT := tt_mem (tb_2 _ (List.mem_of_getElem? (i := 113) rfl)) rfl
theorem k2_114 : Jvm.Cond.instanceMethod ⟨"CommitPrefixes$Shelf", "has", "(I)Z"⟩ ∈ TT := tt_mem (tb_2 _ (List.mem_of_getElem? (i := 114) rfl)) rfl
theorem k2_115 : Jvm.Cond.selects "CommitPrefixes$Shelf" ⟨"CommitPrefixes$Shelf", "has", "(I)Z"⟩ ⟨"CommitPrefixes$Shelf", "has", "(I)Z"⟩ ∈ TT := tt_mem (tb_2 _ (List.mem_of_getElem? (i := 115) rfl)) rfl
theorem k2_116 : Jvm.Cond.code ⟨"CommitPrefixes$Shelf", "has", "(I)Z"⟩ prog_8_method_8_code 2 (Option.some Jvm.ClassFile.FieldType.boolean) ∈ TT := tt_mem (tb_2 _ (List.mem_of_getElem? (i := 116) rfl)) rfl
theorem k2_117 : Jvm.Cond.methodLink "CommitPrefixes" 88 ⟨"CommitPrefixes$Shelf", "keepAt", "(IJ)V"⟩ ∈ TT := tt_mem (tb_2 _ (List.mem_of_getElem? (i := 117) rfl)) rfl
theorem k2_118 : Jvm.Cond.instanceMethod ⟨"CommitPrefixes$Shelf", "keepAt", "(IJ)V"⟩ ∈ TT := tt_mem (tb_2 _ (List.mem_of_getElem? (i := 118) rfl)) rfl
theorem k2_119 : Jvm.Cond.selects "CommitPrefixes$Shelf" ⟨"CommitPrefixes$Shelf", "keepAt", "(IJ)V"⟩ ⟨"CommitPrefixes$Shelf", "keepAt", "(IJ)V"⟩ ∈ TT := tt_mem (tb_2 _ (List.mem_of_getElem? (i := 119) rfl)) rfl
theorem k2_120 : Jvm.Cond.code ⟨"CommitPrefixes$Shelf", "keepAt", "(IJ)V"⟩ prog_8_method_10_code 4 Option.none ∈ TT := tt_mem (tb_2 _ (List.mem_of_getElem? (i := 120) rfl)) rfl
theorem k2_121 : Jvm.Cond.methodLink "CommitPrefixes$Shelf" 46 ⟨"CommitPrefixes$Shelf", "has", "(I)Z"⟩ ∈ TT := tt_mem (tb_2 _ (List.mem_of_getElem? (i := 121) rfl)) rfl
theorem k2_122 : Jvm.Cond.methodLink "CommitPrefixes$Shelf" 50 ⟨"CommitPrefixes$Shelf", "lowestBits", "(J)J"⟩ ∈ TT := tt_mem (tb_2 _ (List.mem_of_getElem? (i := 122) rfl)) rfl
theorem k2_124 : Jvm.Cond.instanceMethod ⟨"CommitPrefixes$Shelf", "lowestBits", "(J)J"⟩ ∈ TT := tt_mem (tb_2 _ (List.mem_of_getElem? (i := 124) rfl)) rfl
theorem k2_125 : Jvm.Cond.code ⟨"CommitPrefixes$Shelf", "lowestBits", "(J)J"⟩ prog_8_method_11_code 3 (Option.some Jvm.ClassFile.FieldType.long) ∈ TT := tt_mem (tb_2 _ (List.mem_of_getElem? (i := 125) rfl)) rfl
theorem k2_126 : Jvm.Cond.methodLink "CommitPrefixesLaw" 25 ⟨"CommitPrefixes", "copy", "(IIIII)I"⟩ ∈ TT := tt_mem (tb_2 _ (List.mem_of_getElem? (i := 126) rfl)) rfl
theorem k2_127 : Jvm.Cond.instanceMethod ⟨"CommitPrefixes", "copy", "(IIIII)I"⟩ ∈ TT := tt_mem (tb_2 _ (List.mem_of_getElem? (i := 127) rfl)) rfl
theorem k2_128 : Jvm.Cond.selects "CommitPrefixes" ⟨"CommitPrefixes", "copy", "(IIIII)I"⟩ ⟨"CommitPrefixes", "copy", "(IIIII)I"⟩ ∈ TT := tt_mem (tb_2 _ (List.mem_of_getElem? (i := 128) rfl)) rfl
theorem k2_129 : Jvm.Cond.code ⟨"CommitPrefixes", "copy", "(IIIII)I"⟩ prog_1_method_4_code 7 (Option.some Jvm.ClassFile.FieldType.int) ∈ TT := tt_mem (tb_2 _ (List.mem_of_getElem? (i := 129) rfl)) rfl
theorem k2_130 : Jvm.Cond.methodLink "CommitPrefixes" 92 ⟨"CommitPrefixes", "copyLack", "(II)I"⟩ ∈ TT := tt_mem (tb_2 _ (List.mem_of_getElem? (i := 130) rfl)) rfl
theorem k2_132 : Jvm.Cond.instanceMethod ⟨"CommitPrefixes", "copyLack", "(II)I"⟩ ∈ TT := tt_mem (tb_2 _ (List.mem_of_getElem? (i := 132) rfl)) rfl
theorem k2_133 : Jvm.Cond.code ⟨"CommitPrefixes", "copyLack", "(II)I"⟩ prog_1_method_42_code 5 (Option.some Jvm.ClassFile.FieldType.int) ∈ TT := tt_mem (tb_2 _ (List.mem_of_getElem? (i := 133) rfl)) rfl
theorem k2_134 : Jvm.Cond.methodLink "CommitPrefixes" 96 ⟨"CommitPrefixes$Shelf", "hasStretch", "(II)Z"⟩ ∈ TT := tt_mem (tb_2 _ (List.mem_of_getElem? (i := 134) rfl)) rfl
theorem k2_135 : Jvm.Cond.instanceMethod ⟨"CommitPrefixes$Shelf", "hasStretch", "(II)Z"⟩ ∈ TT := tt_mem (tb_2 _ (List.mem_of_getElem? (i := 135) rfl)) rfl
theorem k2_136 : Jvm.Cond.selects "CommitPrefixes$Shelf" ⟨"CommitPrefixes$Shelf", "hasStretch", "(II)Z"⟩ ⟨"CommitPrefixes$Shelf", "hasStretch", "(II)Z"⟩ ∈ TT := tt_mem (tb_2 _ (List.mem_of_getElem? (i := 136) rfl)) rfl
theorem k2_137 : Jvm.Cond.code ⟨"CommitPrefixes$Shelf", "hasStretch", "(II)Z"⟩ prog_8_method_9_code 3 (Option.some Jvm.ClassFile.FieldType.boolean) ∈ TT := tt_mem (tb_2 _ (List.mem_of_getElem? (i := 137) rfl)) rfl
theorem k2_138 : Jvm.Cond.methodLink "CommitPrefixes" 104 ⟨"java/lang/System", "arraycopy", "(Ljava/lang/Object;ILjava/lang/Object;II)V"⟩ ∈ TT := tt_mem (tb_2 _ (List.mem_of_getElem? (i := 138) rfl)) rfl
theorem k2_139 : Jvm.Cond.static ⟨"java/lang/System", "arraycopy", "(Ljava/lang/Object;ILjava/lang/Object;II)V"⟩ ∈ TT := tt_mem (tb_2 _ (List.mem_of_getElem? (i := 139) rfl)) rfl
theorem n2_140 : Jvm.Cond.native ⟨"java/lang/System", "arraycopy", "(Ljava/lang/Object;ILjava/lang/Object;II)V"⟩ ∈ lw_tbl := tb_2 _ (List.mem_of_getElem? (i := 140) rfl)
theorem k2_141 : Jvm.Cond.methodLink "CommitPrefixesLaw" 30 ⟨"CommitPrefixes", "element", "(II)J"⟩ ∈ TT := tt_mem (tb_2 _ (List.mem_of_getElem? (i := 141) rfl)) rfl
theorem k2_142 : Jvm.Cond.instanceMethod ⟨"CommitPrefixes", "element", "(II)J"⟩ ∈ TT := tt_mem (tb_2 _ (List.mem_of_getElem? (i := 142) rfl)) rfl
theorem k2_143 : Jvm.Cond.selects "CommitPrefixes" ⟨"CommitPrefixes", "element", "(II)J"⟩ ⟨"CommitPrefixes", "element", "(II)J"⟩ ∈ TT := tt_mem (tb_2 _ (List.mem_of_getElem? (i := 143) rfl)) rfl
theorem k2_144 : Jvm.Cond.code ⟨"CommitPrefixes", "element", "(II)J"⟩ prog_1_method_5_code 3 (Option.some Jvm.ClassFile.FieldType.long) ∈ TT := tt_mem (tb_2 _ (List.mem_of_getElem? (i := 144) rfl)) rfl
theorem k2_145 : Jvm.Cond.methodLink "CommitPrefixesLaw" 35 ⟨"CommitPrefixes", "show", "(II)I"⟩ ∈ TT := tt_mem (tb_2 _ (List.mem_of_getElem? (i := 145) rfl)) rfl
theorem k2_146 : Jvm.Cond.instanceMethod ⟨"CommitPrefixes", "show", "(II)I"⟩ ∈ TT := tt_mem (tb_2 _ (List.mem_of_getElem? (i := 146) rfl)) rfl
theorem k2_147 : Jvm.Cond.selects "CommitPrefixes" ⟨"CommitPrefixes", "show", "(II)I"⟩ ⟨"CommitPrefixes", "show", "(II)I"⟩ ∈ TT := tt_mem (tb_2 _ (List.mem_of_getElem? (i := 147) rfl)) rfl
theorem k2_148 : Jvm.Cond.code ⟨"CommitPrefixes", "show", "(II)I"⟩ prog_1_method_6_code 3 (Option.some Jvm.ClassFile.FieldType.int) ∈ TT := tt_mem (tb_2 _ (List.mem_of_getElem? (i := 148) rfl)) rfl
theorem k2_149 : Jvm.Cond.methodLink "CommitPrefixes" 110 ⟨"CommitPrefixes$Shelf", "clear", "()V"⟩ ∈ TT := tt_mem (tb_2 _ (List.mem_of_getElem? (i := 149) rfl)) rfl
theorem k2_150 : Jvm.Cond.instanceMethod ⟨"CommitPrefixes$Shelf", "clear", "()V"⟩ ∈ TT := tt_mem (tb_2 _ (List.mem_of_getElem? (i := 150) rfl)) rfl
theorem k2_151 : Jvm.Cond.selects "CommitPrefixes$Shelf" ⟨"CommitPrefixes$Shelf", "clear", "()V"⟩ ⟨"CommitPrefixes$Shelf", "clear", "()V"⟩ ∈ TT := tt_mem (tb_2 _ (List.mem_of_getElem? (i := 151) rfl)) rfl
theorem k2_152 : Jvm.Cond.code ⟨"CommitPrefixes$Shelf", "clear", "()V"⟩ prog_8_method_5_code 1 Option.none ∈ TT := tt_mem (tb_2 _ (List.mem_of_getElem? (i := 152) rfl)) rfl
theorem k2_153 : Jvm.Cond.methodLink "CommitPrefixes" 113 ⟨"CommitPrefixes", "current", "()LCommitPrefixes$Run;"⟩ ∈ TT := tt_mem (tb_2 _ (List.mem_of_getElem? (i := 153) rfl)) rfl
theorem k2_155 : Jvm.Cond.instanceMethod ⟨"CommitPrefixes", "current", "()LCommitPrefixes$Run;"⟩ ∈ TT := tt_mem (tb_2 _ (List.mem_of_getElem? (i := 155) rfl)) rfl
theorem k2_156 : Jvm.Cond.code ⟨"CommitPrefixes", "current", "()LCommitPrefixes$Run;"⟩ prog_1_method_46_code 1 (Option.some (Jvm.ClassFile.FieldType.object "CommitPrefixes$Run")) ∈ TT := tt_mem (tb_2 _ (List.mem_of_getElem? (i := 156) rfl)) rfl
theorem k2_157 : Jvm.Cond.methodLink "CommitPrefixes" 291 ⟨"CommitPrefixes$Run", "play", "(JZ)V"⟩ ∈ TT := tt_mem (tb_2 _ (List.mem_of_getElem? (i := 157) rfl)) rfl
theorem k2_158 : Jvm.Cond.instanceMethod ⟨"CommitPrefixes$Run", "play", "(JZ)V"⟩ ∈ TT := tt_mem (tb_2 _ (List.mem_of_getElem? (i := 158) rfl)) rfl
theorem k2_159 : Jvm.Cond.selects "CommitPrefixes$Run" ⟨"CommitPrefixes$Run", "play", "(JZ)V"⟩ ⟨"CommitPrefixes$Run", "play", "(JZ)V"⟩ ∈ TT := tt_mem (tb_2 _ (List.mem_of_getElem? (i := 159) rfl)) rfl
theorem k2_160 : Jvm.Cond.code ⟨"CommitPrefixes$Run", "play", "(JZ)V"⟩ prog_6_method_2_code 8 Option.none ∈ TT := tt_mem (tb_2 _ (List.mem_of_getElem? (i := 160) rfl)) rfl
theorem k2_161 : Jvm.Cond.methodLink "CommitPrefixes$Run" 79 ⟨"CommitPrefixes$Setup", "everyone", "()I"⟩ ∈ TT := tt_mem (tb_2 _ (List.mem_of_getElem? (i := 161) rfl)) rfl
theorem k2_162 : Jvm.Cond.instanceMethod ⟨"CommitPrefixes$Setup", "everyone", "()I"⟩ ∈ TT := tt_mem (tb_2 _ (List.mem_of_getElem? (i := 162) rfl)) rfl
theorem k2_163 : Jvm.Cond.selects "CommitPrefixes$Setup" ⟨"CommitPrefixes$Setup", "everyone", "()I"⟩ ⟨"CommitPrefixes$Setup", "everyone", "()I"⟩ ∈ TT := tt_mem (tb_2 _ (List.mem_of_getElem? (i := 163) rfl)) rfl
theorem k2_164 : Jvm.Cond.code ⟨"CommitPrefixes$Setup", "everyone", "()I"⟩ prog_7_method_10_code 1 (Option.some Jvm.ClassFile.FieldType.int) ∈ TT := tt_mem (tb_2 _ (List.mem_of_getElem? (i := 164) rfl)) rfl
theorem k2_165 : Jvm.Cond.methodLink "CommitPrefixes$Run" 84 ⟨"CommitPrefixes$Site", "startAnew", "()V"⟩ ∈ TT := tt_mem (tb_2 _ (List.mem_of_getElem? (i := 165) rfl)) rfl
theorem k2_166 : Jvm.Cond.instanceMethod ⟨"CommitPrefixes$Site", "startAnew", "()V"⟩ ∈ TT := tt_mem (tb_2 _ (List.mem_of_getElem? (i := 166) rfl)) rfl
theorem k2_167 : Jvm.Cond.sameMethod "CommitPrefixes$Site" "CommitPrefixes$Site" "startAnew" "()V" ∈ TT := tt_mem (tb_2 _ (List.mem_of_getElem? (i := 167) rfl)) rfl
theorem k2_168 : Jvm.Cond.selects "CommitPrefixes$Coordinator" ⟨"CommitPrefixes$Site", "startAnew", "()V"⟩ ⟨"CommitPrefixes$Site", "startAnew", "()V"⟩ ∈ TT := tt_mem (tb_2 _ (List.mem_of_getElem? (i := 168) rfl)) rfl
theorem k2_169 : Jvm.Cond.selects "CommitPrefixes$Participant" ⟨"CommitPrefixes$Site", "startAnew", "()V"⟩ ⟨"CommitPrefixes$Site", "startAnew", "()V"⟩ ∈ TT := tt_mem (tb_2 _ (List.mem_of_getElem? (i := 169) rfl)) rfl
theorem k2_170 : Jvm.Cond.code ⟨"CommitPrefixes$Site", "startAnew", "()V"⟩ prog_9_method_5_code 1 Option.none ∈ TT := tt_mem (tb_2 _ (List.mem_of_getElem? (i := 170) rfl)) rfl
theorem k2_171 : Jvm.Cond.methodLink "CommitPrefixes$Site" 32 ⟨"CommitPrefixes$Site", "enter", "(II)V"⟩ ∈ TT := tt_mem (tb_2 _ (List.mem_of_getElem? (i := 171) rfl)) rfl
theorem k2_172 : Jvm.Cond.instanceMethod ⟨"CommitPrefixes$Site", "enter", "(II)V"⟩ ∈ TT := tt_mem (tb_2 _ (List.mem_of_getElem? (i := 172) rfl)) rfl
theorem k2_173 : Jvm.Cond.sameMethod "CommitPrefixes$Site" "CommitPrefixes$Site" "enter" "(II)V" ∈ TT := tt_mem (tb_2 _ (List.mem_of_getElem? (i := 173) rfl)) rfl
theorem k2_174 : Jvm.Cond.selects "CommitPrefixes$Coordinator" ⟨"CommitPrefixes$Site", "enter", "(II)V"⟩ ⟨"CommitPrefixes$Site", "enter", "(II)V"⟩ ∈ TT := tt_mem (tb_2 _ (List.mem_of_getElem? (i := 174) rfl)) rfl
theorem k2_175 : Jvm.Cond.selects "CommitPrefixes$Participant" ⟨"CommitPrefixes$Site", "enter", "(II)V"⟩ ⟨"CommitPrefixes$Site", "enter", "(II)V"⟩ ∈ TT := tt_mem (tb_2 _ (List.mem_of_getElem? (i := 175) rfl)) rfl
theorem k2_176 : Jvm.Cond.code ⟨"CommitPrefixes$Site", "enter", "(II)V"⟩ prog_9_method_6_code 3 Option.none ∈ TT := tt_mem (tb_2 _ (List.mem_of_getElem? (i := 176) rfl)) rfl
theorem k2_177 : Jvm.Cond.methodLink "CommitPrefixes$Run" 87 ⟨"CommitPrefixes$Run", "comeUp", "()V"⟩ ∈ TT := tt_mem (tb_2 _ (List.mem_of_getElem? (i := 177) rfl)) rfl
theorem k2_179 : Jvm.Cond.instanceMethod ⟨"CommitPrefixes$Run", "comeUp", "()V"⟩ ∈ TT := tt_mem (tb_2 _ (List.mem_of_getElem? (i := 179) rfl)) rfl
theorem k2_180 : Jvm.Cond.code ⟨"CommitPrefixes$Run", "comeUp", "()V"⟩ prog_6_method_3_code 2 Option.none ∈ TT := tt_mem (tb_2 _ (List.mem_of_getElem? (i := 180) rfl)) rfl
theorem k2_181 : Jvm.Cond.methodLink "CommitPrefixes$Run" 116 ⟨"CommitPrefixes$Site", "recover", "(LCommitPrefixes$Run;)V"⟩ ∈ TT := tt_mem (tb_2 _ (List.mem_of_getElem? (i := 181) rfl)) rfl
theorem n2_182 : Jvm.Cond.declares ⟨"CommitPrefixes$Site", "recover", "(LCommitPrefixes$Run;)V"⟩ ∈ lw_tbl := tb_2 _ (List.mem_of_getElem? (i := 182) rfl)
theorem k2_183 : Jvm.Cond.sameMethod "CommitPrefixes$Site" "CommitPrefixes$Site" "recover" "(LCommitPrefixes$Run;)V" ∈ TT := tt_mem (tb_2 _ (List.mem_of_getElem? (i := 183) rfl)) rfl
theorem k2_184 : Jvm.Cond.selects "CommitPrefixes$Coordinator" ⟨"CommitPrefixes$Site", "recover", "(LCommitPrefixes$Run;)V"⟩ ⟨"CommitPrefixes$Coordinator", "recover", "(LCommitPrefixes$Run;)V"⟩ ∈ TT := tt_mem (tb_2 _ (List.mem_of_getElem? (i := 184) rfl)) rfl
theorem k2_185 : Jvm.Cond.instanceMethod ⟨"CommitPrefixes$Coordinator", "recover", "(LCommitPrefixes$Run;)V"⟩ ∈ TT := tt_mem (tb_2 _ (List.mem_of_getElem? (i := 185) rfl)) rfl
theorem k2_186 : Jvm.Cond.code ⟨"CommitPrefixes$Coordinator", "recover", "(LCommitPrefixes$Run;)V"⟩ prog_3_method_4_code 2 Option.none ∈ TT := tt_mem (tb_2 _ (List.mem_of_getElem? (i := 186) rfl)) rfl
theorem k2_187 : Jvm.Cond.methodLink "CommitPrefixes$Coordinator" 38 ⟨"CommitPrefixes$Coordinator", "lastRecord", "()I"⟩ ∈ TT := tt_mem (tb_2 _ (List.mem_of_getElem? (i := 187) rfl)) rfl
theorem k2_188 : Jvm.Cond.sameMethod "CommitPrefixes$Coordinator" "CommitPrefixes$Site" "lastRecord" "()I" ∈ TT := tt_mem (tb_2 _ (List.mem_of_getElem? (i := 188) rfl)) rfl
theorem n2_189 : Jvm.Cond.declares ⟨"CommitPrefixes$Site", "lastRecord", "()I"⟩ ∈ lw_tbl := tb_2 _ (List.mem_of_getElem? (i := 189) rfl)
theorem k2_190 : Jvm.Cond.selects "CommitPrefixes$Coordinator" ⟨"CommitPrefixes$Coordinator", "lastRecord", "()I"⟩ ⟨"CommitPrefixes$Site", "lastRecord", "()I"⟩ ∈ TT := tt_mem (tb_2 _ (List.mem_of_getElem? (i := 190) rfl)) rfl
theorem k2_191 : Jvm.Cond.instanceMethod ⟨"CommitPrefixes$Site", "lastRecord", "()I"⟩ ∈ TT := tt_mem (tb_2 _ (List.mem_of_getElem? (i := 191) rfl)) rfl
theorem k2_192 : Jvm.Cond.code ⟨"CommitPrefixes$Site", "lastRecord", "()I"⟩ prog_9_method_9_code 1 (Option.some Jvm.ClassFile.FieldType.int) ∈ TT := tt_mem (tb_2 _ (List.mem_of_getElem? (i := 192) rfl)) rfl
theorem k2_193 : Jvm.Cond.methodLink "CommitPrefixes$Coordinator" 18 ⟨"CommitPrefixes$Run", "waitEnd", "()I"⟩ ∈ TT := tt_mem (tb_2 _ (List.mem_of_getElem? (i := 193) rfl)) rfl
theorem k2_194 : Jvm.Cond.instanceMethod ⟨"CommitPrefixes$Run", "waitEnd", "()I"⟩ ∈ TT := tt_mem (tb_2 _ (List.mem_of_getElem? (i := 194) rfl)) rfl
theorem k2_195 : Jvm.Cond.selects "CommitPrefixes$Run" ⟨"CommitPrefixes$Run", "waitEnd", "()I"⟩ ⟨"CommitPrefixes$Run", "waitEnd", "()I"⟩ ∈ TT := tt_mem (tb_2 _ (List.mem_of_getElem? (i := 195) rfl)) rfl
theorem k2_196 : Jvm.Cond.code ⟨"CommitPrefixes$Run", "waitEnd", "()I"⟩ prog_6_method_9_code 1 (Option.some Jvm.ClassFile.FieldType.int) ∈ TT := tt_mem (tb_2 _ (List.mem_of_getElem? (i := 196) rfl)) rfl
theorem k2_197 : Jvm.Cond.methodLink "CommitPrefixes$Coordinator" 24 ⟨"CommitPrefixes$Coordinator", "turnTo", "(II)V"⟩ ∈ TT := tt_mem (tb_2 _ (List.mem_of_getElem? (i := 197) rfl)) rfl
theorem k2_199 : Jvm.Cond.instanceMethod ⟨"CommitPrefixes$Coordinator", "turnTo", "(II)V"⟩ ∈ TT := tt_mem (tb_2 _ (List.mem_of_getElem? (i := 199) rfl)) rfl
theorem k2_200 : Jvm.Cond.code ⟨"CommitPrefixes$Coordinator", "turnTo", "(II)V"⟩ prog_3_method_10_code 3 Option.none ∈ TT := tt_mem (tb_2 _ (List.mem_of_getElem? (i := 200) rfl)) rfl
theorem k2_201 : Jvm.Cond.methodLink "CommitPrefixes$Coordinator" 34 ⟨"CommitPrefixes$Run", "send", "(III)V"⟩ ∈ TT := tt_mem (tb_2 _ (List.mem_of_getElem? (i := 201) rfl)) rfl
theorem k2_202 : Jvm.Cond.instanceMethod ⟨"CommitPrefixes$Run", "send", "(III)V"⟩ ∈ TT := tt_mem (tb_2 _ (List.mem_of_getElem? (i := 202) rfl)) rfl
theorem k2_203 : Jvm.Cond.selects "CommitPrefixes$Run" ⟨"CommitPrefixes$Run", "send", "(III)V"⟩ ⟨"CommitPrefixes$Run", "send", "(III)V"⟩ ∈ TT := tt_mem (tb_2 _ (List.mem_of_getElem? (i := 203) rfl)) rfl
theorem k2_204 : Jvm.Cond.code ⟨"CommitPrefixes$Run", "send", "(III)V"⟩ prog_6_method_10_code 5 Option.none ∈ TT := tt_mem (tb_2 _ (List.mem_of_getElem? (i := 204) rfl)) rfl
theorem k2_205 : Jvm.Cond.methodLink "CommitPrefixes$Coordinator" 41 ⟨"CommitPrefixes$Coordinator", "decideAbort", "(LCommitPrefixes$Run;)V"⟩ ∈ TT := tt_mem (tb_2 _ (List.mem_of_getElem? (i := 205) rfl)) rfl
theorem k2_207 : Jvm.Cond.instanceMethod ⟨"CommitPrefixes$Coordinator", "decideAbort", "(LCommitPrefixes$Run;)V"⟩ ∈ TT := tt_mem (tb_2 _ (List.mem_of_getElem? (i := 207) rfl)) rfl
theorem k2_208 : Jvm.Cond.code ⟨"CommitPrefixes$Coordinator", "decideAbort", "(LCommitPrefixes$Run;)V"⟩ prog_3_method_9_code 2 Option.none ∈ TT := tt_mem (tb_2 _ (List.mem_of_getElem? (i := 208) rfl)) rfl
theorem k2_209 : Jvm.Cond.methodLink "CommitPrefixes$Coordinator" 15 ⟨"CommitPrefixes$Coordinator", "note", "(I)V"⟩ ∈ TT := tt_mem (tb_2 _ (List.mem_of_getElem? (i := 209) rfl)) rfl
theorem k2_210 : Jvm.Cond.sameMethod "CommitPrefixes$Coordinator" "CommitPrefixes$Site" "note" "(I)V" ∈ TT := tt_mem (tb_2 _ (List.mem_of_getElem? (i := 210) rfl)) rfl
theorem n2_211 : Jvm.Cond.declares ⟨"CommitPrefixes$Site", "note", "(I)V"⟩ ∈ lw_tbl := tb_2 _ (List.mem_of_getElem? (i := 211) rfl)
theorem k2_212 : Jvm.Cond.selects "CommitPrefixes$Coordinator" ⟨"CommitPrefixes$Coordinator", "note", "(I)V"⟩ ⟨"CommitPrefixes$Site", "note", "(I)V"⟩ ∈ TT := tt_mem (tb_2 _ (List.mem_of_getElem? (i := 212) rfl)) rfl
theorem k2_213 : Jvm.Cond.instanceMethod ⟨"CommitPrefixes$Site", "note", "(I)V"⟩ ∈ TT := tt_mem (tb_2 _ (List.mem_of_getElem? (i := 213) rfl)) rfl
theorem k2_214 : Jvm.Cond.code ⟨"CommitPrefixes$Site", "note", "(I)V"⟩ prog_9_method_8_code 2 Option.none ∈ TT := tt_mem (tb_2 _ (List.mem_of_getElem? (i := 214) rfl)) rfl
theorem k2_215 : Jvm.Cond.selects "CommitPrefixes$Participant" ⟨"CommitPrefixes$Site", "recover", "(LCommitPrefixes$Run;)V"⟩ ⟨"CommitPrefixes$Participant", "recover", "(LCommitPrefixes$Run;)V"⟩ ∈ TT := tt_mem (tb_2 _ (List.mem_of_getElem? (i := 215) rfl)) rfl
theorem k2_216 : Jvm.Cond.instanceMethod ⟨"CommitPrefixes$Participant", "recover", "(LCommitPrefixes$Run;)V"⟩ ∈ TT := tt_mem (tb_2 _ (List.mem_of_getElem? (i := 216) rfl)) rfl
theorem k2_217 : Jvm.Cond.code ⟨"CommitPrefixes$Participant", "recover", "(LCommitPrefixes$Run;)V"⟩ prog_5_method_3_code 3 Option.none ∈ TT := tt_mem (tb_2 _ (List.mem_of_getElem? (i := 217) rfl)) rfl
theorem k2_218 : Jvm.Cond.methodLink "CommitPrefixes$Participant" 9 ⟨"CommitPrefixes$Participant", "lastRecord", "()I"⟩ ∈ TT := tt_mem (tb_2 _ (List.mem_of_getElem? (i := 218) rfl)) rfl
theorem k2_219 : Jvm.Cond.sameMethod "CommitPrefixes$Participant" "CommitPrefixes$Site" "lastRecord" "()I" ∈ TT := tt_mem (tb_2 _ (List.mem_of_getElem? (i := 219) rfl)) rfl
theorem k2_220 : Jvm.Cond.selects "CommitPrefixes$Participant" ⟨"CommitPrefixes$Participant", "lastRecord", "()I"⟩ ⟨"CommitPrefixes$Site", "lastRecord", "()I"⟩ ∈ TT := tt_mem (tb_2 _ (List.mem_of_getElem? (i := 220) rfl)) rfl
theorem k2_221 : Jvm.Cond.methodLink "CommitPrefixes$Participant" 15 ⟨"CommitPrefixes$Participant", "note", "(I)V"⟩ ∈ TT := tt_mem (tb_2 _ (List.mem_of_getElem? (i := 221) rfl)) rfl
theorem k2_222 : Jvm.Cond.sameMethod "CommitPrefixes$Participant" "CommitPrefixes$Site" "note" "(I)V" ∈ TT := tt_mem (tb_2 _ (List.mem_of_getElem? (i := 222) rfl)) rfl
theorem k2_223 : Jvm.Cond.selects "CommitPrefixes$Participant" ⟨"CommitPrefixes$Participant", "note", "(I)V"⟩ ⟨"CommitPrefixes$Site", "note", "(I)V"⟩ ∈ TT := tt_mem (tb_2 _ (List.mem_of_getElem? (i := 223) rfl)) rfl
theorem k2_224 : Jvm.Cond.methodLink "CommitPrefixes$Participant" 18 ⟨"CommitPrefixes$Participant", "stateBehind", "(I)I"⟩ ∈ TT := tt_mem (tb_2 _ (List.mem_of_getElem? (i := 224) rfl)) rfl
theorem k2_225 : Jvm.Cond.static ⟨"CommitPrefixes$Participant", "stateBehind", "(I)I"⟩ ∈ TT := tt_mem (tb_2 _ (List.mem_of_getElem? (i := 225) rfl)) rfl
theorem k2_226 : Jvm.Cond.code ⟨"CommitPrefixes$Participant", "stateBehind", "(I)I"⟩ prog_5_method_2_code 1 (Option.some Jvm.ClassFile.FieldType.int) ∈ TT := tt_mem (tb_2 _ (List.mem_of_getElem? (i := 226) rfl)) rfl
theorem k2_227 : Jvm.Cond.methodLink "CommitPrefixes$Participant" 22 ⟨"CommitPrefixes$Participant", "enter", "(II)V"⟩ ∈ TT := tt_mem (tb_2 _ (List.mem_of_getElem? (i := 227) rfl)) rfl
theorem k2_228 : Jvm.Cond.sameMethod "CommitPrefixes$Participant" "CommitPrefixes$Site" "enter" "(II)V" ∈ TT := tt_mem (tb_2 _ (List.mem_of_getElem? (i := 228) rfl)) rfl
theorem n2_229 : Jvm.Cond.declares ⟨"CommitPrefixes$Site", "enter", "(II)V"⟩ ∈ lw_tbl := tb_2 _ (List.mem_of_getElem? (i := 229) rfl)
theorem k2_230 : Jvm.Cond.selects "CommitPrefixes$Participant" ⟨"CommitPrefixes$Participant", "enter", "(II)V"⟩ ⟨"CommitPrefixes$Site", "enter", "(II)V"⟩ ∈ TT := tt_mem (tb_2 _ (List.mem_of_getElem? (i := 230) rfl)) rfl
theorem k2_231 : Jvm.Cond.methodLink "CommitPrefixes$Participant" 38 ⟨"CommitPrefixes$Run", "waitEnd", "()I"⟩ ∈ TT := tt_mem (tb_2 _ (List.mem_of_getElem? (i := 231) rfl)) rfl
theorem k2_232 : Jvm.Cond.methodLink "CommitPrefixes$Run" 90 ⟨"CommitPrefixes$Run", "goDown", "()V"⟩ ∈ TT := tt_mem (tb_2 _ (List.mem_of_getElem? (i := 232) rfl)) rfl
theorem k2_234 : Jvm.Cond.instanceMethod ⟨"CommitPrefixes$Run", "goDown", "()V"⟩ ∈ TT := tt_mem (tb_2 _ (List.mem_of_getElem? (i := 234) rfl)) rfl
theorem k2_235 : Jvm.Cond.code ⟨"CommitPrefixes$Run", "goDown", "()V"⟩ prog_6_method_4_code 2 Option.none ∈ TT := tt_mem (tb_2 _ (List.mem_of_getElem? (i := 235) rfl)) rfl
theorem k2_236 : Jvm.Cond.methodLink "CommitPrefixes$Run" 123 ⟨"CommitPrefixes$Site", "goAway", "()V"⟩ ∈ TT := tt_mem (tb_2 _ (List.mem_of_getElem? (i := 236) rfl)) rfl
theorem k2_237 : Jvm.Cond.instanceMethod ⟨"CommitPrefixes$Site", "goAway", "()V"⟩ ∈ TT := tt_mem (tb_2 _ (List.mem_of_getElem? (i := 237) rfl)) rfl
theorem k2_238 : Jvm.Cond.sameMethod "CommitPrefixes$Site" "CommitPrefixes$Site" "goAway" "()V" ∈ TT := tt_mem (tb_2 _ (List.mem_of_getElem? (i := 238) rfl)) rfl
theorem k2_239 : Jvm.Cond.selects "CommitPrefixes$Coordinator" ⟨"CommitPrefixes$Site", "goAway", "()V"⟩ ⟨"CommitPrefixes$Site", "goAway", "()V"⟩ ∈ TT := tt_mem (tb_2 _ (List.mem_of_getElem? (i := 239) rfl)) rfl
theorem k3_0 : Jvm.Cond.selects "CommitPrefixes$Participant" ⟨"CommitPrefixes$Site", "goAway", "()V"⟩ ⟨"CommitPrefixes$Site", "goAway", "()V"⟩ ∈ TT := tt_mem (tb_3 _ (List.mem_of_getElem? (i := 0) rfl)) rfl
theorem k3_1 : Jvm.Cond.code ⟨"CommitPrefixes$Site", "goAway", "()V"⟩ prog_9_method_7_code 1 Option.none ∈ TT := tt_mem (tb_3 _ (List.mem_of_getElem? (i := 1) rfl)) rfl
theorem k3_2 : Jvm.Cond.methodLink "CommitPrefixes$Run" 93 ⟨"CommitPrefixes$Run", "deliver", "(II)V"⟩ ∈ TT := tt_mem (tb_3 _ (List.mem_of_getElem? (i := 2) rfl)) rfl
theorem k3_4 : Jvm.Cond.instanceMethod ⟨"CommitPrefixes$Run", "deliver", "(II)V"⟩ ∈ TT := tt_mem (tb_3 _ (List.mem_of_getElem? (i := 4) rfl)) rfl
theorem k3_5 : Jvm.Cond.code ⟨"CommitPrefixes$Run", "deliver", "(II)V"⟩ prog_6_method_5_code 5 Option.none ∈ TT := tt_mem (tb_3 _ (List.mem_of_getElem? (i := 5) rfl)) rfl
theorem n3_6 : Jvm.Cond.methodLinkNest "CommitPrefixes$Run" 126 ⟨"CommitPrefixes", "isIn", "(JI)Z"⟩ "CommitPrefixes" ∈ lw_tbl := tb_3 _ (List.mem_of_getElem? (i := 6) rfl)
theorem k3_7 : Jvm.Cond.static ⟨"CommitPrefixes", "isIn", "(JI)Z"⟩ ∈ TT := tt_mem (tb_3 _ (List.mem_of_getElem? (i := 7) rfl)) rfl
theorem k3_8 : Jvm.Cond.code ⟨"CommitPrefixes", "isIn", "(JI)Z"⟩ prog_1_method_39_code 3 (Option.some Jvm.ClassFile.FieldType.boolean) ∈ TT := tt_mem (tb_3 _ (List.mem_of_getElem? (i := 8) rfl)) rfl
theorem k3_9 : Jvm.Cond.methodLink "CommitPrefixes$Run" 130 ⟨"CommitPrefixes$Site", "receive", "(LCommitPrefixes$Run;II)V"⟩ ∈ TT := tt_mem (tb_3 _ (List.mem_of_getElem? (i := 9) rfl)) rfl
theorem n3_10 : Jvm.Cond.declares ⟨"CommitPrefixes$Site", "receive", "(LCommitPrefixes$Run;II)V"⟩ ∈ lw_tbl := tb_3 _ (List.mem_of_getElem? (i := 10) rfl)
theorem k3_11 : Jvm.Cond.sameMethod "CommitPrefixes$Site" "CommitPrefixes$Site" "receive" "(LCommitPrefixes$Run;II)V" ∈ TT := tt_mem (tb_3 _ (List.mem_of_getElem? (i := 11) rfl)) rfl
theorem k3_12 : Jvm.Cond.selects "CommitPrefixes$Coordinator" ⟨"CommitPrefixes$Site", "receive", "(LCommitPrefixes$Run;II)V"⟩ ⟨"CommitPrefixes$Coordinator", "receive", "(LCommitPrefixes$Run;II)V"⟩ ∈ TT := tt_mem (tb_3 _ (List.mem_of_getElem? (i := 12) rfl)) rfl
theorem k3_13 : Jvm.Cond.instanceMethod ⟨"CommitPrefixes$Coordinator", "receive", "(LCommitPrefixes$Run;II)V"⟩ ∈ TT := tt_mem (tb_3 _ (List.mem_of_getElem? (i := 13) rfl)) rfl
theorem k3_14 : Jvm.Cond.code ⟨"CommitPrefixes$Coordinator", "receive", "(LCommitPrefixes$Run;II)V"⟩ prog_3_method_5_code 4 Option.none ∈ TT := tt_mem (tb_3 _ (List.mem_of_getElem? (i := 14) rfl)) rfl
theorem k3_15 : Jvm.Cond.methodLink "CommitPrefixes$Coordinator" 48 ⟨"CommitPrefixes$Coordinator", "allCounted", "(LCommitPrefixes$Run;I)Z"⟩ ∈ TT := tt_mem (tb_3 _ (List.mem_of_getElem? (i := 15) rfl)) rfl
theorem k3_17 : Jvm.Cond.instanceMethod ⟨"CommitPrefixes$Coordinator", "allCounted", "(LCommitPrefixes$Run;I)Z"⟩ ∈ TT := tt_mem (tb_3 _ (List.mem_of_getElem? (i := 17) rfl)) rfl
theorem k3_18 : Jvm.Cond.code ⟨"CommitPrefixes$Coordinator", "allCounted", "(LCommitPrefixes$Run;I)Z"⟩ prog_3_method_11_code 3 (Option.some Jvm.ClassFile.FieldType.boolean) ∈ TT := tt_mem (tb_3 _ (List.mem_of_getElem? (i := 18) rfl)) rfl
theorem k3_19 : Jvm.Cond.methodLink "CommitPrefixes$Coordinator" 61 ⟨"CommitPrefixes$Coordinator", "decideCommit", "(LCommitPrefixes$Run;)V"⟩ ∈ TT := tt_mem (tb_3 _ (List.mem_of_getElem? (i := 19) rfl)) rfl
theorem k3_21 : Jvm.Cond.instanceMethod ⟨"CommitPrefixes$Coordinator", "decideCommit", "(LCommitPrefixes$Run;)V"⟩ ∈ TT := tt_mem (tb_3 _ (List.mem_of_getElem? (i := 21) rfl)) rfl
theorem k3_22 : Jvm.Cond.code ⟨"CommitPrefixes$Coordinator", "decideCommit", "(LCommitPrefixes$Run;)V"⟩ prog_3_method_8_code 2 Option.none ∈ TT := tt_mem (tb_3 _ (List.mem_of_getElem? (i := 22) rfl)) rfl
theorem k3_23 : Jvm.Cond.methodLink "CommitPrefixes$Coordinator" 64 ⟨"CommitPrefixes$Coordinator", "preCommit", "(LCommitPrefixes$Run;)V"⟩ ∈ TT := tt_mem (tb_3 _ (List.mem_of_getElem? (i := 23) rfl)) rfl
theorem k3_25 : Jvm.Cond.instanceMethod ⟨"CommitPrefixes$Coordinator", "preCommit", "(LCommitPrefixes$Run;)V"⟩ ∈ TT := tt_mem (tb_3 _ (List.mem_of_getElem? (i := 25) rfl)) rfl
theorem k3_26 : Jvm.Cond.code ⟨"CommitPrefixes$Coordinator", "preCommit", "(LCommitPrefixes$Run;)V"⟩ prog_3_method_7_code 2 Option.none ∈ TT := tt_mem (tb_3 _ (List.mem_of_getElem? (i := 26) rfl)) rfl
theorem k3_27 : Jvm.Cond.methodLink "CommitPrefixes$Coordinator" 67 ⟨"CommitPrefixes$Coordinator", "tellsDecision", "()Z"⟩ ∈ TT := tt_mem (tb_3 _ (List.mem_of_getElem? (i := 27) rfl)) rfl
theorem k3_29 : Jvm.Cond.instanceMethod ⟨"CommitPrefixes$Coordinator", "tellsDecision", "()Z"⟩ ∈ TT := tt_mem (tb_3 _ (List.mem_of_getElem? (i := 29) rfl)) rfl
theorem k3_30 : Jvm.Cond.code ⟨"CommitPrefixes$Coordinator", "tellsDecision", "()Z"⟩ prog_3_method_12_code 1 (Option.some Jvm.ClassFile.FieldType.boolean) ∈ TT := tt_mem (tb_3 _ (List.mem_of_getElem? (i := 30) rfl)) rfl
theorem k3_31 : Jvm.Cond.methodLink "CommitPrefixes$Coordinator" 71 ⟨"CommitPrefixes$Coordinator", "decision", "()I"⟩ ∈ TT := tt_mem (tb_3 _ (List.mem_of_getElem? (i := 31) rfl)) rfl
theorem k3_33 : Jvm.Cond.instanceMethod ⟨"CommitPrefixes$Coordinator", "decision", "()I"⟩ ∈ TT := tt_mem (tb_3 _ (List.mem_of_getElem? (i := 33) rfl)) rfl
theorem k3_34 : Jvm.Cond.code ⟨"CommitPrefixes$Coordinator", "decision", "()I"⟩ prog_3_method_13_code 1 (Option.some Jvm.ClassFile.FieldType.int) ∈ TT := tt_mem (tb_3 _ (List.mem_of_getElem? (i := 34) rfl)) rfl
theorem k3_35 : Jvm.Cond.methodLink "CommitPrefixes$Coordinator" 84 ⟨"CommitPrefixes$Coordinator", "hasNoted", "(II)Z"⟩ ∈ TT := tt_mem (tb_3 _ (List.mem_of_getElem? (i := 35) rfl)) rfl
theorem k3_36 : Jvm.Cond.sameMethod "CommitPrefixes$Coordinator" "CommitPrefixes$Site" "hasNoted" "(II)Z" ∈ TT := tt_mem (tb_3 _ (List.mem_of_getElem? (i := 36) rfl)) rfl
theorem n3_37 : Jvm.Cond.declares ⟨"CommitPrefixes$Site", "hasNoted", "(II)Z"⟩ ∈ lw_tbl := tb_3 _ (List.mem_of_getElem? (i := 37) rfl)
theorem k3_38 : Jvm.Cond.selects "CommitPrefixes$Coordinator" ⟨"CommitPrefixes$Coordinator", "hasNoted", "(II)Z"⟩ ⟨"CommitPrefixes$Site", "hasNoted", "(II)Z"⟩ ∈ TT := tt_mem (tb_3 _ (List.mem_of_getElem? (i := 38) rfl)) rfl
theorem k3_39 : Jvm.Cond.instanceMethod ⟨"CommitPrefixes$Site", "hasNoted", "(II)Z"⟩ ∈ TT := tt_mem (tb_3 _ (List.mem_of_getElem? (i := 39) rfl)) rfl
theorem k3_40 : Jvm.Cond.code ⟨"CommitPrefixes$Site", "hasNoted", "(II)Z"⟩ prog_9_method_10_code 4 (Option.some Jvm.ClassFile.FieldType.boolean) ∈ TT := tt_mem (tb_3 _ (List.mem_of_getElem? (i := 40) rfl)) rfl
theorem k3_41 : Jvm.Cond.selects "CommitPrefixes$Participant" ⟨"CommitPrefixes$Site", "receive", "(LCommitPrefixes$Run;II)V"⟩ ⟨"CommitPrefixes$Participant", "receive", "(LCommitPrefixes$Run;II)V"⟩ ∈ TT := tt_mem (tb_3 _ (List.mem_of_getElem? (i := 41) rfl)) rfl
theorem k3_42 : Jvm.Cond.instanceMethod ⟨"CommitPrefixes$Participant", "receive", "(LCommitPrefixes$Run;II)V"⟩ ∈ TT := tt_mem (tb_3 _ (List.mem_of_getElem? (i := 42) rfl)) rfl
theorem k3_43 : Jvm.Cond.code ⟨"CommitPrefixes$Participant", "receive", "(LCommitPrefixes$Run;II)V"⟩ prog_5_method_4_code 4 Option.none ∈ TT := tt_mem (tb_3 _ (List.mem_of_getElem? (i := 43) rfl)) rfl
theorem k3_44 : Jvm.Cond.methodLink "CommitPrefixes$Participant" 48 ⟨"CommitPrefixes$Setup", "votesYes", "(I)Z"⟩ ∈ TT := tt_mem (tb_3 _ (List.mem_of_getElem? (i := 44) rfl)) rfl
theorem k3_45 : Jvm.Cond.instanceMethod ⟨"CommitPrefixes$Setup", "votesYes", "(I)Z"⟩ ∈ TT := tt_mem (tb_3 _ (List.mem_of_getElem? (i := 45) rfl)) rfl
theorem k3_46 : Jvm.Cond.selects "CommitPrefixes$Setup" ⟨"CommitPrefixes$Setup", "votesYes", "(I)Z"⟩ ⟨"CommitPrefixes$Setup", "votesYes", "(I)Z"⟩ ∈ TT := tt_mem (tb_3 _ (List.mem_of_getElem? (i := 46) rfl)) rfl
theorem k3_47 : Jvm.Cond.code ⟨"CommitPrefixes$Setup", "votesYes", "(I)Z"⟩ prog_7_method_6_code 2 (Option.some Jvm.ClassFile.FieldType.boolean) ∈ TT := tt_mem (tb_3 _ (List.mem_of_getElem? (i := 47) rfl)) rfl
theorem k3_48 : Jvm.Cond.methodLink "CommitPrefixes$Participant" 54 ⟨"CommitPrefixes$Participant", "sayYes", "(LCommitPrefixes$Run;)V"⟩ ∈ TT := tt_mem (tb_3 _ (List.mem_of_getElem? (i := 48) rfl)) rfl
theorem k3_50 : Jvm.Cond.instanceMethod ⟨"CommitPrefixes$Participant", "sayYes", "(LCommitPrefixes$Run;)V"⟩ ∈ TT := tt_mem (tb_3 _ (List.mem_of_getElem? (i := 50) rfl)) rfl
theorem k3_51 : Jvm.Cond.code ⟨"CommitPrefixes$Participant", "sayYes", "(LCommitPrefixes$Run;)V"⟩ prog_5_method_6_code 2 Option.none ∈ TT := tt_mem (tb_3 _ (List.mem_of_getElem? (i := 51) rfl)) rfl
theorem k3_52 : Jvm.Cond.methodLink "CommitPrefixes$Participant" 61 ⟨"CommitPrefixes$Run", "send", "(III)V"⟩ ∈ TT := tt_mem (tb_3 _ (List.mem_of_getElem? (i := 52) rfl)) rfl
theorem k3_53 : Jvm.Cond.methodLink "CommitPrefixes$Participant" 58 ⟨"CommitPrefixes$Participant", "settle", "(I)V"⟩ ∈ TT := tt_mem (tb_3 _ (List.mem_of_getElem? (i := 53) rfl)) rfl
theorem k3_55 : Jvm.Cond.instanceMethod ⟨"CommitPrefixes$Participant", "settle", "(I)V"⟩ ∈ TT := tt_mem (tb_3 _ (List.mem_of_getElem? (i := 55) rfl)) rfl
theorem k3_56 : Jvm.Cond.code ⟨"CommitPrefixes$Participant", "settle", "(I)V"⟩ prog_5_method_9_code 2 Option.none ∈ TT := tt_mem (tb_3 _ (List.mem_of_getElem? (i := 56) rfl)) rfl
theorem k3_57 : Jvm.Cond.methodLink "CommitPrefixes$Participant" 65 ⟨"CommitPrefixes$Participant", "hearPre", "(LCommitPrefixes$Run;)V"⟩ ∈ TT := tt_mem (tb_3 _ (List.mem_of_getElem? (i := 57) rfl)) rfl
theorem k3_59 : Jvm.Cond.instanceMethod ⟨"CommitPrefixes$Participant", "hearPre", "(LCommitPrefixes$Run;)V"⟩ ∈ TT := tt_mem (tb_3 _ (List.mem_of_getElem? (i := 59) rfl)) rfl
theorem k3_60 : Jvm.Cond.code ⟨"CommitPrefixes$Participant", "hearPre", "(LCommitPrefixes$Run;)V"⟩ prog_5_method_7_code 2 Option.none ∈ TT := tt_mem (tb_3 _ (List.mem_of_getElem? (i := 60) rfl)) rfl
theorem k3_61 : Jvm.Cond.methodLink "CommitPrefixes$Participant" 68 ⟨"CommitPrefixes$Participant", "isSettled", "()Z"⟩ ∈ TT := tt_mem (tb_3 _ (List.mem_of_getElem? (i := 61) rfl)) rfl
theorem k3_63 : Jvm.Cond.instanceMethod ⟨"CommitPrefixes$Participant", "isSettled", "()Z"⟩ ∈ TT := tt_mem (tb_3 _ (List.mem_of_getElem? (i := 63) rfl)) rfl
theorem k3_64 : Jvm.Cond.code ⟨"CommitPrefixes$Participant", "isSettled", "()Z"⟩ prog_5_method_8_code 1 (Option.some Jvm.ClassFile.FieldType.boolean) ∈ TT := tt_mem (tb_3 _ (List.mem_of_getElem? (i := 64) rfl)) rfl
theorem k3_65 : Jvm.Cond.methodLink "CommitPrefixes$Run" 97 ⟨"CommitPrefixes$Run", "endWaits", "()V"⟩ ∈ TT := tt_mem (tb_3 _ (List.mem_of_getElem? (i := 65) rfl)) rfl
theorem k3_67 : Jvm.Cond.instanceMethod ⟨"CommitPrefixes$Run", "endWaits", "()V"⟩ ∈ TT := tt_mem (tb_3 _ (List.mem_of_getElem? (i := 67) rfl)) rfl
theorem k3_68 : Jvm.Cond.code ⟨"CommitPrefixes$Run", "endWaits", "()V"⟩ prog_6_method_6_code 2 Option.none ∈ TT := tt_mem (tb_3 _ (List.mem_of_getElem? (i := 68) rfl)) rfl
theorem k3_69 : Jvm.Cond.methodLink "CommitPrefixes$Run" 135 ⟨"CommitPrefixes$Coordinator", "begin", "(LCommitPrefixes$Run;)V"⟩ ∈ TT := tt_mem (tb_3 _ (List.mem_of_getElem? (i := 69) rfl)) rfl
theorem k3_70 : Jvm.Cond.instanceMethod ⟨"CommitPrefixes$Coordinator", "begin", "(LCommitPrefixes$Run;)V"⟩ ∈ TT := tt_mem (tb_3 _ (List.mem_of_getElem? (i := 70) rfl)) rfl
theorem k3_71 : Jvm.Cond.selects "CommitPrefixes$Coordinator" ⟨"CommitPrefixes$Coordinator", "begin", "(LCommitPrefixes$Run;)V"⟩ ⟨"CommitPrefixes$Coordinator", "begin", "(LCommitPrefixes$Run;)V"⟩ ∈ TT := tt_mem (tb_3 _ (List.mem_of_getElem? (i := 71) rfl)) rfl
theorem k3_72 : Jvm.Cond.code ⟨"CommitPrefixes$Coordinator", "begin", "(LCommitPrefixes$Run;)V"⟩ prog_3_method_3_code 2 Option.none ∈ TT := tt_mem (tb_3 _ (List.mem_of_getElem? (i := 72) rfl)) rfl
theorem k3_73 : Jvm.Cond.methodLink "CommitPrefixes$Run" 141 ⟨"CommitPrefixes$Site", "timeOut", "(LCommitPrefixes$Run;)V"⟩ ∈ TT := tt_mem (tb_3 _ (List.mem_of_getElem? (i := 73) rfl)) rfl
theorem n3_74 : Jvm.Cond.declares ⟨"CommitPrefixes$Site", "timeOut", "(LCommitPrefixes$Run;)V"⟩ ∈ lw_tbl := tb_3 _ (List.mem_of_getElem? (i := 74) rfl)
theorem k3_75 : Jvm.Cond.sameMethod "CommitPrefixes$Site" "CommitPrefixes$Site" "timeOut" "(LCommitPrefixes$Run;)V" ∈ TT := tt_mem (tb_3 _ (List.mem_of_getElem? (i := 75) rfl)) rfl
theorem k3_76 : Jvm.Cond.selects "CommitPrefixes$Coordinator" ⟨"CommitPrefixes$Site", "timeOut", "(LCommitPrefixes$Run;)V"⟩ ⟨"CommitPrefixes$Coordinator", "timeOut", "(LCommitPrefixes$Run;)V"⟩ ∈ TT := tt_mem (tb_3 _ (List.mem_of_getElem? (i := 76) rfl)) rfl
theorem k3_77 : Jvm.Cond.instanceMethod ⟨"CommitPrefixes$Coordinator", "timeOut", "(LCommitPrefixes$Run;)V"⟩ ∈ TT := tt_mem (tb_3 _ (List.mem_of_getElem? (i := 77) rfl)) rfl
theorem k3_78 : Jvm.Cond.code ⟨"CommitPrefixes$Coordinator", "timeOut", "(LCommitPrefixes$Run;)V"⟩ prog_3_method_6_code 2 Option.none ∈ TT := tt_mem (tb_3 _ (List.mem_of_getElem? (i := 78) rfl)) rfl
theorem k3_79 : Jvm.Cond.selects "CommitPrefixes$Participant" ⟨"CommitPrefixes$Site", "timeOut", "(LCommitPrefixes$Run;)V"⟩ ⟨"CommitPrefixes$Participant", "timeOut", "(LCommitPrefixes$Run;)V"⟩ ∈ TT := tt_mem (tb_3 _ (List.mem_of_getElem? (i := 79) rfl)) rfl
theorem k3_80 : Jvm.Cond.instanceMethod ⟨"CommitPrefixes$Participant", "timeOut", "(LCommitPrefixes$Run;)V"⟩ ∈ TT := tt_mem (tb_3 _ (List.mem_of_getElem? (i := 80) rfl)) rfl
theorem k3_81 : Jvm.Cond.code ⟨"CommitPrefixes$Participant", "timeOut", "(LCommitPrefixes$Run;)V"⟩ prog_5_method_5_code 2 Option.none ∈ TT := tt_mem (tb_3 _ (List.mem_of_getElem? (i := 81) rfl)) rfl
theorem k3_82 : Jvm.Cond.methodLink "CommitPrefixes$Run" 100 ⟨"CommitPrefixes$Run", "keepMoment", "()V"⟩ ∈ TT := tt_mem (tb_3 _ (List.mem_of_getElem? (i := 82) rfl)) rfl
theorem k3_84 : Jvm.Cond.instanceMethod ⟨"CommitPrefixes$Run", "keepMoment", "()V"⟩ ∈ TT := tt_mem (tb_3 _ (List.mem_of_getElem? (i := 84) rfl)) rfl
theorem k3_85 : Jvm.Cond.code ⟨"CommitPrefixes$Run", "keepMoment", "()V"⟩ prog_6_method_7_code 3 Option.none ∈ TT := tt_mem (tb_3 _ (List.mem_of_getElem? (i := 85) rfl)) rfl
theorem k3_86 : Jvm.Cond.methodLink "CommitPrefixes$Run" 103 ⟨"CommitPrefixes$Run", "isAnythingAhead", "()Z"⟩ ∈ TT := tt_mem (tb_3 _ (List.mem_of_getElem? (i := 86) rfl)) rfl
theorem k3_88 : Jvm.Cond.instanceMethod ⟨"CommitPrefixes$Run", "isAnythingAhead", "()Z"⟩ ∈ TT := tt_mem (tb_3 _ (List.mem_of_getElem? (i := 88) rfl)) rfl
theorem k3_89 : Jvm.Cond.code ⟨"CommitPrefixes$Run", "isAnythingAhead", "()Z"⟩ prog_6_method_8_code 2 (Option.some Jvm.ClassFile.FieldType.boolean) ∈ TT := tt_mem (tb_3 _ (List.mem_of_getElem? (i := 89) rfl)) rfl
theorem k3_90 : Jvm.Cond.methodLink "CommitPrefixes" 117 ⟨"CommitPrefixes$Run", "wasSent", "(I)Z"⟩ ∈ TT := tt_mem (tb_3 _ (List.mem_of_getElem? (i := 90) rfl)) rfl
theorem k3_91 : Jvm.Cond.instanceMethod ⟨"CommitPrefixes$Run", "wasSent", "(I)Z"⟩ ∈ TT := tt_mem (tb_3 _ (List.mem_of_getElem? (i := 91) rfl)) rfl
theorem k3_92 : Jvm.Cond.selects "CommitPrefixes$Run" ⟨"CommitPrefixes$Run", "wasSent", "(I)Z"⟩ ⟨"CommitPrefixes$Run", "wasSent", "(I)Z"⟩ ∈ TT := tt_mem (tb_3 _ (List.mem_of_getElem? (i := 92) rfl)) rfl
theorem k3_93 : Jvm.Cond.code ⟨"CommitPrefixes$Run", "wasSent", "(I)Z"⟩ prog_6_method_11_code 2 (Option.some Jvm.ClassFile.FieldType.boolean) ∈ TT := tt_mem (tb_3 _ (List.mem_of_getElem? (i := 93) rfl)) rfl
theorem k3_94 : Jvm.Cond.methodLink "CommitPrefixes" 132 ⟨"CommitPrefixes$Shelf", "holdMessage", "(IIII)V"⟩ ∈ TT := tt_mem (tb_3 _ (List.mem_of_getElem? (i := 94) rfl)) rfl
theorem k3_95 : Jvm.Cond.instanceMethod ⟨"CommitPrefixes$Shelf", "holdMessage", "(IIII)V"⟩ ∈ TT := tt_mem (tb_3 _ (List.mem_of_getElem? (i := 95) rfl)) rfl
theorem k3_96 : Jvm.Cond.selects "CommitPrefixes$Shelf" ⟨"CommitPrefixes$Shelf", "holdMessage", "(IIII)V"⟩ ⟨"CommitPrefixes$Shelf", "holdMessage", "(IIII)V"⟩ ∈ TT := tt_mem (tb_3 _ (List.mem_of_getElem? (i := 96) rfl)) rfl
theorem k3_97 : Jvm.Cond.code ⟨"CommitPrefixes$Shelf", "holdMessage", "(IIII)V"⟩ prog_8_method_7_code 5 Option.none ∈ TT := tt_mem (tb_3 _ (List.mem_of_getElem? (i := 97) rfl)) rfl
theorem k3_98 : Jvm.Cond.methodLink "CommitPrefixes$Shelf" 43 ⟨"CommitPrefixes$Shelf", "clear", "()V"⟩ ∈ TT := tt_mem (tb_3 _ (List.mem_of_getElem? (i := 98) rfl)) rfl
theorem k3_99 : Jvm.Cond.methodLink "CommitPrefixesLaw" 40 ⟨"CommitPrefixes", "holds", "(I)I"⟩ ∈ TT := tt_mem (tb_3 _ (List.mem_of_getElem? (i := 99) rfl)) rfl
theorem k3_100 : Jvm.Cond.instanceMethod ⟨"CommitPrefixes", "holds", "(I)I"⟩ ∈ TT := tt_mem (tb_3 _ (List.mem_of_getElem? (i := 100) rfl)) rfl
theorem k3_101 : Jvm.Cond.selects "CommitPrefixes" ⟨"CommitPrefixes", "holds", "(I)I"⟩ ⟨"CommitPrefixes", "holds", "(I)I"⟩ ∈ TT := tt_mem (tb_3 _ (List.mem_of_getElem? (i := 101) rfl)) rfl
theorem k3_102 : Jvm.Cond.code ⟨"CommitPrefixes", "holds", "(I)I"⟩ prog_1_method_7_code 2 (Option.some Jvm.ClassFile.FieldType.int) ∈ TT := tt_mem (tb_3 _ (List.mem_of_getElem? (i := 102) rfl)) rfl
theorem k3_103 : Jvm.Cond.methodLink "CommitPrefixes" 140 ⟨"CommitPrefixes$Shelf", "isRow", "()Z"⟩ ∈ TT := tt_mem (tb_3 _ (List.mem_of_getElem? (i := 103) rfl)) rfl
theorem k3_104 : Jvm.Cond.instanceMethod ⟨"CommitPrefixes$Shelf", "isRow", "()Z"⟩ ∈ TT := tt_mem (tb_3 _ (List.mem_of_getElem? (i := 104) rfl)) rfl
theorem k3_105 : Jvm.Cond.selects "CommitPrefixes$Shelf" ⟨"CommitPrefixes$Shelf", "isRow", "()Z"⟩ ⟨"CommitPrefixes$Shelf", "isRow", "()Z"⟩ ∈ TT := tt_mem (tb_3 _ (List.mem_of_getElem? (i := 105) rfl)) rfl
theorem k3_106 : Jvm.Cond.code ⟨"CommitPrefixes$Shelf", "isRow", "()Z"⟩ prog_8_method_3_code 1 (Option.some Jvm.ClassFile.FieldType.boolean) ∈ TT := tt_mem (tb_3 _ (List.mem_of_getElem? (i := 106) rfl)) rfl
theorem k3_107 : Jvm.Cond.methodLink "CommitPrefixesLaw" 45 ⟨"CommitPrefixes", "says", "(II)I"⟩ ∈ TT := tt_mem (tb_3 _ (List.mem_of_getElem? (i := 107) rfl)) rfl
theorem k3_108 : Jvm.Cond.instanceMethod ⟨"CommitPrefixes", "says", "(II)I"⟩ ∈ TT := tt_mem (tb_3 _ (List.mem_of_getElem? (i := 108) rfl)) rfl
theorem k3_109 : Jvm.Cond.selects "CommitPrefixes" ⟨"CommitPrefixes", "says", "(II)I"⟩ ⟨"CommitPrefixes", "says", "(II)I"⟩ ∈ TT := tt_mem (tb_3 _ (List.mem_of_getElem? (i := 109) rfl)) rfl
theorem k3_110 : Jvm.Cond.code ⟨"CommitPrefixes", "says", "(II)I"⟩ prog_1_method_8_code 3 (Option.some Jvm.ClassFile.FieldType.int) ∈ TT := tt_mem (tb_3 _ (List.mem_of_getElem? (i := 110) rfl)) rfl
theorem k3_111 : Jvm.Cond.methodLink "CommitPrefixes" 148 ⟨"CommitPrefixes$Shelf", "isOfSort", "(I)Z"⟩ ∈ TT := tt_mem (tb_3 _ (List.mem_of_getElem? (i := 111) rfl)) rfl
theorem k3_112 : Jvm.Cond.instanceMethod ⟨"CommitPrefixes$Shelf", "isOfSort", "(I)Z"⟩ ∈ TT := tt_mem (tb_3 _ (List.mem_of_getElem? (i := 112) rfl)) rfl
theorem k3_113 : Jvm.Cond.selects "CommitPrefixes$Shelf" ⟨"CommitPrefixes$Shelf", "isOfSort", "(I)Z"⟩ ⟨"CommitPrefixes$Shelf", "isOfSort", "(I)Z"⟩ ∈ TT := tt_mem (tb_3 _ (List.mem_of_getElem? (i := 113) rfl)) rfl
theorem k3_114 : Jvm.Cond.code ⟨"CommitPrefixes$Shelf", "isOfSort", "(I)Z"⟩ prog_8_method_13_code 2 (Option.some Jvm.ClassFile.FieldType.boolean) ∈ TT := tt_mem (tb_3 _ (List.mem_of_getElem? (i := 114) rfl)) rfl
theorem k3_115 : Jvm.Cond.methodLink "CommitPrefixes" 151 ⟨"CommitPrefixes$Shelf", "saysAs", "(I)I"⟩ ∈ TT := tt_mem (tb_3 _ (List.mem_of_getElem? (i := 115) rfl)) rfl
theorem k3_116 : Jvm.Cond.instanceMethod ⟨"CommitPrefixes$Shelf", "saysAs", "(I)I"⟩ ∈ TT := tt_mem (tb_3 _ (List.mem_of_getElem? (i := 116) rfl)) rfl
theorem k3_117 : Jvm.Cond.selects "CommitPrefixes$Shelf" ⟨"CommitPrefixes$Shelf", "saysAs", "(I)I"⟩ ⟨"CommitPrefixes$Shelf", "saysAs", "(I)I"⟩ ∈ TT := tt_mem (tb_3 _ (List.mem_of_getElem? (i := 117) rfl)) rfl
theorem k3_118 : Jvm.Cond.code ⟨"CommitPrefixes$Shelf", "saysAs", "(I)I"⟩ prog_8_method_14_code 2 (Option.some Jvm.ClassFile.FieldType.int) ∈ TT := tt_mem (tb_3 _ (List.mem_of_getElem? (i := 118) rfl)) rfl
theorem k3_119 : Jvm.Cond.methodLink "CommitPrefixesLaw" 49 ⟨"CommitPrefixes", "read", "(I)I"⟩ ∈ TT := tt_mem (tb_3 _ (List.mem_of_getElem? (i := 119) rfl)) rfl
theorem k3_120 : Jvm.Cond.instanceMethod ⟨"CommitPrefixes", "read", "(I)I"⟩ ∈ TT := tt_mem (tb_3 _ (List.mem_of_getElem? (i := 120) rfl)) rfl
theorem k3_121 : Jvm.Cond.selects "CommitPrefixes" ⟨"CommitPrefixes", "read", "(I)I"⟩ ⟨"CommitPrefixes", "read", "(I)I"⟩ ∈ TT := tt_mem (tb_3 _ (List.mem_of_getElem? (i := 121) rfl)) rfl
theorem k3_122 : Jvm.Cond.code ⟨"CommitPrefixes", "read", "(I)I"⟩ prog_1_method_9_code 4 (Option.some Jvm.ClassFile.FieldType.int) ∈ TT := tt_mem (tb_3 _ (List.mem_of_getElem? (i := 122) rfl)) rfl
theorem k3_123 : Jvm.Cond.methodLink "CommitPrefixes" 157 ⟨"CommitPrefixes$Setup", "takeFrom", "(LCommitPrefixes$Setup;)V"⟩ ∈ TT := tt_mem (tb_3 _ (List.mem_of_getElem? (i := 123) rfl)) rfl
theorem k3_124 : Jvm.Cond.instanceMethod ⟨"CommitPrefixes$Setup", "takeFrom", "(LCommitPrefixes$Setup;)V"⟩ ∈ TT := tt_mem (tb_3 _ (List.mem_of_getElem? (i := 124) rfl)) rfl
theorem k3_125 : Jvm.Cond.selects "CommitPrefixes$Setup" ⟨"CommitPrefixes$Setup", "takeFrom", "(LCommitPrefixes$Setup;)V"⟩ ⟨"CommitPrefixes$Setup", "takeFrom", "(LCommitPrefixes$Setup;)V"⟩ ∈ TT := tt_mem (tb_3 _ (List.mem_of_getElem? (i := 125) rfl)) rfl
theorem k3_126 : Jvm.Cond.code ⟨"CommitPrefixes$Setup", "takeFrom", "(LCommitPrefixes$Setup;)V"⟩ prog_7_method_2_code 2 Option.none ∈ TT := tt_mem (tb_3 _ (List.mem_of_getElem? (i := 126) rfl)) rfl
theorem k3_127 : Jvm.Cond.methodLink "CommitPrefixes$Setup" 48 ⟨"java/lang/System", "arraycopy", "(Ljava/lang/Object;ILjava/lang/Object;II)V"⟩ ∈ TT := tt_mem (tb_3 _ (List.mem_of_getElem? (i := 127) rfl)) rfl
theorem k3_128 : Jvm.Cond.methodLink "CommitPrefixes" 160 ⟨"CommitPrefixes$TextReader", "readItems", "(LCommitPrefixes$Shelf;)I"⟩ ∈ TT := tt_mem (tb_3 _ (List.mem_of_getElem? (i := 128) rfl)) rfl
theorem k3_129 : Jvm.Cond.instanceMethod ⟨"CommitPrefixes$TextReader", "readItems", "(LCommitPrefixes$Shelf;)I"⟩ ∈ TT := tt_mem (tb_3 _ (List.mem_of_getElem? (i := 129) rfl)) rfl
theorem k3_130 : Jvm.Cond.selects "CommitPrefixes$TextReader" ⟨"CommitPrefixes$TextReader", "readItems", "(LCommitPrefixes$Shelf;)I"⟩ ⟨"CommitPrefixes$TextReader", "readItems", "(LCommitPrefixes$Shelf;)I"⟩ ∈ TT := tt_mem (tb_3 _ (List.mem_of_getElem? (i := 130) rfl)) rfl
theorem k3_131 : Jvm.Cond.code ⟨"CommitPrefixes$TextReader", "readItems", "(LCommitPrefixes$Shelf;)I"⟩ prog_10_method_2_code 3 (Option.some Jvm.ClassFile.FieldType.int) ∈ TT := tt_mem (tb_3 _ (List.mem_of_getElem? (i := 131) rfl)) rfl
theorem k3_132 : Jvm.Cond.methodLink "CommitPrefixes$TextReader" 34 ⟨"CommitPrefixes$TextReader", "readItem", "(LCommitPrefixes$Shelf;)Z"⟩ ∈ TT := tt_mem (tb_3 _ (List.mem_of_getElem? (i := 132) rfl)) rfl
theorem k3_134 : Jvm.Cond.instanceMethod ⟨"CommitPrefixes$TextReader", "readItem", "(LCommitPrefixes$Shelf;)Z"⟩ ∈ TT := tt_mem (tb_3 _ (List.mem_of_getElem? (i := 134) rfl)) rfl
theorem k3_135 : Jvm.Cond.code ⟨"CommitPrefixes$TextReader", "readItem", "(LCommitPrefixes$Shelf;)Z"⟩ prog_10_method_3_code 4 (Option.some Jvm.ClassFile.FieldType.boolean) ∈ TT := tt_mem (tb_3 _ (List.mem_of_getElem? (i := 135) rfl)) rfl
theorem k3_136 : Jvm.Cond.methodLink "CommitPrefixes$TextReader" 42 ⟨"CommitPrefixes$TextReader", "readWord", "(LCommitPrefixes$Shelf;)LCommitPrefixes$Item;"⟩ ∈ TT := tt_mem (tb_3 _ (List.mem_of_getElem? (i := 136) rfl)) rfl
theorem k3_138 : Jvm.Cond.instanceMethod ⟨"CommitPrefixes$TextReader", "readWord", "(LCommitPrefixes$Shelf;)LCommitPrefixes$Item;"⟩ ∈ TT := tt_mem (tb_3 _ (List.mem_of_getElem? (i := 138) rfl)) rfl
theorem k3_139 : Jvm.Cond.code ⟨"CommitPrefixes$TextReader", "readWord", "(LCommitPrefixes$Shelf;)LCommitPrefixes$Item;"⟩ prog_10_method_6_code 8 (Option.some (Jvm.ClassFile.FieldType.object "CommitPrefixes$Item")) ∈ TT := tt_mem (tb_3 _ (List.mem_of_getElem? (i := 139) rfl)) rfl
theorem n3_140 : Jvm.Cond.fieldLinkNest "CommitPrefixes$TextReader" 71 "CommitPrefixes" "ITEMS" "[LCommitPrefixes$Item;" "CommitPrefixes" ∈ lw_tbl := tb_3 _ (List.mem_of_getElem? (i := 140) rfl)
theorem n3_141 : Jvm.Cond.laysStatic "CommitPrefixes" "ITEMS" "[LCommitPrefixes$Item;" ∈ lw_tbl := tb_3 _ (List.mem_of_getElem? (i := 141) rfl)
theorem k3_142 : Jvm.Cond.methodLink "CommitPrefixes$TextReader" 79 ⟨"CommitPrefixes$TextReader", "sameLetters", "(LCommitPrefixes$Shelf;Ljava/lang/String;)I"⟩ ∈ TT := tt_mem (tb_3 _ (List.mem_of_getElem? (i := 142) rfl)) rfl
theorem k3_144 : Jvm.Cond.instanceMethod ⟨"CommitPrefixes$TextReader", "sameLetters", "(LCommitPrefixes$Shelf;Ljava/lang/String;)I"⟩ ∈ TT := tt_mem (tb_3 _ (List.mem_of_getElem? (i := 144) rfl)) rfl
theorem k3_145 : Jvm.Cond.code ⟨"CommitPrefixes$TextReader", "sameLetters", "(LCommitPrefixes$Shelf;Ljava/lang/String;)I"⟩ prog_10_method_7_code 4 (Option.some Jvm.ClassFile.FieldType.int) ∈ TT := tt_mem (tb_3 _ (List.mem_of_getElem? (i := 145) rfl)) rfl
theorem k3_146 : Jvm.Cond.methodLink "CommitPrefixes$TextReader" 83 ⟨"java/lang/String", "length", "()I"⟩ ∈ TT := tt_mem (tb_3 _ (List.mem_of_getElem? (i := 146) rfl)) rfl
theorem k3_147 : Jvm.Cond.instanceMethod ⟨"java/lang/String", "length", "()I"⟩ ∈ TT := tt_mem (tb_3 _ (List.mem_of_getElem? (i := 147) rfl)) rfl
theorem k3_148 : Jvm.Cond.selects "java/lang/String" ⟨"java/lang/String", "length", "()I"⟩ ⟨"java/lang/String", "length", "()I"⟩ ∈ TT := tt_mem (tb_3 _ (List.mem_of_getElem? (i := 148) rfl)) rfl
theorem k3_149 : Jvm.Cond.code ⟨"java/lang/String", "length", "()I"⟩ prog_16_method_54_code 1 (Option.some Jvm.ClassFile.FieldType.int) ∈ TT := tt_mem (tb_3 _ (List.mem_of_getElem? (i := 149) rfl)) rfl
theorem k3_150 : Jvm.Cond.methodLink "java/lang/String" 335 ⟨"java/lang/String", "coder", "()B"⟩ ∈ TT := tt_mem (tb_3 _ (List.mem_of_getElem? (i := 150) rfl)) rfl
theorem k3_151 : Jvm.Cond.instanceMethod ⟨"java/lang/String", "coder", "()B"⟩ ∈ TT := tt_mem (tb_3 _ (List.mem_of_getElem? (i := 151) rfl)) rfl
theorem k3_152 : Jvm.Cond.selects "java/lang/String" ⟨"java/lang/String", "coder", "()B"⟩ ⟨"java/lang/String", "coder", "()B"⟩ ∈ TT := tt_mem (tb_3 _ (List.mem_of_getElem? (i := 152) rfl)) rfl
theorem k3_153 : Jvm.Cond.code ⟨"java/lang/String", "coder", "()B"⟩ prog_16_method_152_code 1 (Option.some Jvm.ClassFile.FieldType.byte) ∈ TT := tt_mem (tb_3 _ (List.mem_of_getElem? (i := 153) rfl)) rfl
theorem k3_154 : Jvm.Cond.fieldLink "java/lang/String" 38 "java/lang/String" "COMPACT_STRINGS" "Z" ∈ TT := tt_mem (tb_3 _ (List.mem_of_getElem? (i := 154) rfl)) rfl
theorem n3_155 : Jvm.Cond.laysStatic "java/lang/String" "COMPACT_STRINGS" "Z" ∈ lw_tbl := tb_3 _ (List.mem_of_getElem? (i := 155) rfl)
theorem k3_156 : Jvm.Cond.methodLink "CommitPrefixes$TextReader" 95 ⟨"java/lang/String", "charAt", "(I)C"⟩ ∈ TT := tt_mem (tb_3 _ (List.mem_of_getElem? (i := 156) rfl)) rfl
theorem k3_157 : Jvm.Cond.instanceMethod ⟨"java/lang/String", "charAt", "(I)C"⟩ ∈ TT := tt_mem (tb_3 _ (List.mem_of_getElem? (i := 157) rfl)) rfl
theorem k3_158 : Jvm.Cond.selects "java/lang/String" ⟨"java/lang/String", "charAt", "(I)C"⟩ ⟨"java/lang/String", "charAt", "(I)C"⟩ ∈ TT := tt_mem (tb_3 _ (List.mem_of_getElem? (i := 158) rfl)) rfl
theorem k3_159 : Jvm.Cond.code ⟨"java/lang/String", "charAt", "(I)C"⟩ prog_16_method_56_code 2 (Option.some Jvm.ClassFile.FieldType.char) ∈ TT := tt_mem (tb_3 _ (List.mem_of_getElem? (i := 159) rfl)) rfl
theorem k3_160 : Jvm.Cond.methodLink "java/lang/String" 492 ⟨"java/lang/String", "isLatin1", "()Z"⟩ ∈ TT := tt_mem (tb_3 _ (List.mem_of_getElem? (i := 160) rfl)) rfl
theorem k3_161 : Jvm.Cond.instanceMethod ⟨"java/lang/String", "isLatin1", "()Z"⟩ ∈ TT := tt_mem (tb_3 _ (List.mem_of_getElem? (i := 161) rfl)) rfl
theorem k3_162 : Jvm.Cond.selects "java/lang/String" ⟨"java/lang/String", "isLatin1", "()Z"⟩ ⟨"java/lang/String", "isLatin1", "()Z"⟩ ∈ TT := tt_mem (tb_3 _ (List.mem_of_getElem? (i := 162) rfl)) rfl
theorem k3_163 : Jvm.Cond.code ⟨"java/lang/String", "isLatin1", "()Z"⟩ prog_16_method_154_code 1 (Option.some Jvm.ClassFile.FieldType.boolean) ∈ TT := tt_mem (tb_3 _ (List.mem_of_getElem? (i := 163) rfl)) rfl
theorem k3_164 : Jvm.Cond.methodLink "java/lang/String" 495 ⟨"java/lang/StringLatin1", "charAt", "([BI)C"⟩ ∈ TT := tt_mem (tb_3 _ (List.mem_of_getElem? (i := 164) rfl)) rfl
theorem k3_165 : Jvm.Cond.static ⟨"java/lang/StringLatin1", "charAt", "([BI)C"⟩ ∈ TT := tt_mem (tb_3 _ (List.mem_of_getElem? (i := 165) rfl)) rfl
theorem k3_166 : Jvm.Cond.code ⟨"java/lang/StringLatin1", "charAt", "([BI)C"⟩ prog_17_method_2_code 2 (Option.some Jvm.ClassFile.FieldType.char) ∈ TT := tt_mem (tb_3 _ (List.mem_of_getElem? (i := 166) rfl)) rfl
theorem k3_167 : Jvm.Cond.methodLink "java/lang/StringLatin1" 9 ⟨"java/lang/String", "checkIndex", "(II)V"⟩ ∈ TT := tt_mem (tb_3 _ (List.mem_of_getElem? (i := 167) rfl)) rfl
theorem k3_168 : Jvm.Cond.static ⟨"java/lang/String", "checkIndex", "(II)V"⟩ ∈ TT := tt_mem (tb_3 _ (List.mem_of_getElem? (i := 168) rfl)) rfl
theorem k3_169 : Jvm.Cond.code ⟨"java/lang/String", "checkIndex", "(II)V"⟩ prog_16_method_155_code 2 Option.none ∈ TT := tt_mem (tb_3 _ (List.mem_of_getElem? (i := 169) rfl)) rfl
theorem k3_170 : Jvm.Cond.fieldLink "java/lang/String" 1053 "jdk/internal/util/Preconditions" "SIOOBE_FORMATTER" "Ljava/util/function/BiFunction;" ∈ TT := tt_mem (tb_3 _ (List.mem_of_getElem? (i := 170) rfl)) rfl
theorem n3_171 : Jvm.Cond.laysStatic "jdk/internal/util/Preconditions" "SIOOBE_FORMATTER" "Ljava/util/function/BiFunction;" ∈ lw_tbl := tb_3 _ (List.mem_of_getElem? (i := 171) rfl)
theorem k3_172 : Jvm.Cond.methodLink "java/lang/String" 1059 ⟨"jdk/internal/util/Preconditions", "checkIndex", "(IILjava/util/function/BiFunction;)I"⟩ ∈ TT := tt_mem (tb_3 _ (List.mem_of_getElem? (i := 172) rfl)) rfl
theorem k3_173 : Jvm.Cond.static ⟨"jdk/internal/util/Preconditions", "checkIndex", "(IILjava/util/function/BiFunction;)I"⟩ ∈ TT := tt_mem (tb_3 _ (List.mem_of_getElem? (i := 173) rfl)) rfl
theorem k3_174 : Jvm.Cond.code ⟨"jdk/internal/util/Preconditions", "checkIndex", "(IILjava/util/function/BiFunction;)I"⟩ prog_21_method_11_code 3 (Option.some Jvm.ClassFile.FieldType.int) ∈ TT := tt_mem (tb_3 _ (List.mem_of_getElem? (i := 174) rfl)) rfl
theorem k3_175 : Jvm.Cond.methodLink "java/lang/String" 498 ⟨"java/lang/StringUTF16", "charAt", "([BI)C"⟩ ∈ TT := tt_mem (tb_3 _ (List.mem_of_getElem? (i := 175) rfl)) rfl
theorem k3_176 : Jvm.Cond.static ⟨"java/lang/StringUTF16", "charAt", "([BI)C"⟩ ∈ TT := tt_mem (tb_3 _ (List.mem_of_getElem? (i := 176) rfl)) rfl
theorem k3_177 : Jvm.Cond.code ⟨"java/lang/StringUTF16", "charAt", "([BI)C"⟩ prog_18_method_83_code 2 (Option.some Jvm.ClassFile.FieldType.char) ∈ TT := tt_mem (tb_3 _ (List.mem_of_getElem? (i := 177) rfl)) rfl
theorem k3_178 : Jvm.Cond.methodLink "java/lang/StringUTF16" 67 ⟨"java/lang/StringUTF16", "checkIndex", "(I[B)V"⟩ ∈ TT := tt_mem (tb_3 _ (List.mem_of_getElem? (i := 178) rfl)) rfl
theorem k3_179 : Jvm.Cond.static ⟨"java/lang/StringUTF16", "checkIndex", "(I[B)V"⟩ ∈ TT := tt_mem (tb_3 _ (List.mem_of_getElem? (i := 179) rfl)) rfl
theorem k3_180 : Jvm.Cond.code ⟨"java/lang/StringUTF16", "checkIndex", "(I[B)V"⟩ prog_18_method_91_code 2 Option.none ∈ TT := tt_mem (tb_3 _ (List.mem_of_getElem? (i := 180) rfl)) rfl
theorem k3_181 : Jvm.Cond.methodLink "java/lang/StringUTF16" 48 ⟨"java/lang/StringUTF16", "length", "([B)I"⟩ ∈ TT := tt_mem (tb_3 _ (List.mem_of_getElem? (i := 181) rfl)) rfl
theorem k3_182 : Jvm.Cond.static ⟨"java/lang/StringUTF16", "length", "([B)I"⟩ ∈ TT := tt_mem (tb_3 _ (List.mem_of_getElem? (i := 182) rfl)) rfl
theorem k3_183 : Jvm.Cond.code ⟨"java/lang/StringUTF16", "length", "([B)I"⟩ prog_18_method_6_code 1 (Option.some Jvm.ClassFile.FieldType.int) ∈ TT := tt_mem (tb_3 _ (List.mem_of_getElem? (i := 183) rfl)) rfl
theorem k3_184 : Jvm.Cond.methodLink "java/lang/StringUTF16" 414 ⟨"java/lang/String", "checkIndex", "(II)V"⟩ ∈ TT := tt_mem (tb_3 _ (List.mem_of_getElem? (i := 184) rfl)) rfl
theorem k3_185 : Jvm.Cond.methodLink "java/lang/StringUTF16" 71 ⟨"java/lang/StringUTF16", "getChar", "([BI)C"⟩ ∈ TT := tt_mem (tb_3 _ (List.mem_of_getElem? (i := 185) rfl)) rfl
theorem k3_186 : Jvm.Cond.static ⟨"java/lang/StringUTF16", "getChar", "([BI)C"⟩ ∈ TT := tt_mem (tb_3 _ (List.mem_of_getElem? (i := 186) rfl)) rfl
theorem k3_187 : Jvm.Cond.code ⟨"java/lang/StringUTF16", "getChar", "([BI)C"⟩ prog_18_method_5_code 2 (Option.some Jvm.ClassFile.FieldType.char) ∈ TT := tt_mem (tb_3 _ (List.mem_of_getElem? (i := 187) rfl)) rfl
theorem k3_188 : Jvm.Cond.fieldLink "java/lang/StringUTF16" 44 "java/lang/StringUTF16" "$assertionsDisabled" "Z" ∈ TT := tt_mem (tb_3 _ (List.mem_of_getElem? (i := 188) rfl)) rfl
theorem n3_189 : Jvm.Cond.laysStatic "java/lang/StringUTF16" "$assertionsDisabled" "Z" ∈ lw_tbl := tb_3 _ (List.mem_of_getElem? (i := 189) rfl)
theorem k3_190 : Jvm.Cond.fieldLink "java/lang/StringUTF16" 59 "java/lang/StringUTF16" "HI_BYTE_SHIFT" "I" ∈ TT := tt_mem (tb_3 _ (List.mem_of_getElem? (i := 190) rfl)) rfl
theorem n3_191 : Jvm.Cond.laysStatic "java/lang/StringUTF16" "HI_BYTE_SHIFT" "I" ∈ lw_tbl := tb_3 _ (List.mem_of_getElem? (i := 191) rfl)
theorem k3_192 : Jvm.Cond.fieldLink "java/lang/StringUTF16" 63 "java/lang/StringUTF16" "LO_BYTE_SHIFT" "I" ∈ TT := tt_mem (tb_3 _ (List.mem_of_getElem? (i := 192) rfl)) rfl
theorem n3_193 : Jvm.Cond.laysStatic "java/lang/StringUTF16" "LO_BYTE_SHIFT" "I" ∈ lw_tbl := tb_3 _ (List.mem_of_getElem? (i := 193) rfl)
theorem k3_194 : Jvm.Cond.methodLink "CommitPrefixes$TextReader" 99 ⟨"CommitPrefixes$TextReader", "stands", "(LCommitPrefixes$Shelf;II)Z"⟩ ∈ TT := tt_mem (tb_3 _ (List.mem_of_getElem? (i := 194) rfl)) rfl
theorem k3_196 : Jvm.Cond.instanceMethod ⟨"CommitPrefixes$TextReader", "stands", "(LCommitPrefixes$Shelf;II)Z"⟩ ∈ TT := tt_mem (tb_3 _ (List.mem_of_getElem? (i := 196) rfl)) rfl
theorem k3_197 : Jvm.Cond.code ⟨"CommitPrefixes$TextReader", "stands", "(LCommitPrefixes$Shelf;II)Z"⟩ prog_10_method_8_code 4 (Option.some Jvm.ClassFile.FieldType.boolean) ∈ TT := tt_mem (tb_3 _ (List.mem_of_getElem? (i := 197) rfl)) rfl
theorem k3_198 : Jvm.Cond.methodLink "CommitPrefixes$TextReader" 103 ⟨"CommitPrefixes$Shelf", "has", "(I)Z"⟩ ∈ TT := tt_mem (tb_3 _ (List.mem_of_getElem? (i := 198) rfl)) rfl
theorem k3_199 : Jvm.Cond.methodLink "CommitPrefixes$TextReader" 107 ⟨"CommitPrefixes$Shelf", "letter", "(I)I"⟩ ∈ TT := tt_mem (tb_3 _ (List.mem_of_getElem? (i := 199) rfl)) rfl
theorem k3_200 : Jvm.Cond.instanceMethod ⟨"CommitPrefixes$Shelf", "letter", "(I)I"⟩ ∈ TT := tt_mem (tb_3 _ (List.mem_of_getElem? (i := 200) rfl)) rfl
theorem k3_201 : Jvm.Cond.selects "CommitPrefixes$Shelf" ⟨"CommitPrefixes$Shelf", "letter", "(I)I"⟩ ⟨"CommitPrefixes$Shelf", "letter", "(I)I"⟩ ∈ TT := tt_mem (tb_3 _ (List.mem_of_getElem? (i := 201) rfl)) rfl
theorem k3_202 : Jvm.Cond.code ⟨"CommitPrefixes$Shelf", "letter", "(I)I"⟩ prog_8_method_12_code 2 (Option.some Jvm.ClassFile.FieldType.int) ∈ TT := tt_mem (tb_3 _ (List.mem_of_getElem? (i := 202) rfl)) rfl
theorem k3_203 : Jvm.Cond.methodLink "CommitPrefixes$TextReader" 89 ⟨"java/lang/Math", "max", "(II)I"⟩ ∈ TT := tt_mem (tb_3 _ (List.mem_of_getElem? (i := 203) rfl)) rfl
theorem k3_204 : Jvm.Cond.static ⟨"java/lang/Math", "max", "(II)I"⟩ ∈ TT := tt_mem (tb_3 _ (List.mem_of_getElem? (i := 204) rfl)) rfl
theorem k3_205 : Jvm.Cond.code ⟨"java/lang/Math", "max", "(II)I"⟩ prog_15_method_65_code 2 (Option.some Jvm.ClassFile.FieldType.int) ∈ TT := tt_mem (tb_3 _ (List.mem_of_getElem? (i := 205) rfl)) rfl
theorem k3_206 : Jvm.Cond.methodLink "CommitPrefixes$TextReader" 38 ⟨"CommitPrefixes$TextReader", "readSign", "(LCommitPrefixes$Shelf;I)Z"⟩ ∈ TT := tt_mem (tb_3 _ (List.mem_of_getElem? (i := 206) rfl)) rfl
theorem k3_208 : Jvm.Cond.instanceMethod ⟨"CommitPrefixes$TextReader", "readSign", "(LCommitPrefixes$Shelf;I)Z"⟩ ∈ TT := tt_mem (tb_3 _ (List.mem_of_getElem? (i := 208) rfl)) rfl
theorem k3_209 : Jvm.Cond.code ⟨"CommitPrefixes$TextReader", "readSign", "(LCommitPrefixes$Shelf;I)Z"⟩ prog_10_method_9_code 3 (Option.some Jvm.ClassFile.FieldType.boolean) ∈ TT := tt_mem (tb_3 _ (List.mem_of_getElem? (i := 209) rfl)) rfl
theorem k3_210 : Jvm.Cond.methodLink "CommitPrefixes$TextReader" 50 ⟨"CommitPrefixes$TextReader", "lowest", "(LCommitPrefixes$Item;I)I"⟩ ∈ TT := tt_mem (tb_3 _ (List.mem_of_getElem? (i := 210) rfl)) rfl
theorem k3_212 : Jvm.Cond.instanceMethod ⟨"CommitPrefixes$TextReader", "lowest", "(LCommitPrefixes$Item;I)I"⟩ ∈ TT := tt_mem (tb_3 _ (List.mem_of_getElem? (i := 212) rfl)) rfl
theorem k3_213 : Jvm.Cond.code ⟨"CommitPrefixes$TextReader", "lowest", "(LCommitPrefixes$Item;I)I"⟩ prog_10_method_4_code 3 (Option.some Jvm.ClassFile.FieldType.int) ∈ TT := tt_mem (tb_3 _ (List.mem_of_getElem? (i := 213) rfl)) rfl
theorem k3_214 : Jvm.Cond.methodLink "CommitPrefixes$TextReader" 54 ⟨"CommitPrefixes$TextReader", "highest", "(LCommitPrefixes$Item;I)I"⟩ ∈ TT := tt_mem (tb_3 _ (List.mem_of_getElem? (i := 214) rfl)) rfl
theorem k3_216 : Jvm.Cond.instanceMethod ⟨"CommitPrefixes$TextReader", "highest", "(LCommitPrefixes$Item;I)I"⟩ ∈ TT := tt_mem (tb_3 _ (List.mem_of_getElem? (i := 216) rfl)) rfl
theorem k3_217 : Jvm.Cond.code ⟨"CommitPrefixes$TextReader", "highest", "(LCommitPrefixes$Item;I)I"⟩ prog_10_method_5_code 3 (Option.some Jvm.ClassFile.FieldType.int) ∈ TT := tt_mem (tb_3 _ (List.mem_of_getElem? (i := 217) rfl)) rfl
theorem k3_218 : Jvm.Cond.methodLink "CommitPrefixes$TextReader" 57 ⟨"CommitPrefixes$TextReader", "readNumber", "(LCommitPrefixes$Shelf;III)Z"⟩ ∈ TT := tt_mem (tb_3 _ (List.mem_of_getElem? (i := 218) rfl)) rfl
theorem k3_220 : Jvm.Cond.instanceMethod ⟨"CommitPrefixes$TextReader", "readNumber", "(LCommitPrefixes$Shelf;III)Z"⟩ ∈ TT := tt_mem (tb_3 _ (List.mem_of_getElem? (i := 220) rfl)) rfl
theorem k3_221 : Jvm.Cond.code ⟨"CommitPrefixes$TextReader", "readNumber", "(LCommitPrefixes$Shelf;III)Z"⟩ prog_10_method_10_code 7 (Option.some Jvm.ClassFile.FieldType.boolean) ∈ TT := tt_mem (tb_3 _ (List.mem_of_getElem? (i := 221) rfl)) rfl
theorem k3_222 : Jvm.Cond.methodLink "CommitPrefixes$TextReader" 111 ⟨"CommitPrefixes$TextReader", "isDigit", "(LCommitPrefixes$Shelf;I)Z"⟩ ∈ TT := tt_mem (tb_3 _ (List.mem_of_getElem? (i := 222) rfl)) rfl
theorem k3_224 : Jvm.Cond.instanceMethod ⟨"CommitPrefixes$TextReader", "isDigit", "(LCommitPrefixes$Shelf;I)Z"⟩ ∈ TT := tt_mem (tb_3 _ (List.mem_of_getElem? (i := 224) rfl)) rfl
theorem k3_225 : Jvm.Cond.code ⟨"CommitPrefixes$TextReader", "isDigit", "(LCommitPrefixes$Shelf;I)Z"⟩ prog_10_method_11_code 3 (Option.some Jvm.ClassFile.FieldType.boolean) ∈ TT := tt_mem (tb_3 _ (List.mem_of_getElem? (i := 225) rfl)) rfl
theorem k3_226 : Jvm.Cond.methodLink "CommitPrefixes$TextReader" 61 ⟨"CommitPrefixes$Setup", "apply", "(LCommitPrefixes$Item;III)V"⟩ ∈ TT := tt_mem (tb_3 _ (List.mem_of_getElem? (i := 226) rfl)) rfl
theorem k3_227 : Jvm.Cond.instanceMethod ⟨"CommitPrefixes$Setup", "apply", "(LCommitPrefixes$Item;III)V"⟩ ∈ TT := tt_mem (tb_3 _ (List.mem_of_getElem? (i := 227) rfl)) rfl
theorem k3_228 : Jvm.Cond.selects "CommitPrefixes$Setup" ⟨"CommitPrefixes$Setup", "apply", "(LCommitPrefixes$Item;III)V"⟩ ⟨"CommitPrefixes$Setup", "apply", "(LCommitPrefixes$Item;III)V"⟩ ∈ TT := tt_mem (tb_3 _ (List.mem_of_getElem? (i := 228) rfl)) rfl
theorem k3_229 : Jvm.Cond.code ⟨"CommitPrefixes$Setup", "apply", "(LCommitPrefixes$Item;III)V"⟩ prog_7_method_13_code 5 Option.none ∈ TT := tt_mem (tb_3 _ (List.mem_of_getElem? (i := 229) rfl)) rfl
theorem k3_230 : Jvm.Cond.fieldLink "CommitPrefixes$Setup" 75 "CommitPrefixes$1" "$SwitchMap$CommitPrefixes$Item" "[I" ∈ TT := tt_mem (tb_3 _ (List.mem_of_getElem? (i := 230) rfl)) rfl
theorem n3_231 : Jvm.Cond.laysStatic "CommitPrefixes$1" "$SwitchMap$CommitPrefixes$Item" "[I" ∈ lw_tbl := tb_3 _ (List.mem_of_getElem? (i := 231) rfl)
theorem k3_232 : Jvm.Cond.methodLink "CommitPrefixes$Setup" 80 ⟨"CommitPrefixes$Item", "ordinal", "()I"⟩ ∈ TT := tt_mem (tb_3 _ (List.mem_of_getElem? (i := 232) rfl)) rfl
theorem k3_233 : Jvm.Cond.sameMethod "CommitPrefixes$Item" "java/lang/Enum" "ordinal" "()I" ∈ TT := tt_mem (tb_3 _ (List.mem_of_getElem? (i := 233) rfl)) rfl
theorem n3_234 : Jvm.Cond.declares ⟨"java/lang/Enum", "ordinal", "()I"⟩ ∈ lw_tbl := tb_3 _ (List.mem_of_getElem? (i := 234) rfl)
theorem k3_235 : Jvm.Cond.selects "CommitPrefixes$Item" ⟨"CommitPrefixes$Item", "ordinal", "()I"⟩ ⟨"java/lang/Enum", "ordinal", "()I"⟩ ∈ TT := tt_mem (tb_3 _ (List.mem_of_getElem? (i := 235) rfl)) rfl
theorem k3_236 : Jvm.Cond.instanceMethod ⟨"java/lang/Enum", "ordinal", "()I"⟩ ∈ TT := tt_mem (tb_3 _ (List.mem_of_getElem? (i := 236) rfl)) rfl
theorem k3_237 : Jvm.Cond.code ⟨"java/lang/Enum", "ordinal", "()I"⟩ prog_13_method_2_code 1 (Option.some Jvm.ClassFile.FieldType.int) ∈ TT := tt_mem (tb_3 _ (List.mem_of_getElem? (i := 237) rfl)) rfl
theorem k3_238 : Jvm.Cond.fieldLink "CommitPrefixes$Setup" 84 "CommitPrefixes$Item" "YES" "LCommitPrefixes$Item;" ∈ TT := tt_mem (tb_3 _ (List.mem_of_getElem? (i := 238) rfl)) rfl
theorem n3_239 : Jvm.Cond.laysStatic "CommitPrefixes$Item" "YES" "LCommitPrefixes$Item;" ∈ lw_tbl := tb_3 _ (List.mem_of_getElem? (i := 239) rfl)
theorem k4_0 : Jvm.Cond.methodLink "CommitPrefixes$Setup" 87 ⟨"CommitPrefixes$Setup", "giveVote", "(IZ)V"⟩ ∈ TT := tt_mem (tb_4 _ (List.mem_of_getElem? (i := 0) rfl)) rfl
theorem k4_1 : Jvm.Cond.instanceMethod ⟨"CommitPrefixes$Setup", "giveVote", "(IZ)V"⟩ ∈ TT := tt_mem (tb_4 _ (List.mem_of_getElem? (i := 1) rfl)) rfl
theorem k4_2 : Jvm.Cond.selects "CommitPrefixes$Setup" ⟨"CommitPrefixes$Setup", "giveVote", "(IZ)V"⟩ ⟨"CommitPrefixes$Setup", "giveVote", "(IZ)V"⟩ ∈ TT := tt_mem (tb_4 _ (List.mem_of_getElem? (i := 2) rfl)) rfl
theorem k4_3 : Jvm.Cond.code ⟨"CommitPrefixes$Setup", "giveVote", "(IZ)V"⟩ prog_7_method_7_code 3 Option.none ∈ TT := tt_mem (tb_4 _ (List.mem_of_getElem? (i := 3) rfl)) rfl
theorem k4_4 : Jvm.Cond.fieldLink "CommitPrefixes$Setup" 91 "CommitPrefixes$Item" "LOSE" "LCommitPrefixes$Item;" ∈ TT := tt_mem (tb_4 _ (List.mem_of_getElem? (i := 4) rfl)) rfl
theorem n4_5 : Jvm.Cond.laysStatic "CommitPrefixes$Item" "LOSE" "LCommitPrefixes$Item;" ∈ lw_tbl := tb_4 _ (List.mem_of_getElem? (i := 5) rfl)
theorem k4_6 : Jvm.Cond.methodLink "CommitPrefixes$Setup" 94 ⟨"CommitPrefixes$Setup", "giveLoss", "(IZ)V"⟩ ∈ TT := tt_mem (tb_4 _ (List.mem_of_getElem? (i := 6) rfl)) rfl
theorem k4_7 : Jvm.Cond.instanceMethod ⟨"CommitPrefixes$Setup", "giveLoss", "(IZ)V"⟩ ∈ TT := tt_mem (tb_4 _ (List.mem_of_getElem? (i := 7) rfl)) rfl
theorem k4_8 : Jvm.Cond.selects "CommitPrefixes$Setup" ⟨"CommitPrefixes$Setup", "giveLoss", "(IZ)V"⟩ ⟨"CommitPrefixes$Setup", "giveLoss", "(IZ)V"⟩ ∈ TT := tt_mem (tb_4 _ (List.mem_of_getElem? (i := 8) rfl)) rfl
theorem k4_9 : Jvm.Cond.code ⟨"CommitPrefixes$Setup", "giveLoss", "(IZ)V"⟩ prog_7_method_8_code 3 Option.none ∈ TT := tt_mem (tb_4 _ (List.mem_of_getElem? (i := 9) rfl)) rfl
theorem k4_10 : Jvm.Cond.constantLong "CommitPrefixes$Setup" 72 (-1) ∈ TT := tt_mem (tb_4 _ (List.mem_of_getElem? (i := 10) rfl)) rfl
theorem k4_11 : Jvm.Cond.methodLink "CommitPrefixes$Setup" 97 ⟨"CommitPrefixes$Setup", "giveDown", "(III)V"⟩ ∈ TT := tt_mem (tb_4 _ (List.mem_of_getElem? (i := 11) rfl)) rfl
theorem k4_12 : Jvm.Cond.instanceMethod ⟨"CommitPrefixes$Setup", "giveDown", "(III)V"⟩ ∈ TT := tt_mem (tb_4 _ (List.mem_of_getElem? (i := 12) rfl)) rfl
theorem k4_13 : Jvm.Cond.selects "CommitPrefixes$Setup" ⟨"CommitPrefixes$Setup", "giveDown", "(III)V"⟩ ⟨"CommitPrefixes$Setup", "giveDown", "(III)V"⟩ ∈ TT := tt_mem (tb_4 _ (List.mem_of_getElem? (i := 13) rfl)) rfl
theorem k4_14 : Jvm.Cond.code ⟨"CommitPrefixes$Setup", "giveDown", "(III)V"⟩ prog_7_method_9_code 4 Option.none ∈ TT := tt_mem (tb_4 _ (List.mem_of_getElem? (i := 14) rfl)) rfl
theorem k4_15 : Jvm.Cond.fieldLink "CommitPrefixes$Setup" 101 "CommitPrefixes$Item" "PRESUME" "LCommitPrefixes$Item;" ∈ TT := tt_mem (tb_4 _ (List.mem_of_getElem? (i := 15) rfl)) rfl
theorem n4_16 : Jvm.Cond.laysStatic "CommitPrefixes$Item" "PRESUME" "LCommitPrefixes$Item;" ∈ lw_tbl := tb_4 _ (List.mem_of_getElem? (i := 16) rfl)
theorem k4_17 : Jvm.Cond.methodLink "CommitPrefixes" 167 ⟨"CommitPrefixes", "forgetRuns", "()V"⟩ ∈ TT := tt_mem (tb_4 _ (List.mem_of_getElem? (i := 17) rfl)) rfl
theorem k4_19 : Jvm.Cond.instanceMethod ⟨"CommitPrefixes", "forgetRuns", "()V"⟩ ∈ TT := tt_mem (tb_4 _ (List.mem_of_getElem? (i := 19) rfl)) rfl
theorem k4_20 : Jvm.Cond.code ⟨"CommitPrefixes", "forgetRuns", "()V"⟩ prog_1_method_45_code 1 Option.none ∈ TT := tt_mem (tb_4 _ (List.mem_of_getElem? (i := 20) rfl)) rfl
theorem k4_21 : Jvm.Cond.methodLink "CommitPrefixesLaw" 53 ⟨"CommitPrefixes", "fault", "()I"⟩ ∈ TT := tt_mem (tb_4 _ (List.mem_of_getElem? (i := 21) rfl)) rfl
theorem k4_22 : Jvm.Cond.instanceMethod ⟨"CommitPrefixes", "fault", "()I"⟩ ∈ TT := tt_mem (tb_4 _ (List.mem_of_getElem? (i := 22) rfl)) rfl
theorem k4_23 : Jvm.Cond.selects "CommitPrefixes" ⟨"CommitPrefixes", "fault", "()I"⟩ ⟨"CommitPrefixes", "fault", "()I"⟩ ∈ TT := tt_mem (tb_4 _ (List.mem_of_getElem? (i := 23) rfl)) rfl
theorem k4_24 : Jvm.Cond.code ⟨"CommitPrefixes", "fault", "()I"⟩ prog_1_method_10_code 1 (Option.some Jvm.ClassFile.FieldType.int) ∈ TT := tt_mem (tb_4 _ (List.mem_of_getElem? (i := 24) rfl)) rfl
theorem k4_25 : Jvm.Cond.methodLink "CommitPrefixesLaw" 58 ⟨"CommitPrefixes", "put", "(II)I"⟩ ∈ TT := tt_mem (tb_4 _ (List.mem_of_getElem? (i := 25) rfl)) rfl
theorem k4_26 : Jvm.Cond.instanceMethod ⟨"CommitPrefixes", "put", "(II)I"⟩ ∈ TT := tt_mem (tb_4 _ (List.mem_of_getElem? (i := 26) rfl)) rfl
theorem k4_27 : Jvm.Cond.selects "CommitPrefixes" ⟨"CommitPrefixes", "put", "(II)I"⟩ ⟨"CommitPrefixes", "put", "(II)I"⟩ ∈ TT := tt_mem (tb_4 _ (List.mem_of_getElem? (i := 27) rfl)) rfl
theorem k4_28 : Jvm.Cond.code ⟨"CommitPrefixes", "put", "(II)I"⟩ prog_1_method_11_code 4 (Option.some Jvm.ClassFile.FieldType.int) ∈ TT := tt_mem (tb_4 _ (List.mem_of_getElem? (i := 28) rfl)) rfl
theorem k4_29 : Jvm.Cond.methodLink "CommitPrefixes" 170 ⟨"CommitPrefixes$Setup", "mayBe", "(II)Z"⟩ ∈ TT := tt_mem (tb_4 _ (List.mem_of_getElem? (i := 29) rfl)) rfl
theorem k4_30 : Jvm.Cond.static ⟨"CommitPrefixes$Setup", "mayBe", "(II)Z"⟩ ∈ TT := tt_mem (tb_4 _ (List.mem_of_getElem? (i := 30) rfl)) rfl
theorem k4_31 : Jvm.Cond.code ⟨"CommitPrefixes$Setup", "mayBe", "(II)Z"⟩ prog_7_method_3_code 2 (Option.some Jvm.ClassFile.FieldType.boolean) ∈ TT := tt_mem (tb_4 _ (List.mem_of_getElem? (i := 31) rfl)) rfl
theorem k4_32 : Jvm.Cond.fieldLink "CommitPrefixes$Setup" 54 "CommitPrefixes$Item" "SITES" "LCommitPrefixes$Item;" ∈ TT := tt_mem (tb_4 _ (List.mem_of_getElem? (i := 32) rfl)) rfl
theorem n4_33 : Jvm.Cond.laysStatic "CommitPrefixes$Item" "SITES" "LCommitPrefixes$Item;" ∈ lw_tbl := tb_4 _ (List.mem_of_getElem? (i := 33) rfl)
theorem k4_34 : Jvm.Cond.fieldLink "CommitPrefixes$Setup" 66 "CommitPrefixes$Item" "PHASES" "LCommitPrefixes$Item;" ∈ TT := tt_mem (tb_4 _ (List.mem_of_getElem? (i := 34) rfl)) rfl
theorem n4_35 : Jvm.Cond.laysStatic "CommitPrefixes$Item" "PHASES" "LCommitPrefixes$Item;" ∈ lw_tbl := tb_4 _ (List.mem_of_getElem? (i := 35) rfl)
theorem k4_36 : Jvm.Cond.fieldLink "CommitPrefixes$Setup" 69 "CommitPrefixes$Item" "WAIT" "LCommitPrefixes$Item;" ∈ TT := tt_mem (tb_4 _ (List.mem_of_getElem? (i := 36) rfl)) rfl
theorem n4_37 : Jvm.Cond.laysStatic "CommitPrefixes$Item" "WAIT" "LCommitPrefixes$Item;" ∈ lw_tbl := tb_4 _ (List.mem_of_getElem? (i := 37) rfl)
theorem k4_38 : Jvm.Cond.methodLink "CommitPrefixes" 173 ⟨"CommitPrefixes$Setup", "number", "(I)I"⟩ ∈ TT := tt_mem (tb_4 _ (List.mem_of_getElem? (i := 38) rfl)) rfl
theorem k4_39 : Jvm.Cond.instanceMethod ⟨"CommitPrefixes$Setup", "number", "(I)I"⟩ ∈ TT := tt_mem (tb_4 _ (List.mem_of_getElem? (i := 39) rfl)) rfl
theorem k4_40 : Jvm.Cond.selects "CommitPrefixes$Setup" ⟨"CommitPrefixes$Setup", "number", "(I)I"⟩ ⟨"CommitPrefixes$Setup", "number", "(I)I"⟩ ∈ TT := tt_mem (tb_4 _ (List.mem_of_getElem? (i := 40) rfl)) rfl
theorem k4_41 : Jvm.Cond.code ⟨"CommitPrefixes$Setup", "number", "(I)I"⟩ prog_7_method_4_code 2 (Option.some Jvm.ClassFile.FieldType.int) ∈ TT := tt_mem (tb_4 _ (List.mem_of_getElem? (i := 41) rfl)) rfl
theorem k4_42 : Jvm.Cond.methodLink "CommitPrefixes" 176 ⟨"CommitPrefixes$Setup", "giveNumber", "(II)V"⟩ ∈ TT := tt_mem (tb_4 _ (List.mem_of_getElem? (i := 42) rfl)) rfl
theorem k4_43 : Jvm.Cond.instanceMethod ⟨"CommitPrefixes$Setup", "giveNumber", "(II)V"⟩ ∈ TT := tt_mem (tb_4 _ (List.mem_of_getElem? (i := 43) rfl)) rfl
theorem k4_44 : Jvm.Cond.selects "CommitPrefixes$Setup" ⟨"CommitPrefixes$Setup", "giveNumber", "(II)V"⟩ ⟨"CommitPrefixes$Setup", "giveNumber", "(II)V"⟩ ∈ TT := tt_mem (tb_4 _ (List.mem_of_getElem? (i := 44) rfl)) rfl
theorem k4_45 : Jvm.Cond.code ⟨"CommitPrefixes$Setup", "giveNumber", "(II)V"⟩ prog_7_method_5_code 3 Option.none ∈ TT := tt_mem (tb_4 _ (List.mem_of_getElem? (i := 45) rfl)) rfl
theorem k4_46 : Jvm.Cond.methodLink "CommitPrefixesLaw" 62 ⟨"CommitPrefixes", "vote", "(IZ)I"⟩ ∈ TT := tt_mem (tb_4 _ (List.mem_of_getElem? (i := 46) rfl)) rfl
theorem k4_47 : Jvm.Cond.instanceMethod ⟨"CommitPrefixes", "vote", "(IZ)I"⟩ ∈ TT := tt_mem (tb_4 _ (List.mem_of_getElem? (i := 47) rfl)) rfl
theorem k4_48 : Jvm.Cond.selects "CommitPrefixes" ⟨"CommitPrefixes", "vote", "(IZ)I"⟩ ⟨"CommitPrefixes", "vote", "(IZ)I"⟩ ∈ TT := tt_mem (tb_4 _ (List.mem_of_getElem? (i := 48) rfl)) rfl
theorem k4_49 : Jvm.Cond.code ⟨"CommitPrefixes", "vote", "(IZ)I"⟩ prog_1_method_12_code 4 (Option.some Jvm.ClassFile.FieldType.int) ∈ TT := tt_mem (tb_4 _ (List.mem_of_getElem? (i := 49) rfl)) rfl
theorem k4_50 : Jvm.Cond.methodLink "CommitPrefixes" 179 ⟨"CommitPrefixes$Setup", "votesYes", "(I)Z"⟩ ∈ TT := tt_mem (tb_4 _ (List.mem_of_getElem? (i := 50) rfl)) rfl
theorem k4_51 : Jvm.Cond.methodLink "CommitPrefixes" 182 ⟨"CommitPrefixes$Setup", "giveVote", "(IZ)V"⟩ ∈ TT := tt_mem (tb_4 _ (List.mem_of_getElem? (i := 51) rfl)) rfl
theorem k4_52 : Jvm.Cond.methodLink "CommitPrefixesLaw" 67 ⟨"CommitPrefixes", "lose", "(IZ)I"⟩ ∈ TT := tt_mem (tb_4 _ (List.mem_of_getElem? (i := 52) rfl)) rfl
theorem k4_53 : Jvm.Cond.instanceMethod ⟨"CommitPrefixes", "lose", "(IZ)I"⟩ ∈ TT := tt_mem (tb_4 _ (List.mem_of_getElem? (i := 53) rfl)) rfl
theorem k4_54 : Jvm.Cond.selects "CommitPrefixes" ⟨"CommitPrefixes", "lose", "(IZ)I"⟩ ⟨"CommitPrefixes", "lose", "(IZ)I"⟩ ∈ TT := tt_mem (tb_4 _ (List.mem_of_getElem? (i := 54) rfl)) rfl
theorem k4_55 : Jvm.Cond.code ⟨"CommitPrefixes", "lose", "(IZ)I"⟩ prog_1_method_13_code 4 (Option.some Jvm.ClassFile.FieldType.int) ∈ TT := tt_mem (tb_4 _ (List.mem_of_getElem? (i := 55) rfl)) rfl
theorem k4_56 : Jvm.Cond.methodLink "CommitPrefixes" 189 ⟨"CommitPrefixes", "isIn", "(JI)Z"⟩ ∈ TT := tt_mem (tb_4 _ (List.mem_of_getElem? (i := 56) rfl)) rfl
theorem k4_57 : Jvm.Cond.methodLink "CommitPrefixes" 193 ⟨"CommitPrefixes$Setup", "giveLoss", "(IZ)V"⟩ ∈ TT := tt_mem (tb_4 _ (List.mem_of_getElem? (i := 57) rfl)) rfl
theorem k4_58 : Jvm.Cond.methodLink "CommitPrefixesLaw" 71 ⟨"CommitPrefixes", "down", "(III)I"⟩ ∈ TT := tt_mem (tb_4 _ (List.mem_of_getElem? (i := 58) rfl)) rfl
theorem k4_59 : Jvm.Cond.instanceMethod ⟨"CommitPrefixes", "down", "(III)I"⟩ ∈ TT := tt_mem (tb_4 _ (List.mem_of_getElem? (i := 59) rfl)) rfl
theorem k4_60 : Jvm.Cond.selects "CommitPrefixes" ⟨"CommitPrefixes", "down", "(III)I"⟩ ⟨"CommitPrefixes", "down", "(III)I"⟩ ∈ TT := tt_mem (tb_4 _ (List.mem_of_getElem? (i := 60) rfl)) rfl
theorem k4_61 : Jvm.Cond.code ⟨"CommitPrefixes", "down", "(III)I"⟩ prog_1_method_14_code 4 (Option.some Jvm.ClassFile.FieldType.int) ∈ TT := tt_mem (tb_4 _ (List.mem_of_getElem? (i := 61) rfl)) rfl
theorem k4_62 : Jvm.Cond.methodLink "CommitPrefixes" 196 ⟨"CommitPrefixes$Setup", "giveDown", "(III)V"⟩ ∈ TT := tt_mem (tb_4 _ (List.mem_of_getElem? (i := 62) rfl)) rfl
theorem k4_63 : Jvm.Cond.methodLink "CommitPrefixes" 200 ⟨"CommitPrefixes", "isTick", "(I)Z"⟩ ∈ TT := tt_mem (tb_4 _ (List.mem_of_getElem? (i := 63) rfl)) rfl
theorem k4_64 : Jvm.Cond.static ⟨"CommitPrefixes", "isTick", "(I)Z"⟩ ∈ TT := tt_mem (tb_4 _ (List.mem_of_getElem? (i := 64) rfl)) rfl
theorem k4_65 : Jvm.Cond.code ⟨"CommitPrefixes", "isTick", "(I)Z"⟩ prog_1_method_37_code 1 (Option.some Jvm.ClassFile.FieldType.boolean) ∈ TT := tt_mem (tb_4 _ (List.mem_of_getElem? (i := 65) rfl)) rfl
theorem k4_66 : Jvm.Cond.methodLink "CommitPrefixesLaw" 75 ⟨"CommitPrefixes", "told", "(I)I"⟩ ∈ TT := tt_mem (tb_4 _ (List.mem_of_getElem? (i := 66) rfl)) rfl
theorem k4_67 : Jvm.Cond.instanceMethod ⟨"CommitPrefixes", "told", "(I)I"⟩ ∈ TT := tt_mem (tb_4 _ (List.mem_of_getElem? (i := 67) rfl)) rfl
theorem k4_68 : Jvm.Cond.selects "CommitPrefixes" ⟨"CommitPrefixes", "told", "(I)I"⟩ ⟨"CommitPrefixes", "told", "(I)I"⟩ ∈ TT := tt_mem (tb_4 _ (List.mem_of_getElem? (i := 68) rfl)) rfl
theorem k4_69 : Jvm.Cond.code ⟨"CommitPrefixes", "told", "(I)I"⟩ prog_1_method_15_code 2 (Option.some Jvm.ClassFile.FieldType.int) ∈ TT := tt_mem (tb_4 _ (List.mem_of_getElem? (i := 69) rfl)) rfl
theorem k4_70 : Jvm.Cond.methodLink "CommitPrefixes" 206 ⟨"CommitPrefixes$Setup", "everyone", "()I"⟩ ∈ TT := tt_mem (tb_4 _ (List.mem_of_getElem? (i := 70) rfl)) rfl
theorem k4_71 : Jvm.Cond.methodLink "CommitPrefixes" 210 ⟨"java/lang/Long", "bitCount", "(J)I"⟩ ∈ TT := tt_mem (tb_4 _ (List.mem_of_getElem? (i := 71) rfl)) rfl
theorem k4_72 : Jvm.Cond.static ⟨"java/lang/Long", "bitCount", "(J)I"⟩ ∈ TT := tt_mem (tb_4 _ (List.mem_of_getElem? (i := 72) rfl)) rfl
theorem k4_73 : Jvm.Cond.code ⟨"java/lang/Long", "bitCount", "(J)I"⟩ prog_14_method_50_code 2 (Option.some Jvm.ClassFile.FieldType.int) ∈ TT := tt_mem (tb_4 _ (List.mem_of_getElem? (i := 73) rfl)) rfl
theorem k4_74 : Jvm.Cond.constantLong "java/lang/Long" 314 6148914691236517205 ∈ TT := tt_mem (tb_4 _ (List.mem_of_getElem? (i := 74) rfl)) rfl
theorem k4_75 : Jvm.Cond.constantLong "java/lang/Long" 316 3689348814741910323 ∈ TT := tt_mem (tb_4 _ (List.mem_of_getElem? (i := 75) rfl)) rfl
theorem k4_76 : Jvm.Cond.constantLong "java/lang/Long" 318 1085102592571150095 ∈ TT := tt_mem (tb_4 _ (List.mem_of_getElem? (i := 76) rfl)) rfl
theorem k4_77 : Jvm.Cond.methodLink "CommitPrefixes" 216 ⟨"CommitPrefixes$Setup", "sitesWithDown", "()I"⟩ ∈ TT := tt_mem (tb_4 _ (List.mem_of_getElem? (i := 77) rfl)) rfl
theorem k4_78 : Jvm.Cond.instanceMethod ⟨"CommitPrefixes$Setup", "sitesWithDown", "()I"⟩ ∈ TT := tt_mem (tb_4 _ (List.mem_of_getElem? (i := 78) rfl)) rfl
theorem k4_79 : Jvm.Cond.selects "CommitPrefixes$Setup" ⟨"CommitPrefixes$Setup", "sitesWithDown", "()I"⟩ ⟨"CommitPrefixes$Setup", "sitesWithDown", "()I"⟩ ∈ TT := tt_mem (tb_4 _ (List.mem_of_getElem? (i := 79) rfl)) rfl
theorem k4_80 : Jvm.Cond.code ⟨"CommitPrefixes$Setup", "sitesWithDown", "()I"⟩ prog_7_method_11_code 3 (Option.some Jvm.ClassFile.FieldType.int) ∈ TT := tt_mem (tb_4 _ (List.mem_of_getElem? (i := 80) rfl)) rfl
theorem k4_81 : Jvm.Cond.methodLink "CommitPrefixesLaw" 135 ⟨"CommitPrefixes", "drawn", "(I)I"⟩ ∈ TT := tt_mem (tb_4 _ (List.mem_of_getElem? (i := 81) rfl)) rfl
theorem k4_82 : Jvm.Cond.instanceMethod ⟨"CommitPrefixes", "drawn", "(I)I"⟩ ∈ TT := tt_mem (tb_4 _ (List.mem_of_getElem? (i := 82) rfl)) rfl
theorem k4_83 : Jvm.Cond.selects "CommitPrefixes" ⟨"CommitPrefixes", "drawn", "(I)I"⟩ ⟨"CommitPrefixes", "drawn", "(I)I"⟩ ∈ TT := tt_mem (tb_4 _ (List.mem_of_getElem? (i := 83) rfl)) rfl
theorem k4_84 : Jvm.Cond.code ⟨"CommitPrefixes", "drawn", "(I)I"⟩ prog_1_method_16_code 3 (Option.some Jvm.ClassFile.FieldType.int) ∈ TT := tt_mem (tb_4 _ (List.mem_of_getElem? (i := 84) rfl)) rfl
theorem k4_85 : Jvm.Cond.methodLink "CommitPrefixes" 222 ⟨"CommitPrefixes$Setup", "draw", "(I)I"⟩ ∈ TT := tt_mem (tb_4 _ (List.mem_of_getElem? (i := 85) rfl)) rfl
theorem k4_86 : Jvm.Cond.instanceMethod ⟨"CommitPrefixes$Setup", "draw", "(I)I"⟩ ∈ TT := tt_mem (tb_4 _ (List.mem_of_getElem? (i := 86) rfl)) rfl
theorem k4_87 : Jvm.Cond.selects "CommitPrefixes$Setup" ⟨"CommitPrefixes$Setup", "draw", "(I)I"⟩ ⟨"CommitPrefixes$Setup", "draw", "(I)I"⟩ ∈ TT := tt_mem (tb_4 _ (List.mem_of_getElem? (i := 87) rfl)) rfl
theorem k4_88 : Jvm.Cond.code ⟨"CommitPrefixes$Setup", "draw", "(I)I"⟩ prog_7_method_12_code 2 (Option.some Jvm.ClassFile.FieldType.int) ∈ TT := tt_mem (tb_4 _ (List.mem_of_getElem? (i := 88) rfl)) rfl
theorem k4_89 : Jvm.Cond.constant "CommitPrefixes$Setup" 74 1103515245 ∈ TT := tt_mem (tb_4 _ (List.mem_of_getElem? (i := 89) rfl)) rfl
theorem k4_90 : Jvm.Cond.methodLink "CommitPrefixesLaw" 139 ⟨"CommitPrefixes", "seed", "(I)I"⟩ ∈ TT := tt_mem (tb_4 _ (List.mem_of_getElem? (i := 90) rfl)) rfl
theorem k4_91 : Jvm.Cond.instanceMethod ⟨"CommitPrefixes", "seed", "(I)I"⟩ ∈ TT := tt_mem (tb_4 _ (List.mem_of_getElem? (i := 91) rfl)) rfl
theorem k4_92 : Jvm.Cond.selects "CommitPrefixes" ⟨"CommitPrefixes", "seed", "(I)I"⟩ ⟨"CommitPrefixes", "seed", "(I)I"⟩ ∈ TT := tt_mem (tb_4 _ (List.mem_of_getElem? (i := 92) rfl)) rfl
theorem k4_93 : Jvm.Cond.code ⟨"CommitPrefixes", "seed", "(I)I"⟩ prog_1_method_17_code 3 (Option.some Jvm.ClassFile.FieldType.int) ∈ TT := tt_mem (tb_4 _ (List.mem_of_getElem? (i := 93) rfl)) rfl
theorem k4_94 : Jvm.Cond.methodLink "CommitPrefixesLaw" 143 ⟨"CommitPrefixes", "image", "()I"⟩ ∈ TT := tt_mem (tb_4 _ (List.mem_of_getElem? (i := 94) rfl)) rfl
theorem k4_95 : Jvm.Cond.instanceMethod ⟨"CommitPrefixes", "image", "()I"⟩ ∈ TT := tt_mem (tb_4 _ (List.mem_of_getElem? (i := 95) rfl)) rfl
theorem k4_96 : Jvm.Cond.selects "CommitPrefixes" ⟨"CommitPrefixes", "image", "()I"⟩ ⟨"CommitPrefixes", "image", "()I"⟩ ∈ TT := tt_mem (tb_4 _ (List.mem_of_getElem? (i := 96) rfl)) rfl
theorem k4_97 : Jvm.Cond.code ⟨"CommitPrefixes", "image", "()I"⟩ prog_1_method_18_code 1 (Option.some Jvm.ClassFile.FieldType.int) ∈ TT := tt_mem (tb_4 _ (List.mem_of_getElem? (i := 97) rfl)) rfl
theorem k4_98 : Jvm.Cond.methodLink "CommitPrefixesLaw" 147 ⟨"CommitPrefixes", "restore", "()I"⟩ ∈ TT := tt_mem (tb_4 _ (List.mem_of_getElem? (i := 98) rfl)) rfl
theorem k4_99 : Jvm.Cond.instanceMethod ⟨"CommitPrefixes", "restore", "()I"⟩ ∈ TT := tt_mem (tb_4 _ (List.mem_of_getElem? (i := 99) rfl)) rfl
theorem k4_100 : Jvm.Cond.selects "CommitPrefixes" ⟨"CommitPrefixes", "restore", "()I"⟩ ⟨"CommitPrefixes", "restore", "()I"⟩ ∈ TT := tt_mem (tb_4 _ (List.mem_of_getElem? (i := 100) rfl)) rfl
theorem k4_101 : Jvm.Cond.code ⟨"CommitPrefixes", "restore", "()I"⟩ prog_1_method_19_code 1 (Option.some Jvm.ClassFile.FieldType.int) ∈ TT := tt_mem (tb_4 _ (List.mem_of_getElem? (i := 101) rfl)) rfl
theorem k4_102 : Jvm.Cond.methodLink "CommitPrefixesLaw" 79 ⟨"CommitPrefixes", "state", "(II)I"⟩ ∈ TT := tt_mem (tb_4 _ (List.mem_of_getElem? (i := 102) rfl)) rfl
theorem k4_103 : Jvm.Cond.instanceMethod ⟨"CommitPrefixes", "state", "(II)I"⟩ ∈ TT := tt_mem (tb_4 _ (List.mem_of_getElem? (i := 103) rfl)) rfl
theorem k4_104 : Jvm.Cond.selects "CommitPrefixes" ⟨"CommitPrefixes", "state", "(II)I"⟩ ⟨"CommitPrefixes", "state", "(II)I"⟩ ∈ TT := tt_mem (tb_4 _ (List.mem_of_getElem? (i := 104) rfl)) rfl
theorem k4_105 : Jvm.Cond.code ⟨"CommitPrefixes", "state", "(II)I"⟩ prog_1_method_20_code 4 (Option.some Jvm.ClassFile.FieldType.int) ∈ TT := tt_mem (tb_4 _ (List.mem_of_getElem? (i := 105) rfl)) rfl
theorem k4_106 : Jvm.Cond.methodLink "CommitPrefixes" 225 ⟨"CommitPrefixes", "momentLack", "(II)I"⟩ ∈ TT := tt_mem (tb_4 _ (List.mem_of_getElem? (i := 106) rfl)) rfl
theorem k4_108 : Jvm.Cond.instanceMethod ⟨"CommitPrefixes", "momentLack", "(II)I"⟩ ∈ TT := tt_mem (tb_4 _ (List.mem_of_getElem? (i := 108) rfl)) rfl
theorem k4_109 : Jvm.Cond.code ⟨"CommitPrefixes", "momentLack", "(II)I"⟩ prog_1_method_43_code 3 (Option.some Jvm.ClassFile.FieldType.int) ∈ TT := tt_mem (tb_4 _ (List.mem_of_getElem? (i := 109) rfl)) rfl
theorem k4_110 : Jvm.Cond.methodLink "CommitPrefixes" 237 ⟨"CommitPrefixes", "isSite", "(I)Z"⟩ ∈ TT := tt_mem (tb_4 _ (List.mem_of_getElem? (i := 110) rfl)) rfl
theorem k4_112 : Jvm.Cond.instanceMethod ⟨"CommitPrefixes", "isSite", "(I)Z"⟩ ∈ TT := tt_mem (tb_4 _ (List.mem_of_getElem? (i := 112) rfl)) rfl
theorem k4_113 : Jvm.Cond.code ⟨"CommitPrefixes", "isSite", "(I)Z"⟩ prog_1_method_38_code 2 (Option.some Jvm.ClassFile.FieldType.boolean) ∈ TT := tt_mem (tb_4 _ (List.mem_of_getElem? (i := 113) rfl)) rfl
theorem k4_114 : Jvm.Cond.methodLink "CommitPrefixes" 228 ⟨"CommitPrefixes$Run", "stateAt", "(II)I"⟩ ∈ TT := tt_mem (tb_4 _ (List.mem_of_getElem? (i := 114) rfl)) rfl
theorem k4_115 : Jvm.Cond.instanceMethod ⟨"CommitPrefixes$Run", "stateAt", "(II)I"⟩ ∈ TT := tt_mem (tb_4 _ (List.mem_of_getElem? (i := 115) rfl)) rfl
theorem k4_116 : Jvm.Cond.selects "CommitPrefixes$Run" ⟨"CommitPrefixes$Run", "stateAt", "(II)I"⟩ ⟨"CommitPrefixes$Run", "stateAt", "(II)I"⟩ ∈ TT := tt_mem (tb_4 _ (List.mem_of_getElem? (i := 116) rfl)) rfl
theorem k4_117 : Jvm.Cond.code ⟨"CommitPrefixes$Run", "stateAt", "(II)I"⟩ prog_6_method_13_code 3 (Option.some Jvm.ClassFile.FieldType.int) ∈ TT := tt_mem (tb_4 _ (List.mem_of_getElem? (i := 117) rfl)) rfl
theorem k4_118 : Jvm.Cond.methodLink "CommitPrefixes$Run" 159 ⟨"CommitPrefixes$Run", "moment", "(II)I"⟩ ∈ TT := tt_mem (tb_4 _ (List.mem_of_getElem? (i := 118) rfl)) rfl
theorem k4_120 : Jvm.Cond.instanceMethod ⟨"CommitPrefixes$Run", "moment", "(II)I"⟩ ∈ TT := tt_mem (tb_4 _ (List.mem_of_getElem? (i := 120) rfl)) rfl
theorem k4_121 : Jvm.Cond.code ⟨"CommitPrefixes$Run", "moment", "(II)I"⟩ prog_6_method_12_code 3 (Option.some Jvm.ClassFile.FieldType.int) ∈ TT := tt_mem (tb_4 _ (List.mem_of_getElem? (i := 121) rfl)) rfl
theorem k4_122 : Jvm.Cond.methodLink "CommitPrefixes$Run" 153 ⟨"java/lang/Math", "min", "(II)I"⟩ ∈ TT := tt_mem (tb_4 _ (List.mem_of_getElem? (i := 122) rfl)) rfl
theorem k4_123 : Jvm.Cond.static ⟨"java/lang/Math", "min", "(II)I"⟩ ∈ TT := tt_mem (tb_4 _ (List.mem_of_getElem? (i := 123) rfl)) rfl
theorem k4_124 : Jvm.Cond.code ⟨"java/lang/Math", "min", "(II)I"⟩ prog_15_method_69_code 2 (Option.some Jvm.ClassFile.FieldType.int) ∈ TT := tt_mem (tb_4 _ (List.mem_of_getElem? (i := 124) rfl)) rfl
theorem k4_125 : Jvm.Cond.methodLink "CommitPrefixesLaw" 83 ⟨"CommitPrefixes", "decided", "(II)I"⟩ ∈ TT := tt_mem (tb_4 _ (List.mem_of_getElem? (i := 125) rfl)) rfl
theorem k4_126 : Jvm.Cond.instanceMethod ⟨"CommitPrefixes", "decided", "(II)I"⟩ ∈ TT := tt_mem (tb_4 _ (List.mem_of_getElem? (i := 126) rfl)) rfl
theorem k4_127 : Jvm.Cond.selects "CommitPrefixes" ⟨"CommitPrefixes", "decided", "(II)I"⟩ ⟨"CommitPrefixes", "decided", "(II)I"⟩ ∈ TT := tt_mem (tb_4 _ (List.mem_of_getElem? (i := 127) rfl)) rfl
theorem k4_128 : Jvm.Cond.code ⟨"CommitPrefixes", "decided", "(II)I"⟩ prog_1_method_21_code 4 (Option.some Jvm.ClassFile.FieldType.int) ∈ TT := tt_mem (tb_4 _ (List.mem_of_getElem? (i := 128) rfl)) rfl
theorem k4_129 : Jvm.Cond.methodLink "CommitPrefixes" 231 ⟨"CommitPrefixes$Run", "decisionAt", "(II)I"⟩ ∈ TT := tt_mem (tb_4 _ (List.mem_of_getElem? (i := 129) rfl)) rfl
theorem k4_130 : Jvm.Cond.instanceMethod ⟨"CommitPrefixes$Run", "decisionAt", "(II)I"⟩ ∈ TT := tt_mem (tb_4 _ (List.mem_of_getElem? (i := 130) rfl)) rfl
theorem k4_131 : Jvm.Cond.selects "CommitPrefixes$Run" ⟨"CommitPrefixes$Run", "decisionAt", "(II)I"⟩ ⟨"CommitPrefixes$Run", "decisionAt", "(II)I"⟩ ∈ TT := tt_mem (tb_4 _ (List.mem_of_getElem? (i := 131) rfl)) rfl
theorem k4_132 : Jvm.Cond.code ⟨"CommitPrefixes$Run", "decisionAt", "(II)I"⟩ prog_6_method_16_code 4 (Option.some Jvm.ClassFile.FieldType.int) ∈ TT := tt_mem (tb_4 _ (List.mem_of_getElem? (i := 132) rfl)) rfl
theorem k4_133 : Jvm.Cond.methodLink "CommitPrefixes$Run" 162 ⟨"CommitPrefixes$Run", "lengthAt", "(II)I"⟩ ∈ TT := tt_mem (tb_4 _ (List.mem_of_getElem? (i := 133) rfl)) rfl
theorem k4_134 : Jvm.Cond.instanceMethod ⟨"CommitPrefixes$Run", "lengthAt", "(II)I"⟩ ∈ TT := tt_mem (tb_4 _ (List.mem_of_getElem? (i := 134) rfl)) rfl
theorem k4_135 : Jvm.Cond.selects "CommitPrefixes$Run" ⟨"CommitPrefixes$Run", "lengthAt", "(II)I"⟩ ⟨"CommitPrefixes$Run", "lengthAt", "(II)I"⟩ ∈ TT := tt_mem (tb_4 _ (List.mem_of_getElem? (i := 135) rfl)) rfl
theorem k4_136 : Jvm.Cond.code ⟨"CommitPrefixes$Run", "lengthAt", "(II)I"⟩ prog_6_method_14_code 3 (Option.some Jvm.ClassFile.FieldType.int) ∈ TT := tt_mem (tb_4 _ (List.mem_of_getElem? (i := 136) rfl)) rfl
theorem k4_137 : Jvm.Cond.methodLink "CommitPrefixes$Run" 165 ⟨"CommitPrefixes$Site", "hasNoted", "(II)Z"⟩ ∈ TT := tt_mem (tb_4 _ (List.mem_of_getElem? (i := 137) rfl)) rfl
theorem k4_138 : Jvm.Cond.methodLink "CommitPrefixes$Run" 169 ⟨"CommitPrefixes$Run", "stateAt", "(II)I"⟩ ∈ TT := tt_mem (tb_4 _ (List.mem_of_getElem? (i := 138) rfl)) rfl
theorem k4_139 : Jvm.Cond.methodLink "CommitPrefixesLaw" 87 ⟨"CommitPrefixes", "records", "(II)I"⟩ ∈ TT := tt_mem (tb_4 _ (List.mem_of_getElem? (i := 139) rfl)) rfl
theorem k4_140 : Jvm.Cond.instanceMethod ⟨"CommitPrefixes", "records", "(II)I"⟩ ∈ TT := tt_mem (tb_4 _ (List.mem_of_getElem? (i := 140) rfl)) rfl
theorem k4_141 : Jvm.Cond.selects "CommitPrefixes" ⟨"CommitPrefixes", "records", "(II)I"⟩ ⟨"CommitPrefixes", "records", "(II)I"⟩ ∈ TT := tt_mem (tb_4 _ (List.mem_of_getElem? (i := 141) rfl)) rfl
theorem k4_142 : Jvm.Cond.code ⟨"CommitPrefixes", "records", "(II)I"⟩ prog_1_method_22_code 4 (Option.some Jvm.ClassFile.FieldType.int) ∈ TT := tt_mem (tb_4 _ (List.mem_of_getElem? (i := 142) rfl)) rfl
theorem k4_143 : Jvm.Cond.methodLink "CommitPrefixes" 234 ⟨"CommitPrefixes$Run", "lengthAt", "(II)I"⟩ ∈ TT := tt_mem (tb_4 _ (List.mem_of_getElem? (i := 143) rfl)) rfl
theorem k4_144 : Jvm.Cond.methodLink "CommitPrefixesLaw" 91 ⟨"CommitPrefixes", "record", "(II)I"⟩ ∈ TT := tt_mem (tb_4 _ (List.mem_of_getElem? (i := 144) rfl)) rfl
theorem k4_145 : Jvm.Cond.instanceMethod ⟨"CommitPrefixes", "record", "(II)I"⟩ ∈ TT := tt_mem (tb_4 _ (List.mem_of_getElem? (i := 145) rfl)) rfl
theorem k4_146 : Jvm.Cond.selects "CommitPrefixes" ⟨"CommitPrefixes", "record", "(II)I"⟩ ⟨"CommitPrefixes", "record", "(II)I"⟩ ∈ TT := tt_mem (tb_4 _ (List.mem_of_getElem? (i := 146) rfl)) rfl
theorem k4_147 : Jvm.Cond.code ⟨"CommitPrefixes", "record", "(II)I"⟩ prog_1_method_23_code 4 (Option.some Jvm.ClassFile.FieldType.int) ∈ TT := tt_mem (tb_4 _ (List.mem_of_getElem? (i := 147) rfl)) rfl
theorem k4_148 : Jvm.Cond.methodLink "CommitPrefixesLaw" 95 ⟨"CommitPrefixes", "sent", "(I)I"⟩ ∈ TT := tt_mem (tb_4 _ (List.mem_of_getElem? (i := 148) rfl)) rfl
theorem k4_149 : Jvm.Cond.instanceMethod ⟨"CommitPrefixes", "sent", "(I)I"⟩ ∈ TT := tt_mem (tb_4 _ (List.mem_of_getElem? (i := 149) rfl)) rfl
theorem k4_150 : Jvm.Cond.selects "CommitPrefixes" ⟨"CommitPrefixes", "sent", "(I)I"⟩ ⟨"CommitPrefixes", "sent", "(I)I"⟩ ∈ TT := tt_mem (tb_4 _ (List.mem_of_getElem? (i := 150) rfl)) rfl
theorem k4_151 : Jvm.Cond.code ⟨"CommitPrefixes", "sent", "(I)I"⟩ prog_1_method_24_code 2 (Option.some Jvm.ClassFile.FieldType.int) ∈ TT := tt_mem (tb_4 _ (List.mem_of_getElem? (i := 151) rfl)) rfl
theorem k4_152 : Jvm.Cond.methodLink "CommitPrefixes" 252 ⟨"CommitPrefixes$Run", "sentAt", "(I)I"⟩ ∈ TT := tt_mem (tb_4 _ (List.mem_of_getElem? (i := 152) rfl)) rfl
theorem k4_153 : Jvm.Cond.instanceMethod ⟨"CommitPrefixes$Run", "sentAt", "(I)I"⟩ ∈ TT := tt_mem (tb_4 _ (List.mem_of_getElem? (i := 153) rfl)) rfl
theorem k4_154 : Jvm.Cond.selects "CommitPrefixes$Run" ⟨"CommitPrefixes$Run", "sentAt", "(I)I"⟩ ⟨"CommitPrefixes$Run", "sentAt", "(I)I"⟩ ∈ TT := tt_mem (tb_4 _ (List.mem_of_getElem? (i := 154) rfl)) rfl
theorem k4_155 : Jvm.Cond.code ⟨"CommitPrefixes$Run", "sentAt", "(I)I"⟩ prog_6_method_15_code 2 (Option.some Jvm.ClassFile.FieldType.int) ∈ TT := tt_mem (tb_4 _ (List.mem_of_getElem? (i := 155) rfl)) rfl
theorem k4_156 : Jvm.Cond.methodLink "CommitPrefixesLaw" 99 ⟨"CommitPrefixes", "message", "(II)I"⟩ ∈ TT := tt_mem (tb_4 _ (List.mem_of_getElem? (i := 156) rfl)) rfl
theorem k4_157 : Jvm.Cond.instanceMethod ⟨"CommitPrefixes", "message", "(II)I"⟩ ∈ TT := tt_mem (tb_4 _ (List.mem_of_getElem? (i := 157) rfl)) rfl
theorem k4_158 : Jvm.Cond.selects "CommitPrefixes" ⟨"CommitPrefixes", "message", "(II)I"⟩ ⟨"CommitPrefixes", "message", "(II)I"⟩ ∈ TT := tt_mem (tb_4 _ (List.mem_of_getElem? (i := 158) rfl)) rfl
theorem k4_159 : Jvm.Cond.code ⟨"CommitPrefixes", "message", "(II)I"⟩ prog_1_method_25_code 3 (Option.some Jvm.ClassFile.FieldType.int) ∈ TT := tt_mem (tb_4 _ (List.mem_of_getElem? (i := 159) rfl)) rfl
theorem k4_160 : Jvm.Cond.methodLink "CommitPrefixesLaw" 103 ⟨"CommitPrefixes", "alike", "(I)I"⟩ ∈ TT := tt_mem (tb_4 _ (List.mem_of_getElem? (i := 160) rfl)) rfl
theorem k4_161 : Jvm.Cond.instanceMethod ⟨"CommitPrefixes", "alike", "(I)I"⟩ ∈ TT := tt_mem (tb_4 _ (List.mem_of_getElem? (i := 161) rfl)) rfl
theorem k4_162 : Jvm.Cond.selects "CommitPrefixes" ⟨"CommitPrefixes", "alike", "(I)I"⟩ ⟨"CommitPrefixes", "alike", "(I)I"⟩ ∈ TT := tt_mem (tb_4 _ (List.mem_of_getElem? (i := 162) rfl)) rfl
theorem k4_163 : Jvm.Cond.code ⟨"CommitPrefixes", "alike", "(I)I"⟩ prog_1_method_26_code 2 (Option.some Jvm.ClassFile.FieldType.int) ∈ TT := tt_mem (tb_4 _ (List.mem_of_getElem? (i := 163) rfl)) rfl
theorem k4_164 : Jvm.Cond.methodLink "CommitPrefixes" 258 ⟨"CommitPrefixes$Run", "isAlikeAt", "(I)Z"⟩ ∈ TT := tt_mem (tb_4 _ (List.mem_of_getElem? (i := 164) rfl)) rfl
theorem k4_165 : Jvm.Cond.instanceMethod ⟨"CommitPrefixes$Run", "isAlikeAt", "(I)Z"⟩ ∈ TT := tt_mem (tb_4 _ (List.mem_of_getElem? (i := 165) rfl)) rfl
theorem k4_166 : Jvm.Cond.selects "CommitPrefixes$Run" ⟨"CommitPrefixes$Run", "isAlikeAt", "(I)Z"⟩ ⟨"CommitPrefixes$Run", "isAlikeAt", "(I)Z"⟩ ∈ TT := tt_mem (tb_4 _ (List.mem_of_getElem? (i := 166) rfl)) rfl
theorem k4_167 : Jvm.Cond.code ⟨"CommitPrefixes$Run", "isAlikeAt", "(I)Z"⟩ prog_6_method_17_code 4 (Option.some Jvm.ClassFile.FieldType.boolean) ∈ TT := tt_mem (tb_4 _ (List.mem_of_getElem? (i := 167) rfl)) rfl
theorem k4_168 : Jvm.Cond.methodLink "CommitPrefixes$Run" 172 ⟨"CommitPrefixes$Run", "decisionAt", "(II)I"⟩ ∈ TT := tt_mem (tb_4 _ (List.mem_of_getElem? (i := 168) rfl)) rfl
theorem k4_169 : Jvm.Cond.methodLink "CommitPrefixesLaw" 107 ⟨"CommitPrefixes", "blocked", "()I"⟩ ∈ TT := tt_mem (tb_4 _ (List.mem_of_getElem? (i := 169) rfl)) rfl
theorem k4_170 : Jvm.Cond.instanceMethod ⟨"CommitPrefixes", "blocked", "()I"⟩ ∈ TT := tt_mem (tb_4 _ (List.mem_of_getElem? (i := 170) rfl)) rfl
theorem k4_171 : Jvm.Cond.selects "CommitPrefixes" ⟨"CommitPrefixes", "blocked", "()I"⟩ ⟨"CommitPrefixes", "blocked", "()I"⟩ ∈ TT := tt_mem (tb_4 _ (List.mem_of_getElem? (i := 171) rfl)) rfl
theorem k4_172 : Jvm.Cond.code ⟨"CommitPrefixes", "blocked", "()I"⟩ prog_1_method_27_code 1 (Option.some Jvm.ClassFile.FieldType.int) ∈ TT := tt_mem (tb_4 _ (List.mem_of_getElem? (i := 172) rfl)) rfl
theorem k4_173 : Jvm.Cond.methodLink "CommitPrefixes" 261 ⟨"CommitPrefixes$Run", "whoIsBlocked", "()I"⟩ ∈ TT := tt_mem (tb_4 _ (List.mem_of_getElem? (i := 173) rfl)) rfl
theorem k4_174 : Jvm.Cond.instanceMethod ⟨"CommitPrefixes$Run", "whoIsBlocked", "()I"⟩ ∈ TT := tt_mem (tb_4 _ (List.mem_of_getElem? (i := 174) rfl)) rfl
theorem k4_175 : Jvm.Cond.selects "CommitPrefixes$Run" ⟨"CommitPrefixes$Run", "whoIsBlocked", "()I"⟩ ⟨"CommitPrefixes$Run", "whoIsBlocked", "()I"⟩ ∈ TT := tt_mem (tb_4 _ (List.mem_of_getElem? (i := 175) rfl)) rfl
theorem k4_176 : Jvm.Cond.code ⟨"CommitPrefixes$Run", "whoIsBlocked", "()I"⟩ prog_6_method_18_code 4 (Option.some Jvm.ClassFile.FieldType.int) ∈ TT := tt_mem (tb_4 _ (List.mem_of_getElem? (i := 176) rfl)) rfl
theorem k4_177 : Jvm.Cond.methodLink "CommitPrefixesLaw" 111 ⟨"CommitPrefixes", "quiet", "()I"⟩ ∈ TT := tt_mem (tb_4 _ (List.mem_of_getElem? (i := 177) rfl)) rfl
theorem k4_178 : Jvm.Cond.instanceMethod ⟨"CommitPrefixes", "quiet", "()I"⟩ ∈ TT := tt_mem (tb_4 _ (List.mem_of_getElem? (i := 178) rfl)) rfl
theorem k4_179 : Jvm.Cond.selects "CommitPrefixes" ⟨"CommitPrefixes", "quiet", "()I"⟩ ⟨"CommitPrefixes", "quiet", "()I"⟩ ∈ TT := tt_mem (tb_4 _ (List.mem_of_getElem? (i := 179) rfl)) rfl
theorem k4_180 : Jvm.Cond.code ⟨"CommitPrefixes", "quiet", "()I"⟩ prog_1_method_28_code 1 (Option.some Jvm.ClassFile.FieldType.int) ∈ TT := tt_mem (tb_4 _ (List.mem_of_getElem? (i := 180) rfl)) rfl
theorem k4_181 : Jvm.Cond.methodLink "CommitPrefixes" 264 ⟨"CommitPrefixes$Run", "quietTick", "()I"⟩ ∈ TT := tt_mem (tb_4 _ (List.mem_of_getElem? (i := 181) rfl)) rfl
theorem k4_182 : Jvm.Cond.instanceMethod ⟨"CommitPrefixes$Run", "quietTick", "()I"⟩ ∈ TT := tt_mem (tb_4 _ (List.mem_of_getElem? (i := 182) rfl)) rfl
theorem k4_183 : Jvm.Cond.selects "CommitPrefixes$Run" ⟨"CommitPrefixes$Run", "quietTick", "()I"⟩ ⟨"CommitPrefixes$Run", "quietTick", "()I"⟩ ∈ TT := tt_mem (tb_4 _ (List.mem_of_getElem? (i := 183) rfl)) rfl
theorem k4_184 : Jvm.Cond.code ⟨"CommitPrefixes$Run", "quietTick", "()I"⟩ prog_6_method_19_code 2 (Option.some Jvm.ClassFile.FieldType.int) ∈ TT := tt_mem (tb_4 _ (List.mem_of_getElem? (i := 184) rfl)) rfl
theorem k4_185 : Jvm.Cond.methodLink "CommitPrefixes$Run" 175 ⟨"CommitPrefixes$Run", "isSameAsBefore", "(I)Z"⟩ ∈ TT := tt_mem (tb_4 _ (List.mem_of_getElem? (i := 185) rfl)) rfl
theorem k4_187 : Jvm.Cond.instanceMethod ⟨"CommitPrefixes$Run", "isSameAsBefore", "(I)Z"⟩ ∈ TT := tt_mem (tb_4 _ (List.mem_of_getElem? (i := 187) rfl)) rfl
theorem k4_188 : Jvm.Cond.code ⟨"CommitPrefixes$Run", "isSameAsBefore", "(I)Z"⟩ prog_6_method_20_code 3 (Option.some Jvm.ClassFile.FieldType.boolean) ∈ TT := tt_mem (tb_4 _ (List.mem_of_getElem? (i := 188) rfl)) rfl
theorem k4_189 : Jvm.Cond.methodLink "CommitPrefixesLaw" 115 ⟨"CommitPrefixes", "harm", "(I)I"⟩ ∈ TT := tt_mem (tb_4 _ (List.mem_of_getElem? (i := 189) rfl)) rfl
theorem k4_190 : Jvm.Cond.instanceMethod ⟨"CommitPrefixes", "harm", "(I)I"⟩ ∈ TT := tt_mem (tb_4 _ (List.mem_of_getElem? (i := 190) rfl)) rfl
theorem k4_191 : Jvm.Cond.selects "CommitPrefixes" ⟨"CommitPrefixes", "harm", "(I)I"⟩ ⟨"CommitPrefixes", "harm", "(I)I"⟩ ∈ TT := tt_mem (tb_4 _ (List.mem_of_getElem? (i := 191) rfl)) rfl
theorem k4_192 : Jvm.Cond.code ⟨"CommitPrefixes", "harm", "(I)I"⟩ prog_1_method_29_code 2 (Option.some Jvm.ClassFile.FieldType.int) ∈ TT := tt_mem (tb_4 _ (List.mem_of_getElem? (i := 192) rfl)) rfl
theorem k4_193 : Jvm.Cond.methodLink "CommitPrefixes" 267 ⟨"CommitPrefixes", "tryLosses", "(LCommitPrefixes$Run;)V"⟩ ∈ TT := tt_mem (tb_4 _ (List.mem_of_getElem? (i := 193) rfl)) rfl
theorem k4_195 : Jvm.Cond.instanceMethod ⟨"CommitPrefixes", "tryLosses", "(LCommitPrefixes$Run;)V"⟩ ∈ TT := tt_mem (tb_4 _ (List.mem_of_getElem? (i := 195) rfl)) rfl
theorem k4_196 : Jvm.Cond.code ⟨"CommitPrefixes", "tryLosses", "(LCommitPrefixes$Run;)V"⟩ prog_1_method_47_code 6 Option.none ∈ TT := tt_mem (tb_4 _ (List.mem_of_getElem? (i := 196) rfl)) rfl
theorem k4_197 : Jvm.Cond.methodLink "CommitPrefixes" 312 ⟨"java/lang/Math", "min", "(II)I"⟩ ∈ TT := tt_mem (tb_4 _ (List.mem_of_getElem? (i := 197) rfl)) rfl
theorem k4_198 : Jvm.Cond.methodLink "CommitPrefixes" 271 ⟨"CommitPrefixes", "partOf", "(JI)I"⟩ ∈ TT := tt_mem (tb_4 _ (List.mem_of_getElem? (i := 198) rfl)) rfl
theorem k4_199 : Jvm.Cond.static ⟨"CommitPrefixes", "partOf", "(JI)I"⟩ ∈ TT := tt_mem (tb_4 _ (List.mem_of_getElem? (i := 199) rfl)) rfl
theorem k4_200 : Jvm.Cond.code ⟨"CommitPrefixes", "partOf", "(JI)I"⟩ prog_1_method_40_code 3 (Option.some Jvm.ClassFile.FieldType.int) ∈ TT := tt_mem (tb_4 _ (List.mem_of_getElem? (i := 200) rfl)) rfl
theorem k4_201 : Jvm.Cond.constant "CommitPrefixes" 305 1073741823 ∈ TT := tt_mem (tb_4 _ (List.mem_of_getElem? (i := 201) rfl)) rfl
theorem k4_202 : Jvm.Cond.methodLink "CommitPrefixesLaw" 119 ⟨"CommitPrefixes", "block", "(I)I"⟩ ∈ TT := tt_mem (tb_4 _ (List.mem_of_getElem? (i := 202) rfl)) rfl
theorem k4_203 : Jvm.Cond.instanceMethod ⟨"CommitPrefixes", "block", "(I)I"⟩ ∈ TT := tt_mem (tb_4 _ (List.mem_of_getElem? (i := 203) rfl)) rfl
theorem k4_204 : Jvm.Cond.selects "CommitPrefixes" ⟨"CommitPrefixes", "block", "(I)I"⟩ ⟨"CommitPrefixes", "block", "(I)I"⟩ ∈ TT := tt_mem (tb_4 _ (List.mem_of_getElem? (i := 204) rfl)) rfl
theorem k4_205 : Jvm.Cond.code ⟨"CommitPrefixes", "block", "(I)I"⟩ prog_1_method_30_code 2 (Option.some Jvm.ClassFile.FieldType.int) ∈ TT := tt_mem (tb_4 _ (List.mem_of_getElem? (i := 205) rfl)) rfl
theorem k4_206 : Jvm.Cond.methodLink "CommitPrefixesLaw" 123 ⟨"CommitPrefixes", "recovery", "(II)I"⟩ ∈ TT := tt_mem (tb_4 _ (List.mem_of_getElem? (i := 206) rfl)) rfl
theorem k4_207 : Jvm.Cond.instanceMethod ⟨"CommitPrefixes", "recovery", "(II)I"⟩ ∈ TT := tt_mem (tb_4 _ (List.mem_of_getElem? (i := 207) rfl)) rfl
theorem k4_208 : Jvm.Cond.selects "CommitPrefixes" ⟨"CommitPrefixes", "recovery", "(II)I"⟩ ⟨"CommitPrefixes", "recovery", "(II)I"⟩ ∈ TT := tt_mem (tb_4 _ (List.mem_of_getElem? (i := 208) rfl)) rfl
theorem k4_209 : Jvm.Cond.code ⟨"CommitPrefixes", "recovery", "(II)I"⟩ prog_1_method_31_code 5 (Option.some Jvm.ClassFile.FieldType.int) ∈ TT := tt_mem (tb_4 _ (List.mem_of_getElem? (i := 209) rfl)) rfl
theorem k4_210 : Jvm.Cond.methodLink "CommitPrefixes" 278 ⟨"CommitPrefixes$Coordinator", "stateBehind", "(IZ)I"⟩ ∈ TT := tt_mem (tb_4 _ (List.mem_of_getElem? (i := 210) rfl)) rfl
theorem k4_211 : Jvm.Cond.static ⟨"CommitPrefixes$Coordinator", "stateBehind", "(IZ)I"⟩ ∈ TT := tt_mem (tb_4 _ (List.mem_of_getElem? (i := 211) rfl)) rfl
theorem k4_212 : Jvm.Cond.code ⟨"CommitPrefixes$Coordinator", "stateBehind", "(IZ)I"⟩ prog_3_method_2_code 2 (Option.some Jvm.ClassFile.FieldType.int) ∈ TT := tt_mem (tb_4 _ (List.mem_of_getElem? (i := 212) rfl)) rfl
theorem k4_213 : Jvm.Cond.methodLink "CommitPrefixes" 284 ⟨"CommitPrefixes$Participant", "stateBehind", "(I)I"⟩ ∈ TT := tt_mem (tb_4 _ (List.mem_of_getElem? (i := 213) rfl)) rfl
theorem k4_214 : Jvm.Cond.methodLink "CommitPrefixesLaw" 127 ⟨"CommitPrefixes", "spared", "()I"⟩ ∈ TT := tt_mem (tb_4 _ (List.mem_of_getElem? (i := 214) rfl)) rfl
theorem k4_215 : Jvm.Cond.instanceMethod ⟨"CommitPrefixes", "spared", "()I"⟩ ∈ TT := tt_mem (tb_4 _ (List.mem_of_getElem? (i := 215) rfl)) rfl
theorem k4_216 : Jvm.Cond.selects "CommitPrefixes" ⟨"CommitPrefixes", "spared", "()I"⟩ ⟨"CommitPrefixes", "spared", "()I"⟩ ∈ TT := tt_mem (tb_4 _ (List.mem_of_getElem? (i := 216) rfl)) rfl
theorem k4_217 : Jvm.Cond.code ⟨"CommitPrefixes", "spared", "()I"⟩ prog_1_method_32_code 2 (Option.some Jvm.ClassFile.FieldType.int) ∈ TT := tt_mem (tb_4 _ (List.mem_of_getElem? (i := 217) rfl)) rfl
theorem k4_218 : Jvm.Cond.methodLink "CommitPrefixesLaw" 131 ⟨"CommitPrefixes", "judge", "(III)I"⟩ ∈ TT := tt_mem (tb_4 _ (List.mem_of_getElem? (i := 218) rfl)) rfl
theorem k4_219 : Jvm.Cond.instanceMethod ⟨"CommitPrefixes", "judge", "(III)I"⟩ ∈ TT := tt_mem (tb_4 _ (List.mem_of_getElem? (i := 219) rfl)) rfl
theorem k4_220 : Jvm.Cond.selects "CommitPrefixes" ⟨"CommitPrefixes", "judge", "(III)I"⟩ ⟨"CommitPrefixes", "judge", "(III)I"⟩ ∈ TT := tt_mem (tb_4 _ (List.mem_of_getElem? (i := 220) rfl)) rfl
theorem k4_221 : Jvm.Cond.code ⟨"CommitPrefixes", "judge", "(III)I"⟩ prog_1_method_33_code 6 (Option.some Jvm.ClassFile.FieldType.int) ∈ TT := tt_mem (tb_4 _ (List.mem_of_getElem? (i := 221) rfl)) rfl
theorem k4_222 : Jvm.Cond.methodLink "CommitPrefixes" 295 ⟨"CommitPrefixes", "judgeLack", "(III)I"⟩ ∈ TT := tt_mem (tb_4 _ (List.mem_of_getElem? (i := 222) rfl)) rfl
theorem k4_224 : Jvm.Cond.instanceMethod ⟨"CommitPrefixes", "judgeLack", "(III)I"⟩ ∈ TT := tt_mem (tb_4 _ (List.mem_of_getElem? (i := 224) rfl)) rfl
theorem k4_225 : Jvm.Cond.code ⟨"CommitPrefixes", "judgeLack", "(III)I"⟩ prog_1_method_44_code 5 (Option.some Jvm.ClassFile.FieldType.int) ∈ TT := tt_mem (tb_4 _ (List.mem_of_getElem? (i := 225) rfl)) rfl
theorem k4_226 : Jvm.Cond.methodLink "CommitPrefixes" 299 ⟨"CommitPrefixes$Shelf", "letter", "(I)I"⟩ ∈ TT := tt_mem (tb_4 _ (List.mem_of_getElem? (i := 226) rfl)) rfl
theorem k4_227 : Jvm.Cond.methodLink "CommitPrefixesLaw" 151 ⟨"CommitPrefixes", "status", "(I)I"⟩ ∈ TT := tt_mem (tb_4 _ (List.mem_of_getElem? (i := 227) rfl)) rfl
theorem k4_228 : Jvm.Cond.instanceMethod ⟨"CommitPrefixes", "status", "(I)I"⟩ ∈ TT := tt_mem (tb_4 _ (List.mem_of_getElem? (i := 228) rfl)) rfl
theorem k4_229 : Jvm.Cond.selects "CommitPrefixes" ⟨"CommitPrefixes", "status", "(I)I"⟩ ⟨"CommitPrefixes", "status", "(I)I"⟩ ∈ TT := tt_mem (tb_4 _ (List.mem_of_getElem? (i := 229) rfl)) rfl
theorem k4_230 : Jvm.Cond.code ⟨"CommitPrefixes", "status", "(I)I"⟩ prog_1_method_34_code 4 (Option.some Jvm.ClassFile.FieldType.int) ∈ TT := tt_mem (tb_4 _ (List.mem_of_getElem? (i := 230) rfl)) rfl
theorem k4_231 : Jvm.Cond.classLink "CommitPrefixesLaw" 10 "CommitPrefixesModel" ∈ TT := tt_mem (tb_4 _ (List.mem_of_getElem? (i := 231) rfl)) rfl
theorem k4_232 : Jvm.Cond.instantiable "CommitPrefixesModel" 43 ∈ TT := tt_mem (tb_4 _ (List.mem_of_getElem? (i := 232) rfl)) rfl
theorem k4_233 : Jvm.Cond.methodLink "CommitPrefixesLaw" 12 ⟨"CommitPrefixesModel", "<init>", "()V"⟩ ∈ TT := tt_mem (tb_4 _ (List.mem_of_getElem? (i := 233) rfl)) rfl
theorem k4_234 : Jvm.Cond.instanceMethod ⟨"CommitPrefixesModel", "<init>", "()V"⟩ ∈ TT := tt_mem (tb_4 _ (List.mem_of_getElem? (i := 234) rfl)) rfl
theorem k4_235 : Jvm.Cond.code ⟨"CommitPrefixesModel", "<init>", "()V"⟩ prog_12_method_1_code 2 Option.none ∈ TT := tt_mem (tb_4 _ (List.mem_of_getElem? (i := 235) rfl)) rfl
theorem k4_236 : Jvm.Cond.methodLink "CommitPrefixesModel" 1 ⟨"java/lang/Object", "<init>", "()V"⟩ ∈ TT := tt_mem (tb_4 _ (List.mem_of_getElem? (i := 236) rfl)) rfl
theorem k4_237 : Jvm.Cond.fieldLink "CommitPrefixesModel" 7 "CommitPrefixesModel" "refused" "[I" ∈ TT := tt_mem (tb_4 _ (List.mem_of_getElem? (i := 237) rfl)) rfl
theorem k4_238 : Jvm.Cond.fieldLink "CommitPrefixesModel" 13 "CommitPrefixesModel" "votes" "[I" ∈ TT := tt_mem (tb_4 _ (List.mem_of_getElem? (i := 238) rfl)) rfl
theorem k4_239 : Jvm.Cond.fieldLink "CommitPrefixesModel" 16 "CommitPrefixesModel" "losses" "[I" ∈ TT := tt_mem (tb_4 _ (List.mem_of_getElem? (i := 239) rfl)) rfl
theorem k5_0 : Jvm.Cond.fieldLink "CommitPrefixesModel" 19 "CommitPrefixesModel" "downs" "[I" ∈ TT := tt_mem (tb_5 _ (List.mem_of_getElem? (i := 0) rfl)) rfl
theorem k5_1 : Jvm.Cond.fieldLink "CommitPrefixesModel" 22 "CommitPrefixesModel" "ups" "[I" ∈ TT := tt_mem (tb_5 _ (List.mem_of_getElem? (i := 1) rfl)) rfl
theorem k5_2 : Jvm.Cond.fieldLink "CommitPrefixesModel" 96 "CommitPrefixesModel" "n" "I" ∈ TT := tt_mem (tb_5 _ (List.mem_of_getElem? (i := 2) rfl)) rfl
theorem k5_3 : Jvm.Cond.fieldLink "CommitPrefixesModel" 99 "CommitPrefixesModel" "phases" "I" ∈ TT := tt_mem (tb_5 _ (List.mem_of_getElem? (i := 3) rfl)) rfl
theorem k5_4 : Jvm.Cond.fieldLink "CommitPrefixesModel" 102 "CommitPrefixesModel" "wait" "I" ∈ TT := tt_mem (tb_5 _ (List.mem_of_getElem? (i := 4) rfl)) rfl
theorem k5_5 : Jvm.Cond.fieldLink "CommitPrefixesModel" 136 "CommitPrefixesModel" "presumed" "I" ∈ TT := tt_mem (tb_5 _ (List.mem_of_getElem? (i := 5) rfl)) rfl
theorem k5_6 : Jvm.Cond.fieldLink "CommitPrefixesModel" 105 "CommitPrefixesModel" "seed" "I" ∈ TT := tt_mem (tb_5 _ (List.mem_of_getElem? (i := 6) rfl)) rfl
theorem k5_7 : Jvm.Cond.fieldLink "CommitPrefixesModel" 25 "CommitPrefixesModel" "state" "[I" ∈ TT := tt_mem (tb_5 _ (List.mem_of_getElem? (i := 7) rfl)) rfl
theorem k5_8 : Jvm.Cond.fieldLink "CommitPrefixesModel" 28 "CommitPrefixesModel" "isUp" "[I" ∈ TT := tt_mem (tb_5 _ (List.mem_of_getElem? (i := 8) rfl)) rfl
theorem k5_9 : Jvm.Cond.fieldLink "CommitPrefixesModel" 31 "CommitPrefixesModel" "timer" "[I" ∈ TT := tt_mem (tb_5 _ (List.mem_of_getElem? (i := 9) rfl)) rfl
theorem k5_10 : Jvm.Cond.fieldLink "CommitPrefixesModel" 34 "CommitPrefixesModel" "log" "[I" ∈ TT := tt_mem (tb_5 _ (List.mem_of_getElem? (i := 10) rfl)) rfl
theorem k5_11 : Jvm.Cond.fieldLink "CommitPrefixesModel" 37 "CommitPrefixesModel" "logMany" "[I" ∈ TT := tt_mem (tb_5 _ (List.mem_of_getElem? (i := 11) rfl)) rfl
theorem k5_12 : Jvm.Cond.fieldLink "CommitPrefixesModel" 40 "CommitPrefixesModel" "counted" "[I" ∈ TT := tt_mem (tb_5 _ (List.mem_of_getElem? (i := 12) rfl)) rfl
theorem k5_13 : Jvm.Cond.fieldLink "CommitPrefixesModel" 43 "CommitPrefixesModel" "which" "[I" ∈ TT := tt_mem (tb_5 _ (List.mem_of_getElem? (i := 13) rfl)) rfl
theorem k5_14 : Jvm.Cond.fieldLink "CommitPrefixesModel" 46 "CommitPrefixesModel" "sender" "[I" ∈ TT := tt_mem (tb_5 _ (List.mem_of_getElem? (i := 14) rfl)) rfl
theorem k5_15 : Jvm.Cond.fieldLink "CommitPrefixesModel" 49 "CommitPrefixesModel" "goal" "[I" ∈ TT := tt_mem (tb_5 _ (List.mem_of_getElem? (i := 15) rfl)) rfl
theorem k5_16 : Jvm.Cond.fieldLink "CommitPrefixesModel" 52 "CommitPrefixesModel" "sentAt" "[I" ∈ TT := tt_mem (tb_5 _ (List.mem_of_getElem? (i := 16) rfl)) rfl
theorem k5_17 : Jvm.Cond.fieldLink "CommitPrefixesModel" 55 "CommitPrefixesModel" "fate" "[I" ∈ TT := tt_mem (tb_5 _ (List.mem_of_getElem? (i := 17) rfl)) rfl
theorem k5_18 : Jvm.Cond.fieldLink "CommitPrefixesModel" 112 "CommitPrefixesModel" "messages" "I" ∈ TT := tt_mem (tb_5 _ (List.mem_of_getElem? (i := 18) rfl)) rfl
theorem k5_19 : Jvm.Cond.fieldLink "CommitPrefixesModel" 115 "CommitPrefixesModel" "tick" "I" ∈ TT := tt_mem (tb_5 _ (List.mem_of_getElem? (i := 19) rfl)) rfl
theorem k5_20 : Jvm.Cond.fieldLink "CommitPrefixesModel" 202 "CommitPrefixesModel" "firstNew" "I" ∈ TT := tt_mem (tb_5 _ (List.mem_of_getElem? (i := 20) rfl)) rfl
theorem k5_21 : Jvm.Cond.fieldLink "CommitPrefixesModel" 122 "CommitPrefixesModel" "decision" "I" ∈ TT := tt_mem (tb_5 _ (List.mem_of_getElem? (i := 21) rfl)) rfl
theorem k5_22 : Jvm.Cond.fieldLink "CommitPrefixesModel" 58 "CommitPrefixesModel" "stateThen" "[I" ∈ TT := tt_mem (tb_5 _ (List.mem_of_getElem? (i := 22) rfl)) rfl
theorem k5_23 : Jvm.Cond.fieldLink "CommitPrefixesModel" 61 "CommitPrefixesModel" "recordsThen" "[I" ∈ TT := tt_mem (tb_5 _ (List.mem_of_getElem? (i := 23) rfl)) rfl
theorem k5_24 : Jvm.Cond.fieldLink "CommitPrefixesModel" 64 "CommitPrefixesModel" "sentThen" "[I" ∈ TT := tt_mem (tb_5 _ (List.mem_of_getElem? (i := 24) rfl)) rfl
theorem k5_25 : Jvm.Cond.fieldLink "CommitPrefixesModel" 67 "CommitPrefixesModel" "held" "[I" ∈ TT := tt_mem (tb_5 _ (List.mem_of_getElem? (i := 25) rfl)) rfl
theorem k5_26 : Jvm.Cond.fieldLink "CommitPrefixesModel" 70 "CommitPrefixesModel" "size" "[I" ∈ TT := tt_mem (tb_5 _ (List.mem_of_getElem? (i := 26) rfl)) rfl
theorem k5_27 : Jvm.Cond.fieldLink "CommitPrefixesModel" 73 "CommitPrefixesModel" "elements" "[J" ∈ TT := tt_mem (tb_5 _ (List.mem_of_getElem? (i := 27) rfl)) rfl
theorem k5_28 : Jvm.Cond.fieldLink "CommitPrefixesModel" 77 "CommitPrefixesModel" "item" "[I" ∈ TT := tt_mem (tb_5 _ (List.mem_of_getElem? (i := 28) rfl)) rfl
theorem k5_29 : Jvm.Cond.fieldLink "CommitPrefixesModel" 80 "CommitPrefixesModel" "first" "[I" ∈ TT := tt_mem (tb_5 _ (List.mem_of_getElem? (i := 29) rfl)) rfl
theorem k5_30 : Jvm.Cond.fieldLink "CommitPrefixesModel" 83 "CommitPrefixesModel" "second" "[I" ∈ TT := tt_mem (tb_5 _ (List.mem_of_getElem? (i := 30) rfl)) rfl
theorem k5_31 : Jvm.Cond.fieldLink "CommitPrefixesModel" 86 "CommitPrefixesModel" "third" "[I" ∈ TT := tt_mem (tb_5 _ (List.mem_of_getElem? (i := 31) rfl)) rfl
theorem k5_32 : Jvm.Cond.fieldLink "CommitPrefixesModel" 254 "CommitPrefixesModel" "reading" "I" ∈ TT := tt_mem (tb_5 _ (List.mem_of_getElem? (i := 32) rfl)) rfl
theorem k5_33 : Jvm.Cond.fieldLink "CommitPrefixesModel" 89 "CommitPrefixesModel" "faultAt" "I" ∈ TT := tt_mem (tb_5 _ (List.mem_of_getElem? (i := 33) rfl)) rfl
theorem k5_34 : Jvm.Cond.fieldLink "CommitPrefixesModel" 266 "CommitPrefixesModel" "items" "I" ∈ TT := tt_mem (tb_5 _ (List.mem_of_getElem? (i := 34) rfl)) rfl
theorem k5_35 : Jvm.Cond.fieldLink "CommitPrefixesModel" 245 "CommitPrefixesModel" "shelfRead" "I" ∈ TT := tt_mem (tb_5 _ (List.mem_of_getElem? (i := 35) rfl)) rfl
theorem k5_36 : Jvm.Cond.fieldLink "CommitPrefixesModel" 93 "CommitPrefixesModel" "kept" "[I" ∈ TT := tt_mem (tb_5 _ (List.mem_of_getElem? (i := 36) rfl)) rfl
theorem k5_37 : Jvm.Cond.fieldLink "CommitPrefixesModel" 357 "CommitPrefixesModel" "hasImage" "Z" ∈ TT := tt_mem (tb_5 _ (List.mem_of_getElem? (i := 37) rfl)) rfl
theorem k5_38 : Jvm.Cond.fieldLink "CommitPrefixesModel" 343 "CommitPrefixesModel" "isKeeping" "Z" ∈ TT := tt_mem (tb_5 _ (List.mem_of_getElem? (i := 38) rfl)) rfl
theorem k5_39 : Jvm.Cond.fieldLink "CommitPrefixesModel" 347 "CommitPrefixesModel" "cursor" "I" ∈ TT := tt_mem (tb_5 _ (List.mem_of_getElem? (i := 39) rfl)) rfl
theorem k5_40 : Jvm.Cond.laysFinal "CommitPrefixesModel" "CommitPrefixesModel" "refused" "[I" ∈ TT := tt_mem (tb_5 _ (List.mem_of_getElem? (i := 40) rfl)) rfl
theorem k5_42 : Jvm.Cond.laysFinal "CommitPrefixesModel" "CommitPrefixesModel" "votes" "[I" ∈ TT := tt_mem (tb_5 _ (List.mem_of_getElem? (i := 42) rfl)) rfl
theorem k5_44 : Jvm.Cond.laysFinal "CommitPrefixesModel" "CommitPrefixesModel" "losses" "[I" ∈ TT := tt_mem (tb_5 _ (List.mem_of_getElem? (i := 44) rfl)) rfl
theorem k5_46 : Jvm.Cond.laysFinal "CommitPrefixesModel" "CommitPrefixesModel" "downs" "[I" ∈ TT := tt_mem (tb_5 _ (List.mem_of_getElem? (i := 46) rfl)) rfl
theorem k5_48 : Jvm.Cond.laysFinal "CommitPrefixesModel" "CommitPrefixesModel" "ups" "[I" ∈ TT := tt_mem (tb_5 _ (List.mem_of_getElem? (i := 48) rfl)) rfl
theorem k5_50 : Jvm.Cond.lays "CommitPrefixesModel" "CommitPrefixesModel" "n" "I" ∈ TT := tt_mem (tb_5 _ (List.mem_of_getElem? (i := 50) rfl)) rfl
theorem k5_52 : Jvm.Cond.lays "CommitPrefixesModel" "CommitPrefixesModel" "phases" "I" ∈ TT := tt_mem (tb_5 _ (List.mem_of_getElem? (i := 52) rfl)) rfl
theorem k5_54 : Jvm.Cond.lays "CommitPrefixesModel" "CommitPrefixesModel" "wait" "I" ∈ TT := tt_mem (tb_5 _ (List.mem_of_getElem? (i := 54) rfl)) rfl
theorem k5_56 : Jvm.Cond.lays "CommitPrefixesModel" "CommitPrefixesModel" "presumed" "I" ∈ TT := tt_mem (tb_5 _ (List.mem_of_getElem? (i := 56) rfl)) rfl
theorem k5_58 : Jvm.Cond.lays "CommitPrefixesModel" "CommitPrefixesModel" "seed" "I" ∈ TT := tt_mem (tb_5 _ (List.mem_of_getElem? (i := 58) rfl)) rfl
theorem k5_60 : Jvm.Cond.laysFinal "CommitPrefixesModel" "CommitPrefixesModel" "state" "[I" ∈ TT := tt_mem (tb_5 _ (List.mem_of_getElem? (i := 60) rfl)) rfl
theorem k5_62 : Jvm.Cond.laysFinal "CommitPrefixesModel" "CommitPrefixesModel" "isUp" "[I" ∈ TT := tt_mem (tb_5 _ (List.mem_of_getElem? (i := 62) rfl)) rfl
theorem k5_64 : Jvm.Cond.laysFinal "CommitPrefixesModel" "CommitPrefixesModel" "timer" "[I" ∈ TT := tt_mem (tb_5 _ (List.mem_of_getElem? (i := 64) rfl)) rfl
theorem k5_66 : Jvm.Cond.laysFinal "CommitPrefixesModel" "CommitPrefixesModel" "log" "[I" ∈ TT := tt_mem (tb_5 _ (List.mem_of_getElem? (i := 66) rfl)) rfl
theorem k5_68 : Jvm.Cond.laysFinal "CommitPrefixesModel" "CommitPrefixesModel" "logMany" "[I" ∈ TT := tt_mem (tb_5 _ (List.mem_of_getElem? (i := 68) rfl)) rfl
theorem k5_70 : Jvm.Cond.laysFinal "CommitPrefixesModel" "CommitPrefixesModel" "counted" "[I" ∈ TT := tt_mem (tb_5 _ (List.mem_of_getElem? (i := 70) rfl)) rfl
theorem k5_72 : Jvm.Cond.laysFinal "CommitPrefixesModel" "CommitPrefixesModel" "which" "[I" ∈ TT := tt_mem (tb_5 _ (List.mem_of_getElem? (i := 72) rfl)) rfl
theorem k5_74 : Jvm.Cond.laysFinal "CommitPrefixesModel" "CommitPrefixesModel" "sender" "[I" ∈ TT := tt_mem (tb_5 _ (List.mem_of_getElem? (i := 74) rfl)) rfl
theorem k5_76 : Jvm.Cond.laysFinal "CommitPrefixesModel" "CommitPrefixesModel" "goal" "[I" ∈ TT := tt_mem (tb_5 _ (List.mem_of_getElem? (i := 76) rfl)) rfl
theorem k5_78 : Jvm.Cond.laysFinal "CommitPrefixesModel" "CommitPrefixesModel" "sentAt" "[I" ∈ TT := tt_mem (tb_5 _ (List.mem_of_getElem? (i := 78) rfl)) rfl
theorem k5_80 : Jvm.Cond.laysFinal "CommitPrefixesModel" "CommitPrefixesModel" "fate" "[I" ∈ TT := tt_mem (tb_5 _ (List.mem_of_getElem? (i := 80) rfl)) rfl
theorem k5_82 : Jvm.Cond.lays "CommitPrefixesModel" "CommitPrefixesModel" "messages" "I" ∈ TT := tt_mem (tb_5 _ (List.mem_of_getElem? (i := 82) rfl)) rfl
theorem k5_84 : Jvm.Cond.lays "CommitPrefixesModel" "CommitPrefixesModel" "tick" "I" ∈ TT := tt_mem (tb_5 _ (List.mem_of_getElem? (i := 84) rfl)) rfl
theorem k5_86 : Jvm.Cond.lays "CommitPrefixesModel" "CommitPrefixesModel" "firstNew" "I" ∈ TT := tt_mem (tb_5 _ (List.mem_of_getElem? (i := 86) rfl)) rfl
theorem k5_88 : Jvm.Cond.lays "CommitPrefixesModel" "CommitPrefixesModel" "decision" "I" ∈ TT := tt_mem (tb_5 _ (List.mem_of_getElem? (i := 88) rfl)) rfl
theorem k5_90 : Jvm.Cond.laysFinal "CommitPrefixesModel" "CommitPrefixesModel" "stateThen" "[I" ∈ TT := tt_mem (tb_5 _ (List.mem_of_getElem? (i := 90) rfl)) rfl
theorem k5_92 : Jvm.Cond.laysFinal "CommitPrefixesModel" "CommitPrefixesModel" "recordsThen" "[I" ∈ TT := tt_mem (tb_5 _ (List.mem_of_getElem? (i := 92) rfl)) rfl
theorem k5_94 : Jvm.Cond.laysFinal "CommitPrefixesModel" "CommitPrefixesModel" "sentThen" "[I" ∈ TT := tt_mem (tb_5 _ (List.mem_of_getElem? (i := 94) rfl)) rfl
theorem k5_96 : Jvm.Cond.laysFinal "CommitPrefixesModel" "CommitPrefixesModel" "held" "[I" ∈ TT := tt_mem (tb_5 _ (List.mem_of_getElem? (i := 96) rfl)) rfl
theorem k5_98 : Jvm.Cond.laysFinal "CommitPrefixesModel" "CommitPrefixesModel" "size" "[I" ∈ TT := tt_mem (tb_5 _ (List.mem_of_getElem? (i := 98) rfl)) rfl
theorem k5_100 : Jvm.Cond.laysFinal "CommitPrefixesModel" "CommitPrefixesModel" "elements" "[J" ∈ TT := tt_mem (tb_5 _ (List.mem_of_getElem? (i := 100) rfl)) rfl
theorem k5_102 : Jvm.Cond.laysFinal "CommitPrefixesModel" "CommitPrefixesModel" "item" "[I" ∈ TT := tt_mem (tb_5 _ (List.mem_of_getElem? (i := 102) rfl)) rfl
theorem k5_104 : Jvm.Cond.laysFinal "CommitPrefixesModel" "CommitPrefixesModel" "first" "[I" ∈ TT := tt_mem (tb_5 _ (List.mem_of_getElem? (i := 104) rfl)) rfl
theorem k5_106 : Jvm.Cond.laysFinal "CommitPrefixesModel" "CommitPrefixesModel" "second" "[I" ∈ TT := tt_mem (tb_5 _ (List.mem_of_getElem? (i := 106) rfl)) rfl
theorem k5_108 : Jvm.Cond.laysFinal "CommitPrefixesModel" "CommitPrefixesModel" "third" "[I" ∈ TT := tt_mem (tb_5 _ (List.mem_of_getElem? (i := 108) rfl)) rfl
theorem k5_110 : Jvm.Cond.lays "CommitPrefixesModel" "CommitPrefixesModel" "reading" "I" ∈ TT := tt_mem (tb_5 _ (List.mem_of_getElem? (i := 110) rfl)) rfl
theorem k5_112 : Jvm.Cond.lays "CommitPrefixesModel" "CommitPrefixesModel" "faultAt" "I" ∈ TT := tt_mem (tb_5 _ (List.mem_of_getElem? (i := 112) rfl)) rfl
theorem k5_114 : Jvm.Cond.lays "CommitPrefixesModel" "CommitPrefixesModel" "items" "I" ∈ TT := tt_mem (tb_5 _ (List.mem_of_getElem? (i := 114) rfl)) rfl
theorem k5_116 : Jvm.Cond.lays "CommitPrefixesModel" "CommitPrefixesModel" "shelfRead" "I" ∈ TT := tt_mem (tb_5 _ (List.mem_of_getElem? (i := 116) rfl)) rfl
theorem k5_118 : Jvm.Cond.laysFinal "CommitPrefixesModel" "CommitPrefixesModel" "kept" "[I" ∈ TT := tt_mem (tb_5 _ (List.mem_of_getElem? (i := 118) rfl)) rfl
theorem k5_120 : Jvm.Cond.lays "CommitPrefixesModel" "CommitPrefixesModel" "hasImage" "Z" ∈ TT := tt_mem (tb_5 _ (List.mem_of_getElem? (i := 120) rfl)) rfl
theorem k5_122 : Jvm.Cond.lays "CommitPrefixesModel" "CommitPrefixesModel" "isKeeping" "Z" ∈ TT := tt_mem (tb_5 _ (List.mem_of_getElem? (i := 122) rfl)) rfl
theorem k5_124 : Jvm.Cond.lays "CommitPrefixesModel" "CommitPrefixesModel" "cursor" "I" ∈ TT := tt_mem (tb_5 _ (List.mem_of_getElem? (i := 124) rfl)) rfl
theorem k5_126 : Jvm.Cond.superclass "CommitPrefixesModel" "java/lang/Object" ∈ TT := tt_mem (tb_5 _ (List.mem_of_getElem? (i := 126) rfl)) rfl
theorem k5_127 : Jvm.Cond.methodLink "CommitPrefixesLaw" 17 ⟨"CommitPrefixesModel", "row", "(III)I"⟩ ∈ TT := tt_mem (tb_5 _ (List.mem_of_getElem? (i := 127) rfl)) rfl
theorem k5_128 : Jvm.Cond.instanceMethod ⟨"CommitPrefixesModel", "row", "(III)I"⟩ ∈ TT := tt_mem (tb_5 _ (List.mem_of_getElem? (i := 128) rfl)) rfl
theorem k5_129 : Jvm.Cond.selects "CommitPrefixesModel" ⟨"CommitPrefixesModel", "row", "(III)I"⟩ ⟨"CommitPrefixesModel", "row", "(III)I"⟩ ∈ TT := tt_mem (tb_5 _ (List.mem_of_getElem? (i := 129) rfl)) rfl
theorem k5_130 : Jvm.Cond.code ⟨"CommitPrefixesModel", "row", "(III)I"⟩ prog_12_method_40_code 6 (Option.some Jvm.ClassFile.FieldType.int) ∈ TT := tt_mem (tb_5 _ (List.mem_of_getElem? (i := 130) rfl)) rfl
theorem k5_131 : Jvm.Cond.methodLink "CommitPrefixesModel" 217 ⟨"CommitPrefixesModel", "isShelf", "(I)Z"⟩ ∈ TT := tt_mem (tb_5 _ (List.mem_of_getElem? (i := 131) rfl)) rfl
theorem k5_132 : Jvm.Cond.static ⟨"CommitPrefixesModel", "isShelf", "(I)Z"⟩ ∈ TT := tt_mem (tb_5 _ (List.mem_of_getElem? (i := 132) rfl)) rfl
theorem k5_133 : Jvm.Cond.code ⟨"CommitPrefixesModel", "isShelf", "(I)Z"⟩ prog_12_method_36_code 1 (Option.some Jvm.ClassFile.FieldType.boolean) ∈ TT := tt_mem (tb_5 _ (List.mem_of_getElem? (i := 133) rfl)) rfl
theorem k5_134 : Jvm.Cond.methodLink "CommitPrefixesModel" 108 ⟨"CommitPrefixesModel", "isIn", "(III)Z"⟩ ∈ TT := tt_mem (tb_5 _ (List.mem_of_getElem? (i := 134) rfl)) rfl
theorem k5_135 : Jvm.Cond.static ⟨"CommitPrefixesModel", "isIn", "(III)Z"⟩ ∈ TT := tt_mem (tb_5 _ (List.mem_of_getElem? (i := 135) rfl)) rfl
theorem k5_136 : Jvm.Cond.code ⟨"CommitPrefixesModel", "isIn", "(III)Z"⟩ prog_12_method_3_code 3 (Option.some Jvm.ClassFile.FieldType.boolean) ∈ TT := tt_mem (tb_5 _ (List.mem_of_getElem? (i := 136) rfl)) rfl
theorem k5_137 : Jvm.Cond.methodLink "CommitPrefixesModel" 221 ⟨"CommitPrefixesModel", "no", "(I)I"⟩ ∈ TT := tt_mem (tb_5 _ (List.mem_of_getElem? (i := 137) rfl)) rfl
theorem k5_139 : Jvm.Cond.instanceMethod ⟨"CommitPrefixesModel", "no", "(I)I"⟩ ∈ TT := tt_mem (tb_5 _ (List.mem_of_getElem? (i := 139) rfl)) rfl
theorem k5_140 : Jvm.Cond.code ⟨"CommitPrefixesModel", "no", "(I)I"⟩ prog_12_method_2_code 2 (Option.some Jvm.ClassFile.FieldType.int) ∈ TT := tt_mem (tb_5 _ (List.mem_of_getElem? (i := 140) rfl)) rfl
theorem k5_141 : Jvm.Cond.methodLink "CommitPrefixesLaw" 24 ⟨"CommitPrefixesModel", "set", "(IIJ)I"⟩ ∈ TT := tt_mem (tb_5 _ (List.mem_of_getElem? (i := 141) rfl)) rfl
theorem k5_142 : Jvm.Cond.instanceMethod ⟨"CommitPrefixesModel", "set", "(IIJ)I"⟩ ∈ TT := tt_mem (tb_5 _ (List.mem_of_getElem? (i := 142) rfl)) rfl
theorem k5_143 : Jvm.Cond.selects "CommitPrefixesModel" ⟨"CommitPrefixesModel", "set", "(IIJ)I"⟩ ⟨"CommitPrefixesModel", "set", "(IIJ)I"⟩ ∈ TT := tt_mem (tb_5 _ (List.mem_of_getElem? (i := 143) rfl)) rfl
theorem k5_144 : Jvm.Cond.code ⟨"CommitPrefixesModel", "set", "(IIJ)I"⟩ prog_12_method_41_code 6 (Option.some Jvm.ClassFile.FieldType.int) ∈ TT := tt_mem (tb_5 _ (List.mem_of_getElem? (i := 144) rfl)) rfl
theorem k5_145 : Jvm.Cond.methodLink "CommitPrefixesModel" 225 ⟨"CommitPrefixesModel", "notRow", "(I)I"⟩ ∈ TT := tt_mem (tb_5 _ (List.mem_of_getElem? (i := 145) rfl)) rfl
theorem k5_147 : Jvm.Cond.instanceMethod ⟨"CommitPrefixesModel", "notRow", "(I)I"⟩ ∈ TT := tt_mem (tb_5 _ (List.mem_of_getElem? (i := 147) rfl)) rfl
theorem k5_148 : Jvm.Cond.code ⟨"CommitPrefixesModel", "notRow", "(I)I"⟩ prog_12_method_39_code 2 (Option.some Jvm.ClassFile.FieldType.int) ∈ TT := tt_mem (tb_5 _ (List.mem_of_getElem? (i := 148) rfl)) rfl
theorem k5_149 : Jvm.Cond.methodLink "CommitPrefixesModel" 228 ⟨"CommitPrefixesModel", "lowest", "(IJ)J"⟩ ∈ TT := tt_mem (tb_5 _ (List.mem_of_getElem? (i := 149) rfl)) rfl
theorem k5_150 : Jvm.Cond.static ⟨"CommitPrefixesModel", "lowest", "(IJ)J"⟩ ∈ TT := tt_mem (tb_5 _ (List.mem_of_getElem? (i := 150) rfl)) rfl
theorem k5_151 : Jvm.Cond.code ⟨"CommitPrefixesModel", "lowest", "(IJ)J"⟩ prog_12_method_38_code 3 (Option.some Jvm.ClassFile.FieldType.long) ∈ TT := tt_mem (tb_5 _ (List.mem_of_getElem? (i := 151) rfl)) rfl
theorem k5_152 : Jvm.Cond.methodLink "CommitPrefixesLaw" 29 ⟨"CommitPrefixesModel", "copy", "(IIIII)I"⟩ ∈ TT := tt_mem (tb_5 _ (List.mem_of_getElem? (i := 152) rfl)) rfl
theorem k5_153 : Jvm.Cond.instanceMethod ⟨"CommitPrefixesModel", "copy", "(IIIII)I"⟩ ∈ TT := tt_mem (tb_5 _ (List.mem_of_getElem? (i := 153) rfl)) rfl
theorem k5_154 : Jvm.Cond.selects "CommitPrefixesModel" ⟨"CommitPrefixesModel", "copy", "(IIIII)I"⟩ ⟨"CommitPrefixesModel", "copy", "(IIIII)I"⟩ ∈ TT := tt_mem (tb_5 _ (List.mem_of_getElem? (i := 154) rfl)) rfl
theorem k5_155 : Jvm.Cond.code ⟨"CommitPrefixesModel", "copy", "(IIIII)I"⟩ prog_12_method_43_code 11 (Option.some Jvm.ClassFile.FieldType.int) ∈ TT := tt_mem (tb_5 _ (List.mem_of_getElem? (i := 155) rfl)) rfl
theorem k5_156 : Jvm.Cond.methodLink "CommitPrefixesModel" 232 ⟨"CommitPrefixesModel", "notCopied", "(IIIII)I"⟩ ∈ TT := tt_mem (tb_5 _ (List.mem_of_getElem? (i := 156) rfl)) rfl
theorem k5_158 : Jvm.Cond.instanceMethod ⟨"CommitPrefixesModel", "notCopied", "(IIIII)I"⟩ ∈ TT := tt_mem (tb_5 _ (List.mem_of_getElem? (i := 158) rfl)) rfl
theorem k5_159 : Jvm.Cond.code ⟨"CommitPrefixesModel", "notCopied", "(IIIII)I"⟩ prog_12_method_42_code 7 (Option.some Jvm.ClassFile.FieldType.int) ∈ TT := tt_mem (tb_5 _ (List.mem_of_getElem? (i := 159) rfl)) rfl
theorem k5_160 : Jvm.Cond.methodLink "CommitPrefixesLaw" 34 ⟨"CommitPrefixesModel", "element", "(II)J"⟩ ∈ TT := tt_mem (tb_5 _ (List.mem_of_getElem? (i := 160) rfl)) rfl
theorem k5_161 : Jvm.Cond.instanceMethod ⟨"CommitPrefixesModel", "element", "(II)J"⟩ ∈ TT := tt_mem (tb_5 _ (List.mem_of_getElem? (i := 161) rfl)) rfl
theorem k5_162 : Jvm.Cond.selects "CommitPrefixesModel" ⟨"CommitPrefixesModel", "element", "(II)J"⟩ ⟨"CommitPrefixesModel", "element", "(II)J"⟩ ∈ TT := tt_mem (tb_5 _ (List.mem_of_getElem? (i := 162) rfl)) rfl
theorem k5_163 : Jvm.Cond.code ⟨"CommitPrefixesModel", "element", "(II)J"⟩ prog_12_method_44_code 3 (Option.some Jvm.ClassFile.FieldType.long) ∈ TT := tt_mem (tb_5 _ (List.mem_of_getElem? (i := 163) rfl)) rfl
theorem k5_164 : Jvm.Cond.methodLink "CommitPrefixesModel" 236 ⟨"CommitPrefixesModel", "isRow", "(I)Z"⟩ ∈ TT := tt_mem (tb_5 _ (List.mem_of_getElem? (i := 164) rfl)) rfl
theorem k5_166 : Jvm.Cond.instanceMethod ⟨"CommitPrefixesModel", "isRow", "(I)Z"⟩ ∈ TT := tt_mem (tb_5 _ (List.mem_of_getElem? (i := 166) rfl)) rfl
theorem k5_167 : Jvm.Cond.code ⟨"CommitPrefixesModel", "isRow", "(I)Z"⟩ prog_12_method_37_code 2 (Option.some Jvm.ClassFile.FieldType.boolean) ∈ TT := tt_mem (tb_5 _ (List.mem_of_getElem? (i := 167) rfl)) rfl
theorem k5_168 : Jvm.Cond.methodLink "CommitPrefixesLaw" 39 ⟨"CommitPrefixesModel", "show", "(II)I"⟩ ∈ TT := tt_mem (tb_5 _ (List.mem_of_getElem? (i := 168) rfl)) rfl
theorem k5_169 : Jvm.Cond.instanceMethod ⟨"CommitPrefixesModel", "show", "(II)I"⟩ ∈ TT := tt_mem (tb_5 _ (List.mem_of_getElem? (i := 169) rfl)) rfl
theorem k5_170 : Jvm.Cond.selects "CommitPrefixesModel" ⟨"CommitPrefixesModel", "show", "(II)I"⟩ ⟨"CommitPrefixesModel", "show", "(II)I"⟩ ∈ TT := tt_mem (tb_5 _ (List.mem_of_getElem? (i := 170) rfl)) rfl
theorem k5_171 : Jvm.Cond.code ⟨"CommitPrefixesModel", "show", "(II)I"⟩ prog_12_method_45_code 3 (Option.some Jvm.ClassFile.FieldType.int) ∈ TT := tt_mem (tb_5 _ (List.mem_of_getElem? (i := 171) rfl)) rfl
theorem k5_172 : Jvm.Cond.methodLink "CommitPrefixesModel" 239 ⟨"CommitPrefixesModel", "runs", "()V"⟩ ∈ TT := tt_mem (tb_5 _ (List.mem_of_getElem? (i := 172) rfl)) rfl
theorem k5_174 : Jvm.Cond.instanceMethod ⟨"CommitPrefixesModel", "runs", "()V"⟩ ∈ TT := tt_mem (tb_5 _ (List.mem_of_getElem? (i := 174) rfl)) rfl
theorem k5_175 : Jvm.Cond.code ⟨"CommitPrefixesModel", "runs", "()V"⟩ prog_12_method_35_code 2 Option.none ∈ TT := tt_mem (tb_5 _ (List.mem_of_getElem? (i := 175) rfl)) rfl
theorem k5_176 : Jvm.Cond.methodLink "CommitPrefixesModel" 214 ⟨"CommitPrefixesModel", "goesTick", "()V"⟩ ∈ TT := tt_mem (tb_5 _ (List.mem_of_getElem? (i := 176) rfl)) rfl
theorem k5_178 : Jvm.Cond.instanceMethod ⟨"CommitPrefixesModel", "goesTick", "()V"⟩ ∈ TT := tt_mem (tb_5 _ (List.mem_of_getElem? (i := 178) rfl)) rfl
theorem k5_179 : Jvm.Cond.code ⟨"CommitPrefixesModel", "goesTick", "()V"⟩ prog_12_method_34_code 3 Option.none ∈ TT := tt_mem (tb_5 _ (List.mem_of_getElem? (i := 179) rfl)) rfl
theorem k5_180 : Jvm.Cond.methodLink "CommitPrefixesModel" 199 ⟨"CommitPrefixesModel", "goesSites", "()V"⟩ ∈ TT := tt_mem (tb_5 _ (List.mem_of_getElem? (i := 180) rfl)) rfl
theorem k5_182 : Jvm.Cond.instanceMethod ⟨"CommitPrefixesModel", "goesSites", "()V"⟩ ∈ TT := tt_mem (tb_5 _ (List.mem_of_getElem? (i := 182) rfl)) rfl
theorem k5_183 : Jvm.Cond.code ⟨"CommitPrefixesModel", "goesSites", "()V"⟩ prog_12_method_33_code 2 Option.none ∈ TT := tt_mem (tb_5 _ (List.mem_of_getElem? (i := 183) rfl)) rfl
theorem k5_184 : Jvm.Cond.methodLink "CommitPrefixesModel" 196 ⟨"CommitPrefixesModel", "recovers", "(I)V"⟩ ∈ TT := tt_mem (tb_5 _ (List.mem_of_getElem? (i := 184) rfl)) rfl
theorem k5_186 : Jvm.Cond.instanceMethod ⟨"CommitPrefixesModel", "recovers", "(I)V"⟩ ∈ TT := tt_mem (tb_5 _ (List.mem_of_getElem? (i := 186) rfl)) rfl
theorem k5_187 : Jvm.Cond.code ⟨"CommitPrefixesModel", "recovers", "(I)V"⟩ prog_12_method_30_code 2 Option.none ∈ TT := tt_mem (tb_5 _ (List.mem_of_getElem? (i := 187) rfl)) rfl
theorem k5_188 : Jvm.Cond.methodLink "CommitPrefixesModel" 178 ⟨"CommitPrefixesModel", "recoversCoordinator", "()V"⟩ ∈ TT := tt_mem (tb_5 _ (List.mem_of_getElem? (i := 188) rfl)) rfl
theorem k5_190 : Jvm.Cond.instanceMethod ⟨"CommitPrefixesModel", "recoversCoordinator", "()V"⟩ ∈ TT := tt_mem (tb_5 _ (List.mem_of_getElem? (i := 190) rfl)) rfl
theorem k5_191 : Jvm.Cond.code ⟨"CommitPrefixesModel", "recoversCoordinator", "()V"⟩ prog_12_method_28_code 2 Option.none ∈ TT := tt_mem (tb_5 _ (List.mem_of_getElem? (i := 191) rfl)) rfl
theorem k5_192 : Jvm.Cond.methodLink "CommitPrefixesModel" 174 ⟨"CommitPrefixesModel", "lastOf", "(II)I"⟩ ∈ TT := tt_mem (tb_5 _ (List.mem_of_getElem? (i := 192) rfl)) rfl
theorem k5_194 : Jvm.Cond.instanceMethod ⟨"CommitPrefixesModel", "lastOf", "(II)I"⟩ ∈ TT := tt_mem (tb_5 _ (List.mem_of_getElem? (i := 194) rfl)) rfl
theorem k5_195 : Jvm.Cond.code ⟨"CommitPrefixesModel", "lastOf", "(II)I"⟩ prog_12_method_27_code 3 (Option.some Jvm.ClassFile.FieldType.int) ∈ TT := tt_mem (tb_5 _ (List.mem_of_getElem? (i := 195) rfl)) rfl
theorem k5_196 : Jvm.Cond.methodLink "CommitPrefixesModel" 129 ⟨"CommitPrefixesModel", "sendsAll", "(I)V"⟩ ∈ TT := tt_mem (tb_5 _ (List.mem_of_getElem? (i := 196) rfl)) rfl
theorem k5_198 : Jvm.Cond.instanceMethod ⟨"CommitPrefixesModel", "sendsAll", "(I)V"⟩ ∈ TT := tt_mem (tb_5 _ (List.mem_of_getElem? (i := 198) rfl)) rfl
theorem k5_199 : Jvm.Cond.code ⟨"CommitPrefixesModel", "sendsAll", "(I)V"⟩ prog_12_method_8_code 3 Option.none ∈ TT := tt_mem (tb_5 _ (List.mem_of_getElem? (i := 199) rfl)) rfl
theorem k5_200 : Jvm.Cond.methodLink "CommitPrefixesModel" 118 ⟨"CommitPrefixesModel", "sends", "(III)V"⟩ ∈ TT := tt_mem (tb_5 _ (List.mem_of_getElem? (i := 200) rfl)) rfl
theorem k5_202 : Jvm.Cond.instanceMethod ⟨"CommitPrefixesModel", "sends", "(III)V"⟩ ∈ TT := tt_mem (tb_5 _ (List.mem_of_getElem? (i := 202) rfl)) rfl
theorem k5_203 : Jvm.Cond.code ⟨"CommitPrefixesModel", "sends", "(III)V"⟩ prog_12_method_7_code 4 Option.none ∈ TT := tt_mem (tb_5 _ (List.mem_of_getElem? (i := 203) rfl)) rfl
theorem k5_204 : Jvm.Cond.methodLink "CommitPrefixesModel" 133 ⟨"CommitPrefixesModel", "startsTimer", "(I)V"⟩ ∈ TT := tt_mem (tb_5 _ (List.mem_of_getElem? (i := 204) rfl)) rfl
theorem k5_206 : Jvm.Cond.instanceMethod ⟨"CommitPrefixesModel", "startsTimer", "(I)V"⟩ ∈ TT := tt_mem (tb_5 _ (List.mem_of_getElem? (i := 206) rfl)) rfl
theorem k5_207 : Jvm.Cond.code ⟨"CommitPrefixesModel", "startsTimer", "(I)V"⟩ prog_12_method_10_code 2 Option.none ∈ TT := tt_mem (tb_5 _ (List.mem_of_getElem? (i := 207) rfl)) rfl
theorem k5_208 : Jvm.Cond.methodLink "CommitPrefixesModel" 149 ⟨"CommitPrefixesModel", "decidesAbort", "()V"⟩ ∈ TT := tt_mem (tb_5 _ (List.mem_of_getElem? (i := 208) rfl)) rfl
theorem k5_210 : Jvm.Cond.instanceMethod ⟨"CommitPrefixesModel", "decidesAbort", "()V"⟩ ∈ TT := tt_mem (tb_5 _ (List.mem_of_getElem? (i := 210) rfl)) rfl
theorem k5_211 : Jvm.Cond.code ⟨"CommitPrefixesModel", "decidesAbort", "()V"⟩ prog_12_method_12_code 1 Option.none ∈ TT := tt_mem (tb_5 _ (List.mem_of_getElem? (i := 211) rfl)) rfl
theorem k5_212 : Jvm.Cond.methodLink "CommitPrefixesModel" 125 ⟨"CommitPrefixesModel", "notes", "(II)V"⟩ ∈ TT := tt_mem (tb_5 _ (List.mem_of_getElem? (i := 212) rfl)) rfl
theorem k5_214 : Jvm.Cond.instanceMethod ⟨"CommitPrefixesModel", "notes", "(II)V"⟩ ∈ TT := tt_mem (tb_5 _ (List.mem_of_getElem? (i := 214) rfl)) rfl
theorem k5_215 : Jvm.Cond.code ⟨"CommitPrefixesModel", "notes", "(II)V"⟩ prog_12_method_9_code 3 Option.none ∈ TT := tt_mem (tb_5 _ (List.mem_of_getElem? (i := 215) rfl)) rfl
theorem k5_216 : Jvm.Cond.methodLink "CommitPrefixesModel" 181 ⟨"CommitPrefixesModel", "recoversParticipant", "(I)V"⟩ ∈ TT := tt_mem (tb_5 _ (List.mem_of_getElem? (i := 216) rfl)) rfl
theorem k5_218 : Jvm.Cond.instanceMethod ⟨"CommitPrefixesModel", "recoversParticipant", "(I)V"⟩ ∈ TT := tt_mem (tb_5 _ (List.mem_of_getElem? (i := 218) rfl)) rfl
theorem k5_219 : Jvm.Cond.code ⟨"CommitPrefixesModel", "recoversParticipant", "(I)V"⟩ prog_12_method_29_code 2 Option.none ∈ TT := tt_mem (tb_5 _ (List.mem_of_getElem? (i := 219) rfl)) rfl
theorem k5_220 : Jvm.Cond.methodLink "CommitPrefixesModel" 205 ⟨"CommitPrefixesModel", "arrives", "(I)V"⟩ ∈ TT := tt_mem (tb_5 _ (List.mem_of_getElem? (i := 220) rfl)) rfl
theorem k5_222 : Jvm.Cond.instanceMethod ⟨"CommitPrefixesModel", "arrives", "(I)V"⟩ ∈ TT := tt_mem (tb_5 _ (List.mem_of_getElem? (i := 222) rfl)) rfl
theorem k5_223 : Jvm.Cond.code ⟨"CommitPrefixesModel", "arrives", "(I)V"⟩ prog_12_method_31_code 3 Option.none ∈ TT := tt_mem (tb_5 _ (List.mem_of_getElem? (i := 223) rfl)) rfl
theorem k5_224 : Jvm.Cond.methodLink "CommitPrefixesModel" 184 ⟨"CommitPrefixesModel", "comesToCoordinator", "(II)V"⟩ ∈ TT := tt_mem (tb_5 _ (List.mem_of_getElem? (i := 224) rfl)) rfl
theorem k5_226 : Jvm.Cond.instanceMethod ⟨"CommitPrefixesModel", "comesToCoordinator", "(II)V"⟩ ∈ TT := tt_mem (tb_5 _ (List.mem_of_getElem? (i := 226) rfl)) rfl
theorem k5_227 : Jvm.Cond.code ⟨"CommitPrefixesModel", "comesToCoordinator", "(II)V"⟩ prog_12_method_18_code 3 Option.none ∈ TT := tt_mem (tb_5 _ (List.mem_of_getElem? (i := 227) rfl)) rfl
theorem k5_228 : Jvm.Cond.methodLink "CommitPrefixesModel" 139 ⟨"CommitPrefixesModel", "countsAll", "(II)Z"⟩ ∈ TT := tt_mem (tb_5 _ (List.mem_of_getElem? (i := 228) rfl)) rfl
theorem k5_230 : Jvm.Cond.instanceMethod ⟨"CommitPrefixesModel", "countsAll", "(II)Z"⟩ ∈ TT := tt_mem (tb_5 _ (List.mem_of_getElem? (i := 230) rfl)) rfl
theorem k5_231 : Jvm.Cond.code ⟨"CommitPrefixesModel", "countsAll", "(II)Z"⟩ prog_12_method_15_code 3 (Option.some Jvm.ClassFile.FieldType.boolean) ∈ TT := tt_mem (tb_5 _ (List.mem_of_getElem? (i := 231) rfl)) rfl
theorem k5_232 : Jvm.Cond.methodLink "CommitPrefixesModel" 143 ⟨"CommitPrefixesModel", "decidesCommit", "()V"⟩ ∈ TT := tt_mem (tb_5 _ (List.mem_of_getElem? (i := 232) rfl)) rfl
theorem k5_234 : Jvm.Cond.instanceMethod ⟨"CommitPrefixesModel", "decidesCommit", "()V"⟩ ∈ TT := tt_mem (tb_5 _ (List.mem_of_getElem? (i := 234) rfl)) rfl
theorem k5_235 : Jvm.Cond.code ⟨"CommitPrefixesModel", "decidesCommit", "()V"⟩ prog_12_method_11_code 1 Option.none ∈ TT := tt_mem (tb_5 _ (List.mem_of_getElem? (i := 235) rfl)) rfl
theorem k5_236 : Jvm.Cond.methodLink "CommitPrefixesModel" 146 ⟨"CommitPrefixesModel", "becomesPre", "()V"⟩ ∈ TT := tt_mem (tb_5 _ (List.mem_of_getElem? (i := 236) rfl)) rfl
theorem k5_238 : Jvm.Cond.instanceMethod ⟨"CommitPrefixesModel", "becomesPre", "()V"⟩ ∈ TT := tt_mem (tb_5 _ (List.mem_of_getElem? (i := 238) rfl)) rfl
theorem k5_239 : Jvm.Cond.code ⟨"CommitPrefixesModel", "becomesPre", "()V"⟩ prog_12_method_14_code 1 Option.none ∈ TT := tt_mem (tb_5 _ (List.mem_of_getElem? (i := 239) rfl)) rfl
theorem k6_0 : Jvm.Cond.methodLink "CommitPrefixesModel" 152 ⟨"CommitPrefixesModel", "hasDecided", "()Z"⟩ ∈ TT := tt_mem (tb_6 _ (List.mem_of_getElem? (i := 0) rfl)) rfl
theorem k6_2 : Jvm.Cond.instanceMethod ⟨"CommitPrefixesModel", "hasDecided", "()Z"⟩ ∈ TT := tt_mem (tb_6 _ (List.mem_of_getElem? (i := 2) rfl)) rfl
theorem k6_3 : Jvm.Cond.code ⟨"CommitPrefixesModel", "hasDecided", "()Z"⟩ prog_12_method_16_code 1 (Option.some Jvm.ClassFile.FieldType.boolean) ∈ TT := tt_mem (tb_6 _ (List.mem_of_getElem? (i := 3) rfl)) rfl
theorem k6_4 : Jvm.Cond.methodLink "CommitPrefixesModel" 156 ⟨"CommitPrefixesModel", "ends", "()V"⟩ ∈ TT := tt_mem (tb_6 _ (List.mem_of_getElem? (i := 4) rfl)) rfl
theorem k6_6 : Jvm.Cond.instanceMethod ⟨"CommitPrefixesModel", "ends", "()V"⟩ ∈ TT := tt_mem (tb_6 _ (List.mem_of_getElem? (i := 6) rfl)) rfl
theorem k6_7 : Jvm.Cond.code ⟨"CommitPrefixesModel", "ends", "()V"⟩ prog_12_method_17_code 1 Option.none ∈ TT := tt_mem (tb_6 _ (List.mem_of_getElem? (i := 7) rfl)) rfl
theorem k6_8 : Jvm.Cond.methodLink "CommitPrefixesModel" 187 ⟨"CommitPrefixesModel", "comesToParticipant", "(III)V"⟩ ∈ TT := tt_mem (tb_6 _ (List.mem_of_getElem? (i := 8) rfl)) rfl
theorem k6_10 : Jvm.Cond.instanceMethod ⟨"CommitPrefixesModel", "comesToParticipant", "(III)V"⟩ ∈ TT := tt_mem (tb_6 _ (List.mem_of_getElem? (i := 10) rfl)) rfl
theorem k6_11 : Jvm.Cond.code ⟨"CommitPrefixesModel", "comesToParticipant", "(III)V"⟩ prog_12_method_24_code 4 Option.none ∈ TT := tt_mem (tb_6 _ (List.mem_of_getElem? (i := 11) rfl)) rfl
theorem k6_12 : Jvm.Cond.methodLink "CommitPrefixesModel" 159 ⟨"CommitPrefixesModel", "comesPrepare", "(I)V"⟩ ∈ TT := tt_mem (tb_6 _ (List.mem_of_getElem? (i := 12) rfl)) rfl
theorem k6_14 : Jvm.Cond.instanceMethod ⟨"CommitPrefixesModel", "comesPrepare", "(I)V"⟩ ∈ TT := tt_mem (tb_6 _ (List.mem_of_getElem? (i := 14) rfl)) rfl
theorem k6_15 : Jvm.Cond.code ⟨"CommitPrefixesModel", "comesPrepare", "(I)V"⟩ prog_12_method_20_code 2 Option.none ∈ TT := tt_mem (tb_6 _ (List.mem_of_getElem? (i := 15) rfl)) rfl
theorem k6_16 : Jvm.Cond.methodLink "CommitPrefixesModel" 162 ⟨"CommitPrefixesModel", "comesPre", "(I)V"⟩ ∈ TT := tt_mem (tb_6 _ (List.mem_of_getElem? (i := 16) rfl)) rfl
theorem k6_18 : Jvm.Cond.instanceMethod ⟨"CommitPrefixesModel", "comesPre", "(I)V"⟩ ∈ TT := tt_mem (tb_6 _ (List.mem_of_getElem? (i := 18) rfl)) rfl
theorem k6_19 : Jvm.Cond.code ⟨"CommitPrefixesModel", "comesPre", "(I)V"⟩ prog_12_method_21_code 2 Option.none ∈ TT := tt_mem (tb_6 _ (List.mem_of_getElem? (i := 19) rfl)) rfl
theorem k6_20 : Jvm.Cond.methodLink "CommitPrefixesModel" 165 ⟨"CommitPrefixesModel", "comesDecision", "(II)V"⟩ ∈ TT := tt_mem (tb_6 _ (List.mem_of_getElem? (i := 20) rfl)) rfl
theorem k6_22 : Jvm.Cond.instanceMethod ⟨"CommitPrefixesModel", "comesDecision", "(II)V"⟩ ∈ TT := tt_mem (tb_6 _ (List.mem_of_getElem? (i := 22) rfl)) rfl
theorem k6_23 : Jvm.Cond.code ⟨"CommitPrefixesModel", "comesDecision", "(II)V"⟩ prog_12_method_22_code 3 Option.none ∈ TT := tt_mem (tb_6 _ (List.mem_of_getElem? (i := 23) rfl)) rfl
theorem k6_24 : Jvm.Cond.methodLink "CommitPrefixesModel" 168 ⟨"CommitPrefixesModel", "comesAsk", "(II)V"⟩ ∈ TT := tt_mem (tb_6 _ (List.mem_of_getElem? (i := 24) rfl)) rfl
theorem k6_26 : Jvm.Cond.instanceMethod ⟨"CommitPrefixesModel", "comesAsk", "(II)V"⟩ ∈ TT := tt_mem (tb_6 _ (List.mem_of_getElem? (i := 26) rfl)) rfl
theorem k6_27 : Jvm.Cond.code ⟨"CommitPrefixesModel", "comesAsk", "(II)V"⟩ prog_12_method_23_code 3 Option.none ∈ TT := tt_mem (tb_6 _ (List.mem_of_getElem? (i := 27) rfl)) rfl
theorem k6_28 : Jvm.Cond.methodLink "CommitPrefixesModel" 208 ⟨"CommitPrefixesModel", "beginsCoordinator", "()V"⟩ ∈ TT := tt_mem (tb_6 _ (List.mem_of_getElem? (i := 28) rfl)) rfl
theorem k6_30 : Jvm.Cond.instanceMethod ⟨"CommitPrefixesModel", "beginsCoordinator", "()V"⟩ ∈ TT := tt_mem (tb_6 _ (List.mem_of_getElem? (i := 30) rfl)) rfl
theorem k6_31 : Jvm.Cond.code ⟨"CommitPrefixesModel", "beginsCoordinator", "()V"⟩ prog_12_method_13_code 1 Option.none ∈ TT := tt_mem (tb_6 _ (List.mem_of_getElem? (i := 31) rfl)) rfl
theorem k6_32 : Jvm.Cond.methodLink "CommitPrefixesModel" 211 ⟨"CommitPrefixesModel", "timesOut", "(I)V"⟩ ∈ TT := tt_mem (tb_6 _ (List.mem_of_getElem? (i := 32) rfl)) rfl
theorem k6_34 : Jvm.Cond.instanceMethod ⟨"CommitPrefixesModel", "timesOut", "(I)V"⟩ ∈ TT := tt_mem (tb_6 _ (List.mem_of_getElem? (i := 34) rfl)) rfl
theorem k6_35 : Jvm.Cond.code ⟨"CommitPrefixesModel", "timesOut", "(I)V"⟩ prog_12_method_32_code 2 Option.none ∈ TT := tt_mem (tb_6 _ (List.mem_of_getElem? (i := 35) rfl)) rfl
theorem k6_36 : Jvm.Cond.methodLink "CommitPrefixesModel" 190 ⟨"CommitPrefixesModel", "timesOutCoordinator", "()V"⟩ ∈ TT := tt_mem (tb_6 _ (List.mem_of_getElem? (i := 36) rfl)) rfl
theorem k6_38 : Jvm.Cond.instanceMethod ⟨"CommitPrefixesModel", "timesOutCoordinator", "()V"⟩ ∈ TT := tt_mem (tb_6 _ (List.mem_of_getElem? (i := 38) rfl)) rfl
theorem k6_39 : Jvm.Cond.code ⟨"CommitPrefixesModel", "timesOutCoordinator", "()V"⟩ prog_12_method_19_code 2 Option.none ∈ TT := tt_mem (tb_6 _ (List.mem_of_getElem? (i := 39) rfl)) rfl
theorem k6_40 : Jvm.Cond.methodLink "CommitPrefixesModel" 193 ⟨"CommitPrefixesModel", "timesOutParticipant", "(I)V"⟩ ∈ TT := tt_mem (tb_6 _ (List.mem_of_getElem? (i := 40) rfl)) rfl
theorem k6_42 : Jvm.Cond.instanceMethod ⟨"CommitPrefixesModel", "timesOutParticipant", "(I)V"⟩ ∈ TT := tt_mem (tb_6 _ (List.mem_of_getElem? (i := 42) rfl)) rfl
theorem k6_43 : Jvm.Cond.code ⟨"CommitPrefixesModel", "timesOutParticipant", "(I)V"⟩ prog_12_method_26_code 2 Option.none ∈ TT := tt_mem (tb_6 _ (List.mem_of_getElem? (i := 43) rfl)) rfl
theorem k6_44 : Jvm.Cond.methodLink "CommitPrefixesModel" 171 ⟨"CommitPrefixesModel", "asksAll", "(I)V"⟩ ∈ TT := tt_mem (tb_6 _ (List.mem_of_getElem? (i := 44) rfl)) rfl
theorem k6_46 : Jvm.Cond.instanceMethod ⟨"CommitPrefixesModel", "asksAll", "(I)V"⟩ ∈ TT := tt_mem (tb_6 _ (List.mem_of_getElem? (i := 46) rfl)) rfl
theorem k6_47 : Jvm.Cond.code ⟨"CommitPrefixesModel", "asksAll", "(I)V"⟩ prog_12_method_25_code 3 Option.none ∈ TT := tt_mem (tb_6 _ (List.mem_of_getElem? (i := 47) rfl)) rfl
theorem k6_48 : Jvm.Cond.methodLink "CommitPrefixesLaw" 44 ⟨"CommitPrefixesModel", "holds", "(I)I"⟩ ∈ TT := tt_mem (tb_6 _ (List.mem_of_getElem? (i := 48) rfl)) rfl
theorem k6_49 : Jvm.Cond.instanceMethod ⟨"CommitPrefixesModel", "holds", "(I)I"⟩ ∈ TT := tt_mem (tb_6 _ (List.mem_of_getElem? (i := 49) rfl)) rfl
theorem k6_50 : Jvm.Cond.selects "CommitPrefixesModel" ⟨"CommitPrefixesModel", "holds", "(I)I"⟩ ⟨"CommitPrefixesModel", "holds", "(I)I"⟩ ∈ TT := tt_mem (tb_6 _ (List.mem_of_getElem? (i := 50) rfl)) rfl
theorem k6_51 : Jvm.Cond.code ⟨"CommitPrefixesModel", "holds", "(I)I"⟩ prog_12_method_46_code 2 (Option.some Jvm.ClassFile.FieldType.int) ∈ TT := tt_mem (tb_6 _ (List.mem_of_getElem? (i := 51) rfl)) rfl
theorem k6_52 : Jvm.Cond.methodLink "CommitPrefixesLaw" 48 ⟨"CommitPrefixesModel", "says", "(II)I"⟩ ∈ TT := tt_mem (tb_6 _ (List.mem_of_getElem? (i := 52) rfl)) rfl
theorem k6_53 : Jvm.Cond.instanceMethod ⟨"CommitPrefixesModel", "says", "(II)I"⟩ ∈ TT := tt_mem (tb_6 _ (List.mem_of_getElem? (i := 53) rfl)) rfl
theorem k6_54 : Jvm.Cond.selects "CommitPrefixesModel" ⟨"CommitPrefixesModel", "says", "(II)I"⟩ ⟨"CommitPrefixesModel", "says", "(II)I"⟩ ∈ TT := tt_mem (tb_6 _ (List.mem_of_getElem? (i := 54) rfl)) rfl
theorem k6_55 : Jvm.Cond.code ⟨"CommitPrefixesModel", "says", "(II)I"⟩ prog_12_method_48_code 5 (Option.some Jvm.ClassFile.FieldType.int) ∈ TT := tt_mem (tb_6 _ (List.mem_of_getElem? (i := 55) rfl)) rfl
theorem k6_56 : Jvm.Cond.methodLink "CommitPrefixesModel" 242 ⟨"CommitPrefixesModel", "kindOf", "(I)I"⟩ ∈ TT := tt_mem (tb_6 _ (List.mem_of_getElem? (i := 56) rfl)) rfl
theorem k6_57 : Jvm.Cond.static ⟨"CommitPrefixesModel", "kindOf", "(I)I"⟩ ∈ TT := tt_mem (tb_6 _ (List.mem_of_getElem? (i := 57) rfl)) rfl
theorem k6_58 : Jvm.Cond.code ⟨"CommitPrefixesModel", "kindOf", "(I)I"⟩ prog_12_method_47_code 1 (Option.some Jvm.ClassFile.FieldType.int) ∈ TT := tt_mem (tb_6 _ (List.mem_of_getElem? (i := 58) rfl)) rfl
theorem k6_59 : Jvm.Cond.methodLink "CommitPrefixesLaw" 52 ⟨"CommitPrefixesModel", "read", "(I)I"⟩ ∈ TT := tt_mem (tb_6 _ (List.mem_of_getElem? (i := 59) rfl)) rfl
theorem k6_60 : Jvm.Cond.instanceMethod ⟨"CommitPrefixesModel", "read", "(I)I"⟩ ∈ TT := tt_mem (tb_6 _ (List.mem_of_getElem? (i := 60) rfl)) rfl
theorem k6_61 : Jvm.Cond.selects "CommitPrefixesModel" ⟨"CommitPrefixesModel", "read", "(I)I"⟩ ⟨"CommitPrefixesModel", "read", "(I)I"⟩ ∈ TT := tt_mem (tb_6 _ (List.mem_of_getElem? (i := 61) rfl)) rfl
theorem k6_62 : Jvm.Cond.code ⟨"CommitPrefixesModel", "read", "(I)I"⟩ prog_12_method_60_code 4 (Option.some Jvm.ClassFile.FieldType.int) ∈ TT := tt_mem (tb_6 _ (List.mem_of_getElem? (i := 62) rfl)) rfl
theorem k6_63 : Jvm.Cond.methodLink "CommitPrefixesModel" 285 ⟨"CommitPrefixesModel", "readsAll", "()Z"⟩ ∈ TT := tt_mem (tb_6 _ (List.mem_of_getElem? (i := 63) rfl)) rfl
theorem k6_65 : Jvm.Cond.instanceMethod ⟨"CommitPrefixesModel", "readsAll", "()Z"⟩ ∈ TT := tt_mem (tb_6 _ (List.mem_of_getElem? (i := 65) rfl)) rfl
theorem k6_66 : Jvm.Cond.code ⟨"CommitPrefixesModel", "readsAll", "()Z"⟩ prog_12_method_58_code 2 (Option.some Jvm.ClassFile.FieldType.boolean) ∈ TT := tt_mem (tb_6 _ (List.mem_of_getElem? (i := 66) rfl)) rfl
theorem k6_67 : Jvm.Cond.methodLink "CommitPrefixesModel" 282 ⟨"CommitPrefixesModel", "readsItem", "()Z"⟩ ∈ TT := tt_mem (tb_6 _ (List.mem_of_getElem? (i := 67) rfl)) rfl
theorem k6_69 : Jvm.Cond.instanceMethod ⟨"CommitPrefixesModel", "readsItem", "()Z"⟩ ∈ TT := tt_mem (tb_6 _ (List.mem_of_getElem? (i := 69) rfl)) rfl
theorem k6_70 : Jvm.Cond.code ⟨"CommitPrefixesModel", "readsItem", "()Z"⟩ prog_12_method_57_code 1 (Option.some Jvm.ClassFile.FieldType.boolean) ∈ TT := tt_mem (tb_6 _ (List.mem_of_getElem? (i := 70) rfl)) rfl
theorem k6_71 : Jvm.Cond.methodLink "CommitPrefixesModel" 272 ⟨"CommitPrefixesModel", "readsWord", "()I"⟩ ∈ TT := tt_mem (tb_6 _ (List.mem_of_getElem? (i := 71) rfl)) rfl
theorem k6_73 : Jvm.Cond.instanceMethod ⟨"CommitPrefixesModel", "readsWord", "()I"⟩ ∈ TT := tt_mem (tb_6 _ (List.mem_of_getElem? (i := 73) rfl)) rfl
theorem k6_74 : Jvm.Cond.code ⟨"CommitPrefixesModel", "readsWord", "()I"⟩ prog_12_method_53_code 4 (Option.some Jvm.ClassFile.FieldType.int) ∈ TT := tt_mem (tb_6 _ (List.mem_of_getElem? (i := 74) rfl)) rfl
theorem k6_75 : Jvm.Cond.methodLink "CommitPrefixesModel" 263 ⟨"CommitPrefixesModel", "matches", "(I)I"⟩ ∈ TT := tt_mem (tb_6 _ (List.mem_of_getElem? (i := 75) rfl)) rfl
theorem k6_77 : Jvm.Cond.instanceMethod ⟨"CommitPrefixesModel", "matches", "(I)I"⟩ ∈ TT := tt_mem (tb_6 _ (List.mem_of_getElem? (i := 77) rfl)) rfl
theorem k6_78 : Jvm.Cond.code ⟨"CommitPrefixesModel", "matches", "(I)I"⟩ prog_12_method_52_code 3 (Option.some Jvm.ClassFile.FieldType.int) ∈ TT := tt_mem (tb_6 _ (List.mem_of_getElem? (i := 78) rfl)) rfl
theorem k6_79 : Jvm.Cond.methodLink "CommitPrefixesModel" 251 ⟨"CommitPrefixesModel", "lettersOf", "(I)I"⟩ ∈ TT := tt_mem (tb_6 _ (List.mem_of_getElem? (i := 79) rfl)) rfl
theorem k6_80 : Jvm.Cond.static ⟨"CommitPrefixesModel", "lettersOf", "(I)I"⟩ ∈ TT := tt_mem (tb_6 _ (List.mem_of_getElem? (i := 80) rfl)) rfl
theorem k6_81 : Jvm.Cond.code ⟨"CommitPrefixesModel", "lettersOf", "(I)I"⟩ prog_12_method_50_code 1 (Option.some Jvm.ClassFile.FieldType.int) ∈ TT := tt_mem (tb_6 _ (List.mem_of_getElem? (i := 81) rfl)) rfl
theorem k6_82 : Jvm.Cond.methodLink "CommitPrefixesModel" 257 ⟨"CommitPrefixesModel", "sign", "(I)I"⟩ ∈ TT := tt_mem (tb_6 _ (List.mem_of_getElem? (i := 82) rfl)) rfl
theorem k6_84 : Jvm.Cond.instanceMethod ⟨"CommitPrefixesModel", "sign", "(I)I"⟩ ∈ TT := tt_mem (tb_6 _ (List.mem_of_getElem? (i := 84) rfl)) rfl
theorem k6_85 : Jvm.Cond.code ⟨"CommitPrefixesModel", "sign", "(I)I"⟩ prog_12_method_49_code 2 (Option.some Jvm.ClassFile.FieldType.int) ∈ TT := tt_mem (tb_6 _ (List.mem_of_getElem? (i := 85) rfl)) rfl
theorem k6_86 : Jvm.Cond.methodLink "CommitPrefixesModel" 260 ⟨"CommitPrefixesModel", "letterOf", "(II)I"⟩ ∈ TT := tt_mem (tb_6 _ (List.mem_of_getElem? (i := 86) rfl)) rfl
theorem k6_87 : Jvm.Cond.static ⟨"CommitPrefixesModel", "letterOf", "(II)I"⟩ ∈ TT := tt_mem (tb_6 _ (List.mem_of_getElem? (i := 87) rfl)) rfl
theorem k6_88 : Jvm.Cond.code ⟨"CommitPrefixesModel", "letterOf", "(II)I"⟩ prog_12_method_51_code 2 (Option.some Jvm.ClassFile.FieldType.int) ∈ TT := tt_mem (tb_6 _ (List.mem_of_getElem? (i := 88) rfl)) rfl
theorem k6_89 : Jvm.Cond.fieldLink "CommitPrefixesModel" 248 "CommitPrefixesModel" "WORDS" "[I" ∈ TT := tt_mem (tb_6 _ (List.mem_of_getElem? (i := 89) rfl)) rfl
theorem n6_90 : Jvm.Cond.laysStatic "CommitPrefixesModel" "WORDS" "[I" ∈ lw_tbl := tb_6 _ (List.mem_of_getElem? (i := 90) rfl)
theorem k6_91 : Jvm.Cond.methodLink "CommitPrefixesModel" 276 ⟨"CommitPrefixesModel", "readsFirst", "(II)Z"⟩ ∈ TT := tt_mem (tb_6 _ (List.mem_of_getElem? (i := 91) rfl)) rfl
theorem k6_93 : Jvm.Cond.instanceMethod ⟨"CommitPrefixesModel", "readsFirst", "(II)Z"⟩ ∈ TT := tt_mem (tb_6 _ (List.mem_of_getElem? (i := 93) rfl)) rfl
theorem k6_94 : Jvm.Cond.code ⟨"CommitPrefixesModel", "readsFirst", "(II)Z"⟩ prog_12_method_56_code 3 (Option.some Jvm.ClassFile.FieldType.boolean) ∈ TT := tt_mem (tb_6 _ (List.mem_of_getElem? (i := 94) rfl)) rfl
theorem k6_95 : Jvm.Cond.methodLink "CommitPrefixesModel" 269 ⟨"CommitPrefixesModel", "readsNumber", "(II)I"⟩ ∈ TT := tt_mem (tb_6 _ (List.mem_of_getElem? (i := 95) rfl)) rfl
theorem k6_97 : Jvm.Cond.instanceMethod ⟨"CommitPrefixesModel", "readsNumber", "(II)I"⟩ ∈ TT := tt_mem (tb_6 _ (List.mem_of_getElem? (i := 97) rfl)) rfl
theorem k6_98 : Jvm.Cond.code ⟨"CommitPrefixesModel", "readsNumber", "(II)I"⟩ prog_12_method_54_code 5 (Option.some Jvm.ClassFile.FieldType.int) ∈ TT := tt_mem (tb_6 _ (List.mem_of_getElem? (i := 98) rfl)) rfl
theorem k6_99 : Jvm.Cond.methodLink "CommitPrefixesModel" 279 ⟨"CommitPrefixesModel", "readsDown", "()Z"⟩ ∈ TT := tt_mem (tb_6 _ (List.mem_of_getElem? (i := 99) rfl)) rfl
theorem k6_101 : Jvm.Cond.instanceMethod ⟨"CommitPrefixesModel", "readsDown", "()Z"⟩ ∈ TT := tt_mem (tb_6 _ (List.mem_of_getElem? (i := 101) rfl)) rfl
theorem k6_102 : Jvm.Cond.code ⟨"CommitPrefixesModel", "readsDown", "()Z"⟩ prog_12_method_55_code 1 (Option.some Jvm.ClassFile.FieldType.boolean) ∈ TT := tt_mem (tb_6 _ (List.mem_of_getElem? (i := 102) rfl)) rfl
theorem k6_103 : Jvm.Cond.methodLink "CommitPrefixesModel" 288 ⟨"CommitPrefixesModel", "holdsItem", "(I)V"⟩ ∈ TT := tt_mem (tb_6 _ (List.mem_of_getElem? (i := 103) rfl)) rfl
theorem k6_105 : Jvm.Cond.instanceMethod ⟨"CommitPrefixesModel", "holdsItem", "(I)V"⟩ ∈ TT := tt_mem (tb_6 _ (List.mem_of_getElem? (i := 105) rfl)) rfl
theorem k6_106 : Jvm.Cond.code ⟨"CommitPrefixesModel", "holdsItem", "(I)V"⟩ prog_12_method_59_code 3 Option.none ∈ TT := tt_mem (tb_6 _ (List.mem_of_getElem? (i := 106) rfl)) rfl
theorem k6_107 : Jvm.Cond.methodLink "CommitPrefixesLaw" 57 ⟨"CommitPrefixesModel", "fault", "()I"⟩ ∈ TT := tt_mem (tb_6 _ (List.mem_of_getElem? (i := 107) rfl)) rfl
theorem k6_108 : Jvm.Cond.instanceMethod ⟨"CommitPrefixesModel", "fault", "()I"⟩ ∈ TT := tt_mem (tb_6 _ (List.mem_of_getElem? (i := 108) rfl)) rfl
theorem k6_109 : Jvm.Cond.selects "CommitPrefixesModel" ⟨"CommitPrefixesModel", "fault", "()I"⟩ ⟨"CommitPrefixesModel", "fault", "()I"⟩ ∈ TT := tt_mem (tb_6 _ (List.mem_of_getElem? (i := 109) rfl)) rfl
theorem k6_110 : Jvm.Cond.code ⟨"CommitPrefixesModel", "fault", "()I"⟩ prog_12_method_61_code 1 (Option.some Jvm.ClassFile.FieldType.int) ∈ TT := tt_mem (tb_6 _ (List.mem_of_getElem? (i := 110) rfl)) rfl
theorem k6_111 : Jvm.Cond.methodLink "CommitPrefixesLaw" 61 ⟨"CommitPrefixesModel", "put", "(II)I"⟩ ∈ TT := tt_mem (tb_6 _ (List.mem_of_getElem? (i := 111) rfl)) rfl
theorem k6_112 : Jvm.Cond.instanceMethod ⟨"CommitPrefixesModel", "put", "(II)I"⟩ ∈ TT := tt_mem (tb_6 _ (List.mem_of_getElem? (i := 112) rfl)) rfl
theorem k6_113 : Jvm.Cond.selects "CommitPrefixesModel" ⟨"CommitPrefixesModel", "put", "(II)I"⟩ ⟨"CommitPrefixesModel", "put", "(II)I"⟩ ∈ TT := tt_mem (tb_6 _ (List.mem_of_getElem? (i := 113) rfl)) rfl
theorem k6_114 : Jvm.Cond.code ⟨"CommitPrefixesModel", "put", "(II)I"⟩ prog_12_method_62_code 6 (Option.some Jvm.ClassFile.FieldType.int) ∈ TT := tt_mem (tb_6 _ (List.mem_of_getElem? (i := 114) rfl)) rfl
theorem k6_115 : Jvm.Cond.methodLink "CommitPrefixesModel" 291 ⟨"CommitPrefixesModel", "told", "(I)I"⟩ ∈ TT := tt_mem (tb_6 _ (List.mem_of_getElem? (i := 115) rfl)) rfl
theorem k6_116 : Jvm.Cond.instanceMethod ⟨"CommitPrefixesModel", "told", "(I)I"⟩ ∈ TT := tt_mem (tb_6 _ (List.mem_of_getElem? (i := 116) rfl)) rfl
theorem k6_117 : Jvm.Cond.selects "CommitPrefixesModel" ⟨"CommitPrefixesModel", "told", "(I)I"⟩ ⟨"CommitPrefixesModel", "told", "(I)I"⟩ ∈ TT := tt_mem (tb_6 _ (List.mem_of_getElem? (i := 117) rfl)) rfl
theorem k6_118 : Jvm.Cond.code ⟨"CommitPrefixesModel", "told", "(I)I"⟩ prog_12_method_68_code 2 (Option.some Jvm.ClassFile.FieldType.int) ∈ TT := tt_mem (tb_6 _ (List.mem_of_getElem? (i := 118) rfl)) rfl
theorem k6_119 : Jvm.Cond.methodLink "CommitPrefixesModel" 297 ⟨"CommitPrefixesModel", "setOf", "(Z)I"⟩ ∈ TT := tt_mem (tb_6 _ (List.mem_of_getElem? (i := 119) rfl)) rfl
theorem k6_121 : Jvm.Cond.instanceMethod ⟨"CommitPrefixesModel", "setOf", "(Z)I"⟩ ∈ TT := tt_mem (tb_6 _ (List.mem_of_getElem? (i := 121) rfl)) rfl
theorem k6_122 : Jvm.Cond.code ⟨"CommitPrefixesModel", "setOf", "(Z)I"⟩ prog_12_method_67_code 4 (Option.some Jvm.ClassFile.FieldType.int) ∈ TT := tt_mem (tb_6 _ (List.mem_of_getElem? (i := 122) rfl)) rfl
theorem k6_123 : Jvm.Cond.methodLink "CommitPrefixesModel" 301 ⟨"CommitPrefixesModel", "manyLosses", "()I"⟩ ∈ TT := tt_mem (tb_6 _ (List.mem_of_getElem? (i := 123) rfl)) rfl
theorem k6_125 : Jvm.Cond.instanceMethod ⟨"CommitPrefixesModel", "manyLosses", "()I"⟩ ∈ TT := tt_mem (tb_6 _ (List.mem_of_getElem? (i := 125) rfl)) rfl
theorem k6_126 : Jvm.Cond.code ⟨"CommitPrefixesModel", "manyLosses", "()I"⟩ prog_12_method_66_code 3 (Option.some Jvm.ClassFile.FieldType.int) ∈ TT := tt_mem (tb_6 _ (List.mem_of_getElem? (i := 126) rfl)) rfl
theorem k6_127 : Jvm.Cond.methodLink "CommitPrefixesLaw" 66 ⟨"CommitPrefixesModel", "vote", "(IZ)I"⟩ ∈ TT := tt_mem (tb_6 _ (List.mem_of_getElem? (i := 127) rfl)) rfl
theorem k6_128 : Jvm.Cond.instanceMethod ⟨"CommitPrefixesModel", "vote", "(IZ)I"⟩ ∈ TT := tt_mem (tb_6 _ (List.mem_of_getElem? (i := 128) rfl)) rfl
theorem k6_129 : Jvm.Cond.selects "CommitPrefixesModel" ⟨"CommitPrefixesModel", "vote", "(IZ)I"⟩ ⟨"CommitPrefixesModel", "vote", "(IZ)I"⟩ ∈ TT := tt_mem (tb_6 _ (List.mem_of_getElem? (i := 129) rfl)) rfl
theorem k6_130 : Jvm.Cond.code ⟨"CommitPrefixesModel", "vote", "(IZ)I"⟩ prog_12_method_63_code 4 (Option.some Jvm.ClassFile.FieldType.int) ∈ TT := tt_mem (tb_6 _ (List.mem_of_getElem? (i := 130) rfl)) rfl
theorem k6_131 : Jvm.Cond.methodLink "CommitPrefixesLaw" 70 ⟨"CommitPrefixesModel", "lose", "(IZ)I"⟩ ∈ TT := tt_mem (tb_6 _ (List.mem_of_getElem? (i := 131) rfl)) rfl
theorem k6_132 : Jvm.Cond.instanceMethod ⟨"CommitPrefixesModel", "lose", "(IZ)I"⟩ ∈ TT := tt_mem (tb_6 _ (List.mem_of_getElem? (i := 132) rfl)) rfl
theorem k6_133 : Jvm.Cond.selects "CommitPrefixesModel" ⟨"CommitPrefixesModel", "lose", "(IZ)I"⟩ ⟨"CommitPrefixesModel", "lose", "(IZ)I"⟩ ∈ TT := tt_mem (tb_6 _ (List.mem_of_getElem? (i := 133) rfl)) rfl
theorem k6_134 : Jvm.Cond.code ⟨"CommitPrefixesModel", "lose", "(IZ)I"⟩ prog_12_method_64_code 4 (Option.some Jvm.ClassFile.FieldType.int) ∈ TT := tt_mem (tb_6 _ (List.mem_of_getElem? (i := 134) rfl)) rfl
theorem k6_135 : Jvm.Cond.methodLink "CommitPrefixesLaw" 74 ⟨"CommitPrefixesModel", "down", "(III)I"⟩ ∈ TT := tt_mem (tb_6 _ (List.mem_of_getElem? (i := 135) rfl)) rfl
theorem k6_136 : Jvm.Cond.instanceMethod ⟨"CommitPrefixesModel", "down", "(III)I"⟩ ∈ TT := tt_mem (tb_6 _ (List.mem_of_getElem? (i := 136) rfl)) rfl
theorem k6_137 : Jvm.Cond.selects "CommitPrefixesModel" ⟨"CommitPrefixesModel", "down", "(III)I"⟩ ⟨"CommitPrefixesModel", "down", "(III)I"⟩ ∈ TT := tt_mem (tb_6 _ (List.mem_of_getElem? (i := 137) rfl)) rfl
theorem k6_138 : Jvm.Cond.code ⟨"CommitPrefixesModel", "down", "(III)I"⟩ prog_12_method_65_code 5 (Option.some Jvm.ClassFile.FieldType.int) ∈ TT := tt_mem (tb_6 _ (List.mem_of_getElem? (i := 138) rfl)) rfl
theorem k6_139 : Jvm.Cond.methodLink "CommitPrefixesModel" 294 ⟨"CommitPrefixesModel", "isDown", "(II)Z"⟩ ∈ TT := tt_mem (tb_6 _ (List.mem_of_getElem? (i := 139) rfl)) rfl
theorem k6_140 : Jvm.Cond.static ⟨"CommitPrefixesModel", "isDown", "(II)Z"⟩ ∈ TT := tt_mem (tb_6 _ (List.mem_of_getElem? (i := 140) rfl)) rfl
theorem k6_141 : Jvm.Cond.code ⟨"CommitPrefixesModel", "isDown", "(II)Z"⟩ prog_12_method_6_code 2 (Option.some Jvm.ClassFile.FieldType.boolean) ∈ TT := tt_mem (tb_6 _ (List.mem_of_getElem? (i := 141) rfl)) rfl
theorem k6_142 : Jvm.Cond.methodLink "CommitPrefixesLaw" 78 ⟨"CommitPrefixesModel", "told", "(I)I"⟩ ∈ TT := tt_mem (tb_6 _ (List.mem_of_getElem? (i := 142) rfl)) rfl
theorem k6_143 : Jvm.Cond.methodLink "CommitPrefixesLaw" 82 ⟨"CommitPrefixesModel", "state", "(II)I"⟩ ∈ TT := tt_mem (tb_6 _ (List.mem_of_getElem? (i := 143) rfl)) rfl
theorem k6_144 : Jvm.Cond.instanceMethod ⟨"CommitPrefixesModel", "state", "(II)I"⟩ ∈ TT := tt_mem (tb_6 _ (List.mem_of_getElem? (i := 144) rfl)) rfl
theorem k6_145 : Jvm.Cond.selects "CommitPrefixesModel" ⟨"CommitPrefixesModel", "state", "(II)I"⟩ ⟨"CommitPrefixesModel", "state", "(II)I"⟩ ∈ TT := tt_mem (tb_6 _ (List.mem_of_getElem? (i := 145) rfl)) rfl
theorem k6_146 : Jvm.Cond.code ⟨"CommitPrefixesModel", "state", "(II)I"⟩ prog_12_method_70_code 4 (Option.some Jvm.ClassFile.FieldType.int) ∈ TT := tt_mem (tb_6 _ (List.mem_of_getElem? (i := 146) rfl)) rfl
theorem k6_147 : Jvm.Cond.methodLink "CommitPrefixesModel" 310 ⟨"CommitPrefixesModel", "notThen", "(II)I"⟩ ∈ TT := tt_mem (tb_6 _ (List.mem_of_getElem? (i := 147) rfl)) rfl
theorem k6_149 : Jvm.Cond.instanceMethod ⟨"CommitPrefixesModel", "notThen", "(II)I"⟩ ∈ TT := tt_mem (tb_6 _ (List.mem_of_getElem? (i := 149) rfl)) rfl
theorem k6_150 : Jvm.Cond.code ⟨"CommitPrefixesModel", "notThen", "(II)I"⟩ prog_12_method_69_code 3 (Option.some Jvm.ClassFile.FieldType.int) ∈ TT := tt_mem (tb_6 _ (List.mem_of_getElem? (i := 150) rfl)) rfl
theorem k6_151 : Jvm.Cond.methodLink "CommitPrefixesModel" 304 ⟨"CommitPrefixesModel", "isSite", "(I)Z"⟩ ∈ TT := tt_mem (tb_6 _ (List.mem_of_getElem? (i := 151) rfl)) rfl
theorem k6_153 : Jvm.Cond.instanceMethod ⟨"CommitPrefixesModel", "isSite", "(I)Z"⟩ ∈ TT := tt_mem (tb_6 _ (List.mem_of_getElem? (i := 153) rfl)) rfl
theorem k6_154 : Jvm.Cond.code ⟨"CommitPrefixesModel", "isSite", "(I)Z"⟩ prog_12_method_4_code 2 (Option.some Jvm.ClassFile.FieldType.boolean) ∈ TT := tt_mem (tb_6 _ (List.mem_of_getElem? (i := 154) rfl)) rfl
theorem k6_155 : Jvm.Cond.methodLink "CommitPrefixesModel" 307 ⟨"CommitPrefixesModel", "isTick", "(I)Z"⟩ ∈ TT := tt_mem (tb_6 _ (List.mem_of_getElem? (i := 155) rfl)) rfl
theorem k6_156 : Jvm.Cond.static ⟨"CommitPrefixesModel", "isTick", "(I)Z"⟩ ∈ TT := tt_mem (tb_6 _ (List.mem_of_getElem? (i := 156) rfl)) rfl
theorem k6_157 : Jvm.Cond.code ⟨"CommitPrefixesModel", "isTick", "(I)Z"⟩ prog_12_method_5_code 1 (Option.some Jvm.ClassFile.FieldType.boolean) ∈ TT := tt_mem (tb_6 _ (List.mem_of_getElem? (i := 157) rfl)) rfl
theorem k6_158 : Jvm.Cond.methodLink "CommitPrefixesLaw" 86 ⟨"CommitPrefixesModel", "decided", "(II)I"⟩ ∈ TT := tt_mem (tb_6 _ (List.mem_of_getElem? (i := 158) rfl)) rfl
theorem k6_159 : Jvm.Cond.instanceMethod ⟨"CommitPrefixesModel", "decided", "(II)I"⟩ ∈ TT := tt_mem (tb_6 _ (List.mem_of_getElem? (i := 159) rfl)) rfl
theorem k6_160 : Jvm.Cond.selects "CommitPrefixesModel" ⟨"CommitPrefixesModel", "decided", "(II)I"⟩ ⟨"CommitPrefixesModel", "decided", "(II)I"⟩ ∈ TT := tt_mem (tb_6 _ (List.mem_of_getElem? (i := 160) rfl)) rfl
theorem k6_161 : Jvm.Cond.code ⟨"CommitPrefixesModel", "decided", "(II)I"⟩ prog_12_method_73_code 4 (Option.some Jvm.ClassFile.FieldType.int) ∈ TT := tt_mem (tb_6 _ (List.mem_of_getElem? (i := 161) rfl)) rfl
theorem k6_162 : Jvm.Cond.methodLink "CommitPrefixesModel" 316 ⟨"CommitPrefixesModel", "decidedAt", "(II)I"⟩ ∈ TT := tt_mem (tb_6 _ (List.mem_of_getElem? (i := 162) rfl)) rfl
theorem k6_164 : Jvm.Cond.instanceMethod ⟨"CommitPrefixesModel", "decidedAt", "(II)I"⟩ ∈ TT := tt_mem (tb_6 _ (List.mem_of_getElem? (i := 164) rfl)) rfl
theorem k6_165 : Jvm.Cond.code ⟨"CommitPrefixesModel", "decidedAt", "(II)I"⟩ prog_12_method_72_code 3 (Option.some Jvm.ClassFile.FieldType.int) ∈ TT := tt_mem (tb_6 _ (List.mem_of_getElem? (i := 165) rfl)) rfl
theorem k6_166 : Jvm.Cond.methodLink "CommitPrefixesModel" 313 ⟨"CommitPrefixesModel", "hasNoted", "(III)Z"⟩ ∈ TT := tt_mem (tb_6 _ (List.mem_of_getElem? (i := 166) rfl)) rfl
theorem k6_168 : Jvm.Cond.instanceMethod ⟨"CommitPrefixesModel", "hasNoted", "(III)Z"⟩ ∈ TT := tt_mem (tb_6 _ (List.mem_of_getElem? (i := 168) rfl)) rfl
theorem k6_169 : Jvm.Cond.code ⟨"CommitPrefixesModel", "hasNoted", "(III)Z"⟩ prog_12_method_71_code 5 (Option.some Jvm.ClassFile.FieldType.boolean) ∈ TT := tt_mem (tb_6 _ (List.mem_of_getElem? (i := 169) rfl)) rfl
theorem k6_170 : Jvm.Cond.methodLink "CommitPrefixesLaw" 90 ⟨"CommitPrefixesModel", "records", "(II)I"⟩ ∈ TT := tt_mem (tb_6 _ (List.mem_of_getElem? (i := 170) rfl)) rfl
theorem k6_171 : Jvm.Cond.instanceMethod ⟨"CommitPrefixesModel", "records", "(II)I"⟩ ∈ TT := tt_mem (tb_6 _ (List.mem_of_getElem? (i := 171) rfl)) rfl
theorem k6_172 : Jvm.Cond.selects "CommitPrefixesModel" ⟨"CommitPrefixesModel", "records", "(II)I"⟩ ⟨"CommitPrefixesModel", "records", "(II)I"⟩ ∈ TT := tt_mem (tb_6 _ (List.mem_of_getElem? (i := 172) rfl)) rfl
theorem k6_173 : Jvm.Cond.code ⟨"CommitPrefixesModel", "records", "(II)I"⟩ prog_12_method_74_code 4 (Option.some Jvm.ClassFile.FieldType.int) ∈ TT := tt_mem (tb_6 _ (List.mem_of_getElem? (i := 173) rfl)) rfl
theorem k6_174 : Jvm.Cond.methodLink "CommitPrefixesLaw" 94 ⟨"CommitPrefixesModel", "record", "(II)I"⟩ ∈ TT := tt_mem (tb_6 _ (List.mem_of_getElem? (i := 174) rfl)) rfl
theorem k6_175 : Jvm.Cond.instanceMethod ⟨"CommitPrefixesModel", "record", "(II)I"⟩ ∈ TT := tt_mem (tb_6 _ (List.mem_of_getElem? (i := 175) rfl)) rfl
theorem k6_176 : Jvm.Cond.selects "CommitPrefixesModel" ⟨"CommitPrefixesModel", "record", "(II)I"⟩ ⟨"CommitPrefixesModel", "record", "(II)I"⟩ ∈ TT := tt_mem (tb_6 _ (List.mem_of_getElem? (i := 176) rfl)) rfl
theorem k6_177 : Jvm.Cond.code ⟨"CommitPrefixesModel", "record", "(II)I"⟩ prog_12_method_75_code 3 (Option.some Jvm.ClassFile.FieldType.int) ∈ TT := tt_mem (tb_6 _ (List.mem_of_getElem? (i := 177) rfl)) rfl
theorem k6_178 : Jvm.Cond.methodLink "CommitPrefixesLaw" 98 ⟨"CommitPrefixesModel", "sent", "(I)I"⟩ ∈ TT := tt_mem (tb_6 _ (List.mem_of_getElem? (i := 178) rfl)) rfl
theorem k6_179 : Jvm.Cond.instanceMethod ⟨"CommitPrefixesModel", "sent", "(I)I"⟩ ∈ TT := tt_mem (tb_6 _ (List.mem_of_getElem? (i := 179) rfl)) rfl
theorem k6_180 : Jvm.Cond.selects "CommitPrefixesModel" ⟨"CommitPrefixesModel", "sent", "(I)I"⟩ ⟨"CommitPrefixesModel", "sent", "(I)I"⟩ ∈ TT := tt_mem (tb_6 _ (List.mem_of_getElem? (i := 180) rfl)) rfl
theorem k6_181 : Jvm.Cond.code ⟨"CommitPrefixesModel", "sent", "(I)I"⟩ prog_12_method_76_code 2 (Option.some Jvm.ClassFile.FieldType.int) ∈ TT := tt_mem (tb_6 _ (List.mem_of_getElem? (i := 181) rfl)) rfl
theorem k6_182 : Jvm.Cond.methodLink "CommitPrefixesLaw" 102 ⟨"CommitPrefixesModel", "message", "(II)I"⟩ ∈ TT := tt_mem (tb_6 _ (List.mem_of_getElem? (i := 182) rfl)) rfl
theorem k6_183 : Jvm.Cond.instanceMethod ⟨"CommitPrefixesModel", "message", "(II)I"⟩ ∈ TT := tt_mem (tb_6 _ (List.mem_of_getElem? (i := 183) rfl)) rfl
theorem k6_184 : Jvm.Cond.selects "CommitPrefixesModel" ⟨"CommitPrefixesModel", "message", "(II)I"⟩ ⟨"CommitPrefixesModel", "message", "(II)I"⟩ ∈ TT := tt_mem (tb_6 _ (List.mem_of_getElem? (i := 184) rfl)) rfl
theorem k6_185 : Jvm.Cond.code ⟨"CommitPrefixesModel", "message", "(II)I"⟩ prog_12_method_77_code 3 (Option.some Jvm.ClassFile.FieldType.int) ∈ TT := tt_mem (tb_6 _ (List.mem_of_getElem? (i := 185) rfl)) rfl
theorem k6_186 : Jvm.Cond.methodLink "CommitPrefixesLaw" 106 ⟨"CommitPrefixesModel", "alike", "(I)I"⟩ ∈ TT := tt_mem (tb_6 _ (List.mem_of_getElem? (i := 186) rfl)) rfl
theorem k6_187 : Jvm.Cond.instanceMethod ⟨"CommitPrefixesModel", "alike", "(I)I"⟩ ∈ TT := tt_mem (tb_6 _ (List.mem_of_getElem? (i := 187) rfl)) rfl
theorem k6_188 : Jvm.Cond.selects "CommitPrefixesModel" ⟨"CommitPrefixesModel", "alike", "(I)I"⟩ ⟨"CommitPrefixesModel", "alike", "(I)I"⟩ ∈ TT := tt_mem (tb_6 _ (List.mem_of_getElem? (i := 188) rfl)) rfl
theorem k6_189 : Jvm.Cond.code ⟨"CommitPrefixesModel", "alike", "(I)I"⟩ prog_12_method_79_code 2 (Option.some Jvm.ClassFile.FieldType.int) ∈ TT := tt_mem (tb_6 _ (List.mem_of_getElem? (i := 189) rfl)) rfl
theorem k6_190 : Jvm.Cond.methodLink "CommitPrefixesModel" 319 ⟨"CommitPrefixesModel", "areAlike", "(I)Z"⟩ ∈ TT := tt_mem (tb_6 _ (List.mem_of_getElem? (i := 190) rfl)) rfl
theorem k6_192 : Jvm.Cond.instanceMethod ⟨"CommitPrefixesModel", "areAlike", "(I)Z"⟩ ∈ TT := tt_mem (tb_6 _ (List.mem_of_getElem? (i := 192) rfl)) rfl
theorem k6_193 : Jvm.Cond.code ⟨"CommitPrefixesModel", "areAlike", "(I)Z"⟩ prog_12_method_78_code 4 (Option.some Jvm.ClassFile.FieldType.boolean) ∈ TT := tt_mem (tb_6 _ (List.mem_of_getElem? (i := 193) rfl)) rfl
theorem k6_194 : Jvm.Cond.methodLink "CommitPrefixesLaw" 110 ⟨"CommitPrefixesModel", "blocked", "()I"⟩ ∈ TT := tt_mem (tb_6 _ (List.mem_of_getElem? (i := 194) rfl)) rfl
theorem k6_195 : Jvm.Cond.instanceMethod ⟨"CommitPrefixesModel", "blocked", "()I"⟩ ∈ TT := tt_mem (tb_6 _ (List.mem_of_getElem? (i := 195) rfl)) rfl
theorem k6_196 : Jvm.Cond.selects "CommitPrefixesModel" ⟨"CommitPrefixesModel", "blocked", "()I"⟩ ⟨"CommitPrefixesModel", "blocked", "()I"⟩ ∈ TT := tt_mem (tb_6 _ (List.mem_of_getElem? (i := 196) rfl)) rfl
theorem k6_197 : Jvm.Cond.code ⟨"CommitPrefixesModel", "blocked", "()I"⟩ prog_12_method_81_code 1 (Option.some Jvm.ClassFile.FieldType.int) ∈ TT := tt_mem (tb_6 _ (List.mem_of_getElem? (i := 197) rfl)) rfl
theorem k6_198 : Jvm.Cond.methodLink "CommitPrefixesModel" 322 ⟨"CommitPrefixesModel", "blockedNow", "()I"⟩ ∈ TT := tt_mem (tb_6 _ (List.mem_of_getElem? (i := 198) rfl)) rfl
theorem k6_200 : Jvm.Cond.instanceMethod ⟨"CommitPrefixesModel", "blockedNow", "()I"⟩ ∈ TT := tt_mem (tb_6 _ (List.mem_of_getElem? (i := 200) rfl)) rfl
theorem k6_201 : Jvm.Cond.code ⟨"CommitPrefixesModel", "blockedNow", "()I"⟩ prog_12_method_80_code 4 (Option.some Jvm.ClassFile.FieldType.int) ∈ TT := tt_mem (tb_6 _ (List.mem_of_getElem? (i := 201) rfl)) rfl
theorem k6_202 : Jvm.Cond.methodLink "CommitPrefixesLaw" 114 ⟨"CommitPrefixesModel", "quiet", "()I"⟩ ∈ TT := tt_mem (tb_6 _ (List.mem_of_getElem? (i := 202) rfl)) rfl
theorem k6_203 : Jvm.Cond.instanceMethod ⟨"CommitPrefixesModel", "quiet", "()I"⟩ ∈ TT := tt_mem (tb_6 _ (List.mem_of_getElem? (i := 203) rfl)) rfl
theorem k6_204 : Jvm.Cond.selects "CommitPrefixesModel" ⟨"CommitPrefixesModel", "quiet", "()I"⟩ ⟨"CommitPrefixesModel", "quiet", "()I"⟩ ∈ TT := tt_mem (tb_6 _ (List.mem_of_getElem? (i := 204) rfl)) rfl
theorem k6_205 : Jvm.Cond.code ⟨"CommitPrefixesModel", "quiet", "()I"⟩ prog_12_method_83_code 2 (Option.some Jvm.ClassFile.FieldType.int) ∈ TT := tt_mem (tb_6 _ (List.mem_of_getElem? (i := 205) rfl)) rfl
theorem k6_206 : Jvm.Cond.methodLink "CommitPrefixesModel" 325 ⟨"CommitPrefixesModel", "isAsLast", "(I)Z"⟩ ∈ TT := tt_mem (tb_6 _ (List.mem_of_getElem? (i := 206) rfl)) rfl
theorem k6_208 : Jvm.Cond.instanceMethod ⟨"CommitPrefixesModel", "isAsLast", "(I)Z"⟩ ∈ TT := tt_mem (tb_6 _ (List.mem_of_getElem? (i := 208) rfl)) rfl
theorem k6_209 : Jvm.Cond.code ⟨"CommitPrefixesModel", "isAsLast", "(I)Z"⟩ prog_12_method_82_code 3 (Option.some Jvm.ClassFile.FieldType.boolean) ∈ TT := tt_mem (tb_6 _ (List.mem_of_getElem? (i := 209) rfl)) rfl
theorem k6_210 : Jvm.Cond.methodLink "CommitPrefixesLaw" 118 ⟨"CommitPrefixesModel", "harm", "(I)I"⟩ ∈ TT := tt_mem (tb_6 _ (List.mem_of_getElem? (i := 210) rfl)) rfl
theorem k6_211 : Jvm.Cond.instanceMethod ⟨"CommitPrefixesModel", "harm", "(I)I"⟩ ∈ TT := tt_mem (tb_6 _ (List.mem_of_getElem? (i := 211) rfl)) rfl
theorem k6_212 : Jvm.Cond.selects "CommitPrefixesModel" ⟨"CommitPrefixesModel", "harm", "(I)I"⟩ ⟨"CommitPrefixesModel", "harm", "(I)I"⟩ ∈ TT := tt_mem (tb_6 _ (List.mem_of_getElem? (i := 212) rfl)) rfl
theorem k6_213 : Jvm.Cond.code ⟨"CommitPrefixesModel", "harm", "(I)I"⟩ prog_12_method_85_code 2 (Option.some Jvm.ClassFile.FieldType.int) ∈ TT := tt_mem (tb_6 _ (List.mem_of_getElem? (i := 213) rfl)) rfl
theorem k6_214 : Jvm.Cond.methodLink "CommitPrefixesModel" 328 ⟨"CommitPrefixesModel", "lossesThat", "(IZ)I"⟩ ∈ TT := tt_mem (tb_6 _ (List.mem_of_getElem? (i := 214) rfl)) rfl
theorem k6_216 : Jvm.Cond.instanceMethod ⟨"CommitPrefixesModel", "lossesThat", "(IZ)I"⟩ ∈ TT := tt_mem (tb_6 _ (List.mem_of_getElem? (i := 216) rfl)) rfl
theorem k6_217 : Jvm.Cond.code ⟨"CommitPrefixesModel", "lossesThat", "(IZ)I"⟩ prog_12_method_84_code 7 (Option.some Jvm.ClassFile.FieldType.int) ∈ TT := tt_mem (tb_6 _ (List.mem_of_getElem? (i := 217) rfl)) rfl
theorem k6_218 : Jvm.Cond.methodLink "CommitPrefixesLaw" 122 ⟨"CommitPrefixesModel", "block", "(I)I"⟩ ∈ TT := tt_mem (tb_6 _ (List.mem_of_getElem? (i := 218) rfl)) rfl
theorem k6_219 : Jvm.Cond.instanceMethod ⟨"CommitPrefixesModel", "block", "(I)I"⟩ ∈ TT := tt_mem (tb_6 _ (List.mem_of_getElem? (i := 219) rfl)) rfl
theorem k6_220 : Jvm.Cond.selects "CommitPrefixesModel" ⟨"CommitPrefixesModel", "block", "(I)I"⟩ ⟨"CommitPrefixesModel", "block", "(I)I"⟩ ∈ TT := tt_mem (tb_6 _ (List.mem_of_getElem? (i := 220) rfl)) rfl
theorem k6_221 : Jvm.Cond.code ⟨"CommitPrefixesModel", "block", "(I)I"⟩ prog_12_method_86_code 2 (Option.some Jvm.ClassFile.FieldType.int) ∈ TT := tt_mem (tb_6 _ (List.mem_of_getElem? (i := 221) rfl)) rfl
theorem k6_222 : Jvm.Cond.methodLink "CommitPrefixesLaw" 126 ⟨"CommitPrefixesModel", "recovery", "(II)I"⟩ ∈ TT := tt_mem (tb_6 _ (List.mem_of_getElem? (i := 222) rfl)) rfl
theorem k6_223 : Jvm.Cond.instanceMethod ⟨"CommitPrefixesModel", "recovery", "(II)I"⟩ ∈ TT := tt_mem (tb_6 _ (List.mem_of_getElem? (i := 223) rfl)) rfl
theorem k6_224 : Jvm.Cond.selects "CommitPrefixesModel" ⟨"CommitPrefixesModel", "recovery", "(II)I"⟩ ⟨"CommitPrefixesModel", "recovery", "(II)I"⟩ ∈ TT := tt_mem (tb_6 _ (List.mem_of_getElem? (i := 224) rfl)) rfl
theorem k6_225 : Jvm.Cond.code ⟨"CommitPrefixesModel", "recovery", "(II)I"⟩ prog_12_method_88_code 3 (Option.some Jvm.ClassFile.FieldType.int) ∈ TT := tt_mem (tb_6 _ (List.mem_of_getElem? (i := 225) rfl)) rfl
theorem k6_226 : Jvm.Cond.methodLink "CommitPrefixesModel" 332 ⟨"CommitPrefixesModel", "recoveredBy", "(II)I"⟩ ∈ TT := tt_mem (tb_6 _ (List.mem_of_getElem? (i := 226) rfl)) rfl
theorem k6_228 : Jvm.Cond.instanceMethod ⟨"CommitPrefixesModel", "recoveredBy", "(II)I"⟩ ∈ TT := tt_mem (tb_6 _ (List.mem_of_getElem? (i := 228) rfl)) rfl
theorem k6_229 : Jvm.Cond.code ⟨"CommitPrefixesModel", "recoveredBy", "(II)I"⟩ prog_12_method_87_code 3 (Option.some Jvm.ClassFile.FieldType.int) ∈ TT := tt_mem (tb_6 _ (List.mem_of_getElem? (i := 229) rfl)) rfl
theorem k6_230 : Jvm.Cond.methodLink "CommitPrefixesLaw" 130 ⟨"CommitPrefixesModel", "spared", "()I"⟩ ∈ TT := tt_mem (tb_6 _ (List.mem_of_getElem? (i := 230) rfl)) rfl
theorem k6_231 : Jvm.Cond.instanceMethod ⟨"CommitPrefixesModel", "spared", "()I"⟩ ∈ TT := tt_mem (tb_6 _ (List.mem_of_getElem? (i := 231) rfl)) rfl
theorem k6_232 : Jvm.Cond.selects "CommitPrefixesModel" ⟨"CommitPrefixesModel", "spared", "()I"⟩ ⟨"CommitPrefixesModel", "spared", "()I"⟩ ∈ TT := tt_mem (tb_6 _ (List.mem_of_getElem? (i := 232) rfl)) rfl
theorem k6_233 : Jvm.Cond.code ⟨"CommitPrefixesModel", "spared", "()I"⟩ prog_12_method_89_code 3 (Option.some Jvm.ClassFile.FieldType.int) ∈ TT := tt_mem (tb_6 _ (List.mem_of_getElem? (i := 233) rfl)) rfl
theorem k6_234 : Jvm.Cond.methodLink "CommitPrefixesLaw" 134 ⟨"CommitPrefixesModel", "judge", "(III)I"⟩ ∈ TT := tt_mem (tb_6 _ (List.mem_of_getElem? (i := 234) rfl)) rfl
theorem k6_235 : Jvm.Cond.instanceMethod ⟨"CommitPrefixesModel", "judge", "(III)I"⟩ ∈ TT := tt_mem (tb_6 _ (List.mem_of_getElem? (i := 235) rfl)) rfl
theorem k6_236 : Jvm.Cond.selects "CommitPrefixesModel" ⟨"CommitPrefixesModel", "judge", "(III)I"⟩ ⟨"CommitPrefixesModel", "judge", "(III)I"⟩ ∈ TT := tt_mem (tb_6 _ (List.mem_of_getElem? (i := 236) rfl)) rfl
theorem k6_237 : Jvm.Cond.code ⟨"CommitPrefixesModel", "judge", "(III)I"⟩ prog_12_method_91_code 6 (Option.some Jvm.ClassFile.FieldType.int) ∈ TT := tt_mem (tb_6 _ (List.mem_of_getElem? (i := 237) rfl)) rfl
theorem k6_238 : Jvm.Cond.methodLink "CommitPrefixesModel" 335 ⟨"CommitPrefixesModel", "notJudged", "(III)I"⟩ ∈ TT := tt_mem (tb_6 _ (List.mem_of_getElem? (i := 238) rfl)) rfl
theorem k7_0 : Jvm.Cond.instanceMethod ⟨"CommitPrefixesModel", "notJudged", "(III)I"⟩ ∈ TT := tt_mem (tb_7 _ (List.mem_of_getElem? (i := 0) rfl)) rfl
theorem k7_1 : Jvm.Cond.code ⟨"CommitPrefixesModel", "notJudged", "(III)I"⟩ prog_12_method_90_code 5 (Option.some Jvm.ClassFile.FieldType.int) ∈ TT := tt_mem (tb_7 _ (List.mem_of_getElem? (i := 1) rfl)) rfl
theorem k7_2 : Jvm.Cond.methodLink "CommitPrefixesLaw" 138 ⟨"CommitPrefixesModel", "drawn", "(I)I"⟩ ∈ TT := tt_mem (tb_7 _ (List.mem_of_getElem? (i := 2) rfl)) rfl
theorem k7_3 : Jvm.Cond.instanceMethod ⟨"CommitPrefixesModel", "drawn", "(I)I"⟩ ∈ TT := tt_mem (tb_7 _ (List.mem_of_getElem? (i := 3) rfl)) rfl
theorem k7_4 : Jvm.Cond.selects "CommitPrefixesModel" ⟨"CommitPrefixesModel", "drawn", "(I)I"⟩ ⟨"CommitPrefixesModel", "drawn", "(I)I"⟩ ∈ TT := tt_mem (tb_7 _ (List.mem_of_getElem? (i := 4) rfl)) rfl
theorem k7_5 : Jvm.Cond.code ⟨"CommitPrefixesModel", "drawn", "(I)I"⟩ prog_12_method_93_code 3 (Option.some Jvm.ClassFile.FieldType.int) ∈ TT := tt_mem (tb_7 _ (List.mem_of_getElem? (i := 5) rfl)) rfl
theorem k7_6 : Jvm.Cond.methodLink "CommitPrefixesModel" 340 ⟨"CommitPrefixesModel", "draw", "(I)I"⟩ ∈ TT := tt_mem (tb_7 _ (List.mem_of_getElem? (i := 6) rfl)) rfl
theorem k7_8 : Jvm.Cond.instanceMethod ⟨"CommitPrefixesModel", "draw", "(I)I"⟩ ∈ TT := tt_mem (tb_7 _ (List.mem_of_getElem? (i := 8) rfl)) rfl
theorem k7_9 : Jvm.Cond.code ⟨"CommitPrefixesModel", "draw", "(I)I"⟩ prog_12_method_92_code 2 (Option.some Jvm.ClassFile.FieldType.int) ∈ TT := tt_mem (tb_7 _ (List.mem_of_getElem? (i := 9) rfl)) rfl
theorem k7_10 : Jvm.Cond.constant "CommitPrefixesModel" 339 1103515245 ∈ TT := tt_mem (tb_7 _ (List.mem_of_getElem? (i := 10) rfl)) rfl
theorem k7_11 : Jvm.Cond.methodLink "CommitPrefixesLaw" 142 ⟨"CommitPrefixesModel", "seed", "(I)I"⟩ ∈ TT := tt_mem (tb_7 _ (List.mem_of_getElem? (i := 11) rfl)) rfl
theorem k7_12 : Jvm.Cond.instanceMethod ⟨"CommitPrefixesModel", "seed", "(I)I"⟩ ∈ TT := tt_mem (tb_7 _ (List.mem_of_getElem? (i := 12) rfl)) rfl
theorem k7_13 : Jvm.Cond.selects "CommitPrefixesModel" ⟨"CommitPrefixesModel", "seed", "(I)I"⟩ ⟨"CommitPrefixesModel", "seed", "(I)I"⟩ ∈ TT := tt_mem (tb_7 _ (List.mem_of_getElem? (i := 13) rfl)) rfl
theorem k7_14 : Jvm.Cond.code ⟨"CommitPrefixesModel", "seed", "(I)I"⟩ prog_12_method_94_code 3 (Option.some Jvm.ClassFile.FieldType.int) ∈ TT := tt_mem (tb_7 _ (List.mem_of_getElem? (i := 14) rfl)) rfl
theorem k7_15 : Jvm.Cond.methodLink "CommitPrefixesLaw" 146 ⟨"CommitPrefixesModel", "image", "()I"⟩ ∈ TT := tt_mem (tb_7 _ (List.mem_of_getElem? (i := 15) rfl)) rfl
theorem k7_16 : Jvm.Cond.instanceMethod ⟨"CommitPrefixesModel", "image", "()I"⟩ ∈ TT := tt_mem (tb_7 _ (List.mem_of_getElem? (i := 16) rfl)) rfl
theorem k7_17 : Jvm.Cond.selects "CommitPrefixesModel" ⟨"CommitPrefixesModel", "image", "()I"⟩ ⟨"CommitPrefixesModel", "image", "()I"⟩ ∈ TT := tt_mem (tb_7 _ (List.mem_of_getElem? (i := 17) rfl)) rfl
theorem k7_18 : Jvm.Cond.code ⟨"CommitPrefixesModel", "image", "()I"⟩ prog_12_method_98_code 1 (Option.some Jvm.ClassFile.FieldType.int) ∈ TT := tt_mem (tb_7 _ (List.mem_of_getElem? (i := 18) rfl)) rfl
theorem k7_19 : Jvm.Cond.methodLink "CommitPrefixesModel" 360 ⟨"CommitPrefixesModel", "passesAll", "(Z)V"⟩ ∈ TT := tt_mem (tb_7 _ (List.mem_of_getElem? (i := 19) rfl)) rfl
theorem k7_21 : Jvm.Cond.instanceMethod ⟨"CommitPrefixesModel", "passesAll", "(Z)V"⟩ ∈ TT := tt_mem (tb_7 _ (List.mem_of_getElem? (i := 21) rfl)) rfl
theorem k7_22 : Jvm.Cond.code ⟨"CommitPrefixesModel", "passesAll", "(Z)V"⟩ prog_12_method_97_code 2 Option.none ∈ TT := tt_mem (tb_7 _ (List.mem_of_getElem? (i := 22) rfl)) rfl
theorem k7_23 : Jvm.Cond.methodLink "CommitPrefixesModel" 350 ⟨"CommitPrefixesModel", "passes", "([I)V"⟩ ∈ TT := tt_mem (tb_7 _ (List.mem_of_getElem? (i := 23) rfl)) rfl
theorem k7_25 : Jvm.Cond.instanceMethod ⟨"CommitPrefixesModel", "passes", "([I)V"⟩ ∈ TT := tt_mem (tb_7 _ (List.mem_of_getElem? (i := 25) rfl)) rfl
theorem k7_26 : Jvm.Cond.code ⟨"CommitPrefixesModel", "passes", "([I)V"⟩ prog_12_method_95_code 3 Option.none ∈ TT := tt_mem (tb_7 _ (List.mem_of_getElem? (i := 26) rfl)) rfl
theorem k7_27 : Jvm.Cond.methodLink "CommitPrefixesModel" 354 ⟨"CommitPrefixesModel", "passOne", "(I)I"⟩ ∈ TT := tt_mem (tb_7 _ (List.mem_of_getElem? (i := 27) rfl)) rfl
theorem k7_29 : Jvm.Cond.instanceMethod ⟨"CommitPrefixesModel", "passOne", "(I)I"⟩ ∈ TT := tt_mem (tb_7 _ (List.mem_of_getElem? (i := 29) rfl)) rfl
theorem k7_30 : Jvm.Cond.code ⟨"CommitPrefixesModel", "passOne", "(I)I"⟩ prog_12_method_96_code 3 (Option.some Jvm.ClassFile.FieldType.int) ∈ TT := tt_mem (tb_7 _ (List.mem_of_getElem? (i := 30) rfl)) rfl
theorem k7_31 : Jvm.Cond.methodLink "CommitPrefixesLaw" 150 ⟨"CommitPrefixesModel", "restore", "()I"⟩ ∈ TT := tt_mem (tb_7 _ (List.mem_of_getElem? (i := 31) rfl)) rfl
theorem k7_32 : Jvm.Cond.instanceMethod ⟨"CommitPrefixesModel", "restore", "()I"⟩ ∈ TT := tt_mem (tb_7 _ (List.mem_of_getElem? (i := 32) rfl)) rfl
theorem k7_33 : Jvm.Cond.selects "CommitPrefixesModel" ⟨"CommitPrefixesModel", "restore", "()I"⟩ ⟨"CommitPrefixesModel", "restore", "()I"⟩ ∈ TT := tt_mem (tb_7 _ (List.mem_of_getElem? (i := 33) rfl)) rfl
theorem k7_34 : Jvm.Cond.code ⟨"CommitPrefixesModel", "restore", "()I"⟩ prog_12_method_99_code 1 (Option.some Jvm.ClassFile.FieldType.int) ∈ TT := tt_mem (tb_7 _ (List.mem_of_getElem? (i := 34) rfl)) rfl
theorem k7_35 : Jvm.Cond.methodLink "CommitPrefixesLaw" 154 ⟨"CommitPrefixesModel", "status", "(I)I"⟩ ∈ TT := tt_mem (tb_7 _ (List.mem_of_getElem? (i := 35) rfl)) rfl
theorem k7_36 : Jvm.Cond.instanceMethod ⟨"CommitPrefixesModel", "status", "(I)I"⟩ ∈ TT := tt_mem (tb_7 _ (List.mem_of_getElem? (i := 36) rfl)) rfl
theorem k7_37 : Jvm.Cond.selects "CommitPrefixesModel" ⟨"CommitPrefixesModel", "status", "(I)I"⟩ ⟨"CommitPrefixesModel", "status", "(I)I"⟩ ∈ TT := tt_mem (tb_7 _ (List.mem_of_getElem? (i := 37) rfl)) rfl
theorem k7_38 : Jvm.Cond.code ⟨"CommitPrefixesModel", "status", "(I)I"⟩ prog_12_method_100_code 4 (Option.some Jvm.ClassFile.FieldType.int) ∈ TT := tt_mem (tb_7 _ (List.mem_of_getElem? (i := 38) rfl)) rfl
theorem k7_39 : Jvm.Cond.constantLong "CommitPrefixesLaw" 18 4294967295 ∈ TT := tt_mem (tb_7 _ (List.mem_of_getElem? (i := 39) rfl)) rfl
theorem k7_40 : Jvm.Cond.sameMethod "CommitPrefixes$Site" "CommitPrefixes$Site" "hasNoted" "(II)Z" ∈ TT := tt_mem (tb_7 _ (List.mem_of_getElem? (i := 40) rfl)) rfl
theorem k7_41 : Jvm.Cond.selects "CommitPrefixes$Coordinator" ⟨"CommitPrefixes$Site", "hasNoted", "(II)Z"⟩ ⟨"CommitPrefixes$Site", "hasNoted", "(II)Z"⟩ ∈ TT := tt_mem (tb_7 _ (List.mem_of_getElem? (i := 41) rfl)) rfl
theorem k7_42 : Jvm.Cond.selects "CommitPrefixes$Participant" ⟨"CommitPrefixes$Site", "hasNoted", "(II)Z"⟩ ⟨"CommitPrefixes$Site", "hasNoted", "(II)Z"⟩ ∈ TT := tt_mem (tb_7 _ (List.mem_of_getElem? (i := 42) rfl)) rfl
theorem n7_43 : Jvm.Cond.castable "CommitPrefixes$Coordinator" "CommitPrefixes$Site" ∈ lw_tbl := tb_7 _ (List.mem_of_getElem? (i := 43) rfl)
theorem n7_44 : Jvm.Cond.castable "CommitPrefixes$Participant" "CommitPrefixes$Site" ∈ lw_tbl := tb_7 _ (List.mem_of_getElem? (i := 44) rfl)
theorem k7_45 : Jvm.Cond.fieldLink "CommitPrefixes$TextReader" 75 "CommitPrefixes$Item" "letters" "Ljava/lang/String;" ∈ TT := tt_mem (tb_7 _ (List.mem_of_getElem? (i := 45) rfl)) rfl
theorem k7_46 : Jvm.Cond.fieldLink "java/lang/String" 9 "java/lang/String" "value" "[B" ∈ TT := tt_mem (tb_7 _ (List.mem_of_getElem? (i := 46) rfl)) rfl
theorem k7_47 : Jvm.Cond.fieldLink "java/lang/String" 15 "java/lang/String" "coder" "B" ∈ TT := tt_mem (tb_7 _ (List.mem_of_getElem? (i := 47) rfl)) rfl
theorem k7_48 : Jvm.Cond.fieldLink "CommitPrefixes$TextReader" 46 "CommitPrefixes$Item" "numbers" "I" ∈ TT := tt_mem (tb_7 _ (List.mem_of_getElem? (i := 48) rfl)) rfl
theorem k7_49 : Jvm.Cond.fieldLink "CommitPrefixes$TextReader" 65 "CommitPrefixes$Item" "low" "I" ∈ TT := tt_mem (tb_7 _ (List.mem_of_getElem? (i := 49) rfl)) rfl
theorem k7_50 : Jvm.Cond.fieldLink "CommitPrefixes$TextReader" 68 "CommitPrefixes$Item" "high" "I" ∈ TT := tt_mem (tb_7 _ (List.mem_of_getElem? (i := 50) rfl)) rfl
theorem k7_51 : Jvm.Cond.fieldLink "java/lang/Enum" 7 "java/lang/Enum" "ordinal" "I" ∈ TT := tt_mem (tb_7 _ (List.mem_of_getElem? (i := 51) rfl)) rfl
theorem k7_52 : Jvm.Cond.fieldLink "CommitPrefixes$Setup" 60 "CommitPrefixes$Item" "low" "I" ∈ TT := tt_mem (tb_7 _ (List.mem_of_getElem? (i := 52) rfl)) rfl
theorem k7_53 : Jvm.Cond.fieldLink "CommitPrefixes$Setup" 63 "CommitPrefixes$Item" "high" "I" ∈ TT := tt_mem (tb_7 _ (List.mem_of_getElem? (i := 53) rfl)) rfl
theorem n7_54 : Jvm.Cond.laysStatic "CommitPrefixes$Item" "NO" "LCommitPrefixes$Item;" ∈ lw_tbl := tb_7 _ (List.mem_of_getElem? (i := 54) rfl)
theorem n7_55 : Jvm.Cond.laysStatic "CommitPrefixes$Item" "KEEP" "LCommitPrefixes$Item;" ∈ lw_tbl := tb_7 _ (List.mem_of_getElem? (i := 55) rfl)
theorem n7_56 : Jvm.Cond.laysStatic "CommitPrefixes$Item" "DOWN" "LCommitPrefixes$Item;" ∈ lw_tbl := tb_7 _ (List.mem_of_getElem? (i := 56) rfl)
theorem n7_57 : Jvm.Cond.laysStatic "CommitPrefixes$Item" "UP" "LCommitPrefixes$Item;" ∈ lw_tbl := tb_7 _ (List.mem_of_getElem? (i := 57) rfl)
theorem n7_58 : Jvm.Cond.laysStatic "CommitPrefixes$Item" "PLAIN" "LCommitPrefixes$Item;" ∈ lw_tbl := tb_7 _ (List.mem_of_getElem? (i := 58) rfl)
theorem n7_59 : Jvm.Cond.stringRef "CommitPrefixes$Item" 83 "yes" ∈ lw_tbl := tb_7 _ (List.mem_of_getElem? (i := 59) rfl)
theorem k7_60 : Jvm.Cond.arrayClass Jvm.ClassFile.FieldType.byte ∈ TT := tt_mem (tb_7 _ (List.mem_of_getElem? (i := 60) rfl)) rfl
theorem n7_61 : Jvm.Cond.stringRef "CommitPrefixes$Item" 89 "lose" ∈ lw_tbl := tb_7 _ (List.mem_of_getElem? (i := 61) rfl)
theorem n7_62 : Jvm.Cond.stringRef "CommitPrefixes$Item" 101 "presume" ∈ lw_tbl := tb_7 _ (List.mem_of_getElem? (i := 62) rfl)
theorem n7_63 : Jvm.Cond.stringRef "CommitPrefixes$Item" 71 "sites" ∈ lw_tbl := tb_7 _ (List.mem_of_getElem? (i := 63) rfl)
theorem n7_64 : Jvm.Cond.stringRef "CommitPrefixes$Item" 77 "phases" ∈ lw_tbl := tb_7 _ (List.mem_of_getElem? (i := 64) rfl)
theorem n7_65 : Jvm.Cond.stringRef "CommitPrefixes$Item" 80 "wait" ∈ lw_tbl := tb_7 _ (List.mem_of_getElem? (i := 65) rfl)
theorem n7_66 : Jvm.Cond.stringRef "CommitPrefixes$Item" 86 "no" ∈ lw_tbl := tb_7 _ (List.mem_of_getElem? (i := 66) rfl)
theorem n7_67 : Jvm.Cond.stringRef "CommitPrefixes$Item" 92 "keep" ∈ lw_tbl := tb_7 _ (List.mem_of_getElem? (i := 67) rfl)
theorem n7_68 : Jvm.Cond.stringRef "CommitPrefixes$Item" 95 "down" ∈ lw_tbl := tb_7 _ (List.mem_of_getElem? (i := 68) rfl)
theorem n7_69 : Jvm.Cond.stringRef "CommitPrefixes$Item" 98 "up" ∈ lw_tbl := tb_7 _ (List.mem_of_getElem? (i := 69) rfl)
theorem n7_70 : Jvm.Cond.stringRef "CommitPrefixes$Item" 104 "plain" ∈ lw_tbl := tb_7 _ (List.mem_of_getElem? (i := 70) rfl)
theorem sl_1 : ∀ q ∈ lw_privs_1, Cond.selects q.1.cls q.1 q.1 ∈ lw_tbl := fun q h => List.mem_append_left _ (List.mem_map.mpr ⟨q, List.mem_append_left _ h, rfl⟩)
theorem s1_0 : Cond.selects "CommitPrefixes" ⟨"CommitPrefixes", "refuse", "(I)I"⟩ ⟨"CommitPrefixes", "refuse", "(I)I"⟩ ∈ TT := tt_mem (sl_1 _ (List.mem_of_getElem? (i := 0) (a := (⟨"CommitPrefixes", "refuse", "(I)I"⟩, 13)) rfl)) rfl
theorem s1_1 : Cond.selects "CommitPrefixes" ⟨"CommitPrefixes", "rowLack", "(I)I"⟩ ⟨"CommitPrefixes", "rowLack", "(I)I"⟩ ∈ TT := tt_mem (sl_1 _ (List.mem_of_getElem? (i := 1) (a := (⟨"CommitPrefixes", "rowLack", "(I)I"⟩, 13)) rfl)) rfl
theorem s1_2 : Cond.selects "CommitPrefixes$Shelf" ⟨"CommitPrefixes$Shelf", "lowestBits", "(J)J"⟩ ⟨"CommitPrefixes$Shelf", "lowestBits", "(J)J"⟩ ∈ TT := tt_mem (sl_1 _ (List.mem_of_getElem? (i := 2) (a := (⟨"CommitPrefixes$Shelf", "lowestBits", "(J)J"⟩, 8)) rfl)) rfl
theorem s1_3 : Cond.selects "CommitPrefixes" ⟨"CommitPrefixes", "copyLack", "(II)I"⟩ ⟨"CommitPrefixes", "copyLack", "(II)I"⟩ ∈ TT := tt_mem (sl_1 _ (List.mem_of_getElem? (i := 3) (a := (⟨"CommitPrefixes", "copyLack", "(II)I"⟩, 13)) rfl)) rfl
theorem s1_4 : Cond.selects "CommitPrefixes" ⟨"CommitPrefixes", "current", "()LCommitPrefixes$Run;"⟩ ⟨"CommitPrefixes", "current", "()LCommitPrefixes$Run;"⟩ ∈ TT := tt_mem (sl_1 _ (List.mem_of_getElem? (i := 4) (a := (⟨"CommitPrefixes", "current", "()LCommitPrefixes$Run;"⟩, 13)) rfl)) rfl
theorem s1_5 : Cond.selects "CommitPrefixes$Run" ⟨"CommitPrefixes$Run", "comeUp", "()V"⟩ ⟨"CommitPrefixes$Run", "comeUp", "()V"⟩ ∈ TT := tt_mem (sl_1 _ (List.mem_of_getElem? (i := 5) (a := (⟨"CommitPrefixes$Run", "comeUp", "()V"⟩, 17)) rfl)) rfl
theorem s1_6 : Cond.selects "CommitPrefixes$Coordinator" ⟨"CommitPrefixes$Coordinator", "turnTo", "(II)V"⟩ ⟨"CommitPrefixes$Coordinator", "turnTo", "(II)V"⟩ ∈ TT := tt_mem (sl_1 _ (List.mem_of_getElem? (i := 6) (a := (⟨"CommitPrefixes$Coordinator", "turnTo", "(II)V"⟩, 7)) rfl)) rfl
theorem s1_7 : Cond.selects "CommitPrefixes$Coordinator" ⟨"CommitPrefixes$Coordinator", "decideAbort", "(LCommitPrefixes$Run;)V"⟩ ⟨"CommitPrefixes$Coordinator", "decideAbort", "(LCommitPrefixes$Run;)V"⟩ ∈ TT := tt_mem (sl_1 _ (List.mem_of_getElem? (i := 7) (a := (⟨"CommitPrefixes$Coordinator", "decideAbort", "(LCommitPrefixes$Run;)V"⟩, 7)) rfl)) rfl
theorem s1_8 : Cond.selects "CommitPrefixes$Run" ⟨"CommitPrefixes$Run", "goDown", "()V"⟩ ⟨"CommitPrefixes$Run", "goDown", "()V"⟩ ∈ TT := tt_mem (sl_1 _ (List.mem_of_getElem? (i := 8) (a := (⟨"CommitPrefixes$Run", "goDown", "()V"⟩, 17)) rfl)) rfl
theorem s1_9 : Cond.selects "CommitPrefixes$Run" ⟨"CommitPrefixes$Run", "deliver", "(II)V"⟩ ⟨"CommitPrefixes$Run", "deliver", "(II)V"⟩ ∈ TT := tt_mem (sl_1 _ (List.mem_of_getElem? (i := 9) (a := (⟨"CommitPrefixes$Run", "deliver", "(II)V"⟩, 17)) rfl)) rfl
theorem s1_10 : Cond.selects "CommitPrefixes$Coordinator" ⟨"CommitPrefixes$Coordinator", "allCounted", "(LCommitPrefixes$Run;I)Z"⟩ ⟨"CommitPrefixes$Coordinator", "allCounted", "(LCommitPrefixes$Run;I)Z"⟩ ∈ TT := tt_mem (sl_1 _ (List.mem_of_getElem? (i := 10) (a := (⟨"CommitPrefixes$Coordinator", "allCounted", "(LCommitPrefixes$Run;I)Z"⟩, 7)) rfl)) rfl
theorem s1_11 : Cond.selects "CommitPrefixes$Coordinator" ⟨"CommitPrefixes$Coordinator", "decideCommit", "(LCommitPrefixes$Run;)V"⟩ ⟨"CommitPrefixes$Coordinator", "decideCommit", "(LCommitPrefixes$Run;)V"⟩ ∈ TT := tt_mem (sl_1 _ (List.mem_of_getElem? (i := 11) (a := (⟨"CommitPrefixes$Coordinator", "decideCommit", "(LCommitPrefixes$Run;)V"⟩, 7)) rfl)) rfl
theorem s1_12 : Cond.selects "CommitPrefixes$Coordinator" ⟨"CommitPrefixes$Coordinator", "preCommit", "(LCommitPrefixes$Run;)V"⟩ ⟨"CommitPrefixes$Coordinator", "preCommit", "(LCommitPrefixes$Run;)V"⟩ ∈ TT := tt_mem (sl_1 _ (List.mem_of_getElem? (i := 12) (a := (⟨"CommitPrefixes$Coordinator", "preCommit", "(LCommitPrefixes$Run;)V"⟩, 7)) rfl)) rfl
theorem s1_13 : Cond.selects "CommitPrefixes$Coordinator" ⟨"CommitPrefixes$Coordinator", "tellsDecision", "()Z"⟩ ⟨"CommitPrefixes$Coordinator", "tellsDecision", "()Z"⟩ ∈ TT := tt_mem (sl_1 _ (List.mem_of_getElem? (i := 13) (a := (⟨"CommitPrefixes$Coordinator", "tellsDecision", "()Z"⟩, 7)) rfl)) rfl
theorem s1_14 : Cond.selects "CommitPrefixes$Coordinator" ⟨"CommitPrefixes$Coordinator", "decision", "()I"⟩ ⟨"CommitPrefixes$Coordinator", "decision", "()I"⟩ ∈ TT := tt_mem (sl_1 _ (List.mem_of_getElem? (i := 14) (a := (⟨"CommitPrefixes$Coordinator", "decision", "()I"⟩, 7)) rfl)) rfl
theorem s1_15 : Cond.selects "CommitPrefixes$Participant" ⟨"CommitPrefixes$Participant", "sayYes", "(LCommitPrefixes$Run;)V"⟩ ⟨"CommitPrefixes$Participant", "sayYes", "(LCommitPrefixes$Run;)V"⟩ ∈ TT := tt_mem (sl_1 _ (List.mem_of_getElem? (i := 15) (a := (⟨"CommitPrefixes$Participant", "sayYes", "(LCommitPrefixes$Run;)V"⟩, 6)) rfl)) rfl
theorem sl_2 : ∀ q ∈ lw_privs_2, Cond.selects q.1.cls q.1 q.1 ∈ lw_tbl := fun q h => List.mem_append_left _ (List.mem_map.mpr ⟨q, List.mem_append_right _ (List.mem_append_left _ h), rfl⟩)
theorem s2_0 : Cond.selects "CommitPrefixes$Participant" ⟨"CommitPrefixes$Participant", "settle", "(I)V"⟩ ⟨"CommitPrefixes$Participant", "settle", "(I)V"⟩ ∈ TT := tt_mem (sl_2 _ (List.mem_of_getElem? (i := 0) (a := (⟨"CommitPrefixes$Participant", "settle", "(I)V"⟩, 6)) rfl)) rfl
theorem s2_1 : Cond.selects "CommitPrefixes$Participant" ⟨"CommitPrefixes$Participant", "hearPre", "(LCommitPrefixes$Run;)V"⟩ ⟨"CommitPrefixes$Participant", "hearPre", "(LCommitPrefixes$Run;)V"⟩ ∈ TT := tt_mem (sl_2 _ (List.mem_of_getElem? (i := 1) (a := (⟨"CommitPrefixes$Participant", "hearPre", "(LCommitPrefixes$Run;)V"⟩, 6)) rfl)) rfl
theorem s2_2 : Cond.selects "CommitPrefixes$Participant" ⟨"CommitPrefixes$Participant", "isSettled", "()Z"⟩ ⟨"CommitPrefixes$Participant", "isSettled", "()Z"⟩ ∈ TT := tt_mem (sl_2 _ (List.mem_of_getElem? (i := 2) (a := (⟨"CommitPrefixes$Participant", "isSettled", "()Z"⟩, 6)) rfl)) rfl
theorem s2_3 : Cond.selects "CommitPrefixes$Run" ⟨"CommitPrefixes$Run", "endWaits", "()V"⟩ ⟨"CommitPrefixes$Run", "endWaits", "()V"⟩ ∈ TT := tt_mem (sl_2 _ (List.mem_of_getElem? (i := 3) (a := (⟨"CommitPrefixes$Run", "endWaits", "()V"⟩, 17)) rfl)) rfl
theorem s2_4 : Cond.selects "CommitPrefixes$Run" ⟨"CommitPrefixes$Run", "keepMoment", "()V"⟩ ⟨"CommitPrefixes$Run", "keepMoment", "()V"⟩ ∈ TT := tt_mem (sl_2 _ (List.mem_of_getElem? (i := 4) (a := (⟨"CommitPrefixes$Run", "keepMoment", "()V"⟩, 17)) rfl)) rfl
theorem s2_5 : Cond.selects "CommitPrefixes$Run" ⟨"CommitPrefixes$Run", "isAnythingAhead", "()Z"⟩ ⟨"CommitPrefixes$Run", "isAnythingAhead", "()Z"⟩ ∈ TT := tt_mem (sl_2 _ (List.mem_of_getElem? (i := 5) (a := (⟨"CommitPrefixes$Run", "isAnythingAhead", "()Z"⟩, 17)) rfl)) rfl
theorem s2_6 : Cond.selects "CommitPrefixes$TextReader" ⟨"CommitPrefixes$TextReader", "readItem", "(LCommitPrefixes$Shelf;)Z"⟩ ⟨"CommitPrefixes$TextReader", "readItem", "(LCommitPrefixes$Shelf;)Z"⟩ ∈ TT := tt_mem (sl_2 _ (List.mem_of_getElem? (i := 6) (a := (⟨"CommitPrefixes$TextReader", "readItem", "(LCommitPrefixes$Shelf;)Z"⟩, 4)) rfl)) rfl
theorem s2_7 : Cond.selects "CommitPrefixes$TextReader" ⟨"CommitPrefixes$TextReader", "readWord", "(LCommitPrefixes$Shelf;)LCommitPrefixes$Item;"⟩ ⟨"CommitPrefixes$TextReader", "readWord", "(LCommitPrefixes$Shelf;)LCommitPrefixes$Item;"⟩ ∈ TT := tt_mem (sl_2 _ (List.mem_of_getElem? (i := 7) (a := (⟨"CommitPrefixes$TextReader", "readWord", "(LCommitPrefixes$Shelf;)LCommitPrefixes$Item;"⟩, 4)) rfl)) rfl
theorem s2_8 : Cond.selects "CommitPrefixes$TextReader" ⟨"CommitPrefixes$TextReader", "sameLetters", "(LCommitPrefixes$Shelf;Ljava/lang/String;)I"⟩ ⟨"CommitPrefixes$TextReader", "sameLetters", "(LCommitPrefixes$Shelf;Ljava/lang/String;)I"⟩ ∈ TT := tt_mem (sl_2 _ (List.mem_of_getElem? (i := 8) (a := (⟨"CommitPrefixes$TextReader", "sameLetters", "(LCommitPrefixes$Shelf;Ljava/lang/String;)I"⟩, 4)) rfl)) rfl
theorem s2_9 : Cond.selects "CommitPrefixes$TextReader" ⟨"CommitPrefixes$TextReader", "stands", "(LCommitPrefixes$Shelf;II)Z"⟩ ⟨"CommitPrefixes$TextReader", "stands", "(LCommitPrefixes$Shelf;II)Z"⟩ ∈ TT := tt_mem (sl_2 _ (List.mem_of_getElem? (i := 9) (a := (⟨"CommitPrefixes$TextReader", "stands", "(LCommitPrefixes$Shelf;II)Z"⟩, 4)) rfl)) rfl
theorem s2_10 : Cond.selects "CommitPrefixes$TextReader" ⟨"CommitPrefixes$TextReader", "readSign", "(LCommitPrefixes$Shelf;I)Z"⟩ ⟨"CommitPrefixes$TextReader", "readSign", "(LCommitPrefixes$Shelf;I)Z"⟩ ∈ TT := tt_mem (sl_2 _ (List.mem_of_getElem? (i := 10) (a := (⟨"CommitPrefixes$TextReader", "readSign", "(LCommitPrefixes$Shelf;I)Z"⟩, 4)) rfl)) rfl
theorem s2_11 : Cond.selects "CommitPrefixes$TextReader" ⟨"CommitPrefixes$TextReader", "lowest", "(LCommitPrefixes$Item;I)I"⟩ ⟨"CommitPrefixes$TextReader", "lowest", "(LCommitPrefixes$Item;I)I"⟩ ∈ TT := tt_mem (sl_2 _ (List.mem_of_getElem? (i := 11) (a := (⟨"CommitPrefixes$TextReader", "lowest", "(LCommitPrefixes$Item;I)I"⟩, 4)) rfl)) rfl
theorem s2_12 : Cond.selects "CommitPrefixes$TextReader" ⟨"CommitPrefixes$TextReader", "highest", "(LCommitPrefixes$Item;I)I"⟩ ⟨"CommitPrefixes$TextReader", "highest", "(LCommitPrefixes$Item;I)I"⟩ ∈ TT := tt_mem (sl_2 _ (List.mem_of_getElem? (i := 12) (a := (⟨"CommitPrefixes$TextReader", "highest", "(LCommitPrefixes$Item;I)I"⟩, 4)) rfl)) rfl
theorem s2_13 : Cond.selects "CommitPrefixes$TextReader" ⟨"CommitPrefixes$TextReader", "readNumber", "(LCommitPrefixes$Shelf;III)Z"⟩ ⟨"CommitPrefixes$TextReader", "readNumber", "(LCommitPrefixes$Shelf;III)Z"⟩ ∈ TT := tt_mem (sl_2 _ (List.mem_of_getElem? (i := 13) (a := (⟨"CommitPrefixes$TextReader", "readNumber", "(LCommitPrefixes$Shelf;III)Z"⟩, 4)) rfl)) rfl
theorem s2_14 : Cond.selects "CommitPrefixes$TextReader" ⟨"CommitPrefixes$TextReader", "isDigit", "(LCommitPrefixes$Shelf;I)Z"⟩ ⟨"CommitPrefixes$TextReader", "isDigit", "(LCommitPrefixes$Shelf;I)Z"⟩ ∈ TT := tt_mem (sl_2 _ (List.mem_of_getElem? (i := 14) (a := (⟨"CommitPrefixes$TextReader", "isDigit", "(LCommitPrefixes$Shelf;I)Z"⟩, 4)) rfl)) rfl
theorem s2_15 : Cond.selects "CommitPrefixes" ⟨"CommitPrefixes", "forgetRuns", "()V"⟩ ⟨"CommitPrefixes", "forgetRuns", "()V"⟩ ∈ TT := tt_mem (sl_2 _ (List.mem_of_getElem? (i := 15) (a := (⟨"CommitPrefixes", "forgetRuns", "()V"⟩, 13)) rfl)) rfl
theorem sl_3 : ∀ q ∈ lw_privs_3, Cond.selects q.1.cls q.1 q.1 ∈ lw_tbl := fun q h => List.mem_append_left _ (List.mem_map.mpr ⟨q, List.mem_append_right _ (List.mem_append_right _ (List.mem_append_left _ h)), rfl⟩)
theorem s3_0 : Cond.selects "CommitPrefixes" ⟨"CommitPrefixes", "momentLack", "(II)I"⟩ ⟨"CommitPrefixes", "momentLack", "(II)I"⟩ ∈ TT := tt_mem (sl_3 _ (List.mem_of_getElem? (i := 0) (a := (⟨"CommitPrefixes", "momentLack", "(II)I"⟩, 13)) rfl)) rfl
theorem s3_1 : Cond.selects "CommitPrefixes" ⟨"CommitPrefixes", "isSite", "(I)Z"⟩ ⟨"CommitPrefixes", "isSite", "(I)Z"⟩ ∈ TT := tt_mem (sl_3 _ (List.mem_of_getElem? (i := 1) (a := (⟨"CommitPrefixes", "isSite", "(I)Z"⟩, 13)) rfl)) rfl
theorem s3_2 : Cond.selects "CommitPrefixes$Run" ⟨"CommitPrefixes$Run", "moment", "(II)I"⟩ ⟨"CommitPrefixes$Run", "moment", "(II)I"⟩ ∈ TT := tt_mem (sl_3 _ (List.mem_of_getElem? (i := 2) (a := (⟨"CommitPrefixes$Run", "moment", "(II)I"⟩, 17)) rfl)) rfl
theorem s3_3 : Cond.selects "CommitPrefixes$Run" ⟨"CommitPrefixes$Run", "isSameAsBefore", "(I)Z"⟩ ⟨"CommitPrefixes$Run", "isSameAsBefore", "(I)Z"⟩ ∈ TT := tt_mem (sl_3 _ (List.mem_of_getElem? (i := 3) (a := (⟨"CommitPrefixes$Run", "isSameAsBefore", "(I)Z"⟩, 17)) rfl)) rfl
theorem s3_4 : Cond.selects "CommitPrefixes" ⟨"CommitPrefixes", "tryLosses", "(LCommitPrefixes$Run;)V"⟩ ⟨"CommitPrefixes", "tryLosses", "(LCommitPrefixes$Run;)V"⟩ ∈ TT := tt_mem (sl_3 _ (List.mem_of_getElem? (i := 4) (a := (⟨"CommitPrefixes", "tryLosses", "(LCommitPrefixes$Run;)V"⟩, 13)) rfl)) rfl
theorem s3_5 : Cond.selects "CommitPrefixes" ⟨"CommitPrefixes", "judgeLack", "(III)I"⟩ ⟨"CommitPrefixes", "judgeLack", "(III)I"⟩ ∈ TT := tt_mem (sl_3 _ (List.mem_of_getElem? (i := 5) (a := (⟨"CommitPrefixes", "judgeLack", "(III)I"⟩, 13)) rfl)) rfl
theorem s3_6 : Cond.selects "CommitPrefixesModel" ⟨"CommitPrefixesModel", "no", "(I)I"⟩ ⟨"CommitPrefixesModel", "no", "(I)I"⟩ ∈ TT := tt_mem (sl_3 _ (List.mem_of_getElem? (i := 6) (a := (⟨"CommitPrefixesModel", "no", "(I)I"⟩, 43)) rfl)) rfl
theorem s3_7 : Cond.selects "CommitPrefixesModel" ⟨"CommitPrefixesModel", "notRow", "(I)I"⟩ ⟨"CommitPrefixesModel", "notRow", "(I)I"⟩ ∈ TT := tt_mem (sl_3 _ (List.mem_of_getElem? (i := 7) (a := (⟨"CommitPrefixesModel", "notRow", "(I)I"⟩, 43)) rfl)) rfl
theorem s3_8 : Cond.selects "CommitPrefixesModel" ⟨"CommitPrefixesModel", "notCopied", "(IIIII)I"⟩ ⟨"CommitPrefixesModel", "notCopied", "(IIIII)I"⟩ ∈ TT := tt_mem (sl_3 _ (List.mem_of_getElem? (i := 8) (a := (⟨"CommitPrefixesModel", "notCopied", "(IIIII)I"⟩, 43)) rfl)) rfl
theorem s3_9 : Cond.selects "CommitPrefixesModel" ⟨"CommitPrefixesModel", "isRow", "(I)Z"⟩ ⟨"CommitPrefixesModel", "isRow", "(I)Z"⟩ ∈ TT := tt_mem (sl_3 _ (List.mem_of_getElem? (i := 9) (a := (⟨"CommitPrefixesModel", "isRow", "(I)Z"⟩, 43)) rfl)) rfl
theorem s3_10 : Cond.selects "CommitPrefixesModel" ⟨"CommitPrefixesModel", "runs", "()V"⟩ ⟨"CommitPrefixesModel", "runs", "()V"⟩ ∈ TT := tt_mem (sl_3 _ (List.mem_of_getElem? (i := 10) (a := (⟨"CommitPrefixesModel", "runs", "()V"⟩, 43)) rfl)) rfl
theorem s3_11 : Cond.selects "CommitPrefixesModel" ⟨"CommitPrefixesModel", "goesTick", "()V"⟩ ⟨"CommitPrefixesModel", "goesTick", "()V"⟩ ∈ TT := tt_mem (sl_3 _ (List.mem_of_getElem? (i := 11) (a := (⟨"CommitPrefixesModel", "goesTick", "()V"⟩, 43)) rfl)) rfl
theorem s3_12 : Cond.selects "CommitPrefixesModel" ⟨"CommitPrefixesModel", "goesSites", "()V"⟩ ⟨"CommitPrefixesModel", "goesSites", "()V"⟩ ∈ TT := tt_mem (sl_3 _ (List.mem_of_getElem? (i := 12) (a := (⟨"CommitPrefixesModel", "goesSites", "()V"⟩, 43)) rfl)) rfl
theorem s3_13 : Cond.selects "CommitPrefixesModel" ⟨"CommitPrefixesModel", "recovers", "(I)V"⟩ ⟨"CommitPrefixesModel", "recovers", "(I)V"⟩ ∈ TT := tt_mem (sl_3 _ (List.mem_of_getElem? (i := 13) (a := (⟨"CommitPrefixesModel", "recovers", "(I)V"⟩, 43)) rfl)) rfl
theorem s3_14 : Cond.selects "CommitPrefixesModel" ⟨"CommitPrefixesModel", "recoversCoordinator", "()V"⟩ ⟨"CommitPrefixesModel", "recoversCoordinator", "()V"⟩ ∈ TT := tt_mem (sl_3 _ (List.mem_of_getElem? (i := 14) (a := (⟨"CommitPrefixesModel", "recoversCoordinator", "()V"⟩, 43)) rfl)) rfl
theorem s3_15 : Cond.selects "CommitPrefixesModel" ⟨"CommitPrefixesModel", "lastOf", "(II)I"⟩ ⟨"CommitPrefixesModel", "lastOf", "(II)I"⟩ ∈ TT := tt_mem (sl_3 _ (List.mem_of_getElem? (i := 15) (a := (⟨"CommitPrefixesModel", "lastOf", "(II)I"⟩, 43)) rfl)) rfl
theorem sl_4 : ∀ q ∈ lw_privs_4, Cond.selects q.1.cls q.1 q.1 ∈ lw_tbl := fun q h => List.mem_append_left _ (List.mem_map.mpr ⟨q, List.mem_append_right _ (List.mem_append_right _ (List.mem_append_right _ (List.mem_append_left _ h))), rfl⟩)
theorem s4_0 : Cond.selects "CommitPrefixesModel" ⟨"CommitPrefixesModel", "sendsAll", "(I)V"⟩ ⟨"CommitPrefixesModel", "sendsAll", "(I)V"⟩ ∈ TT := tt_mem (sl_4 _ (List.mem_of_getElem? (i := 0) (a := (⟨"CommitPrefixesModel", "sendsAll", "(I)V"⟩, 43)) rfl)) rfl
theorem s4_1 : Cond.selects "CommitPrefixesModel" ⟨"CommitPrefixesModel", "sends", "(III)V"⟩ ⟨"CommitPrefixesModel", "sends", "(III)V"⟩ ∈ TT := tt_mem (sl_4 _ (List.mem_of_getElem? (i := 1) (a := (⟨"CommitPrefixesModel", "sends", "(III)V"⟩, 43)) rfl)) rfl
theorem s4_2 : Cond.selects "CommitPrefixesModel" ⟨"CommitPrefixesModel", "startsTimer", "(I)V"⟩ ⟨"CommitPrefixesModel", "startsTimer", "(I)V"⟩ ∈ TT := tt_mem (sl_4 _ (List.mem_of_getElem? (i := 2) (a := (⟨"CommitPrefixesModel", "startsTimer", "(I)V"⟩, 43)) rfl)) rfl
theorem s4_3 : Cond.selects "CommitPrefixesModel" ⟨"CommitPrefixesModel", "decidesAbort", "()V"⟩ ⟨"CommitPrefixesModel", "decidesAbort", "()V"⟩ ∈ TT := tt_mem (sl_4 _ (List.mem_of_getElem? (i := 3) (a := (⟨"CommitPrefixesModel", "decidesAbort", "()V"⟩, 43)) rfl)) rfl
theorem s4_4 : Cond.selects "CommitPrefixesModel" ⟨"CommitPrefixesModel", "notes", "(II)V"⟩ ⟨"CommitPrefixesModel", "notes", "(II)V"⟩ ∈ TT := tt_mem (sl_4 _ (List.mem_of_getElem? (i := 4) (a := (⟨"CommitPrefixesModel", "notes", "(II)V"⟩, 43)) rfl)) rfl
theorem s4_5 : Cond.selects "CommitPrefixesModel" ⟨"CommitPrefixesModel", "recoversParticipant", "(I)V"⟩ ⟨"CommitPrefixesModel", "recoversParticipant", "(I)V"⟩ ∈ TT := tt_mem (sl_4 _ (List.mem_of_getElem? (i := 5) (a := (⟨"CommitPrefixesModel", "recoversParticipant", "(I)V"⟩, 43)) rfl)) rfl
theorem s4_6 : Cond.selects "CommitPrefixesModel" ⟨"CommitPrefixesModel", "arrives", "(I)V"⟩ ⟨"CommitPrefixesModel", "arrives", "(I)V"⟩ ∈ TT := tt_mem (sl_4 _ (List.mem_of_getElem? (i := 6) (a := (⟨"CommitPrefixesModel", "arrives", "(I)V"⟩, 43)) rfl)) rfl
theorem s4_7 : Cond.selects "CommitPrefixesModel" ⟨"CommitPrefixesModel", "comesToCoordinator", "(II)V"⟩ ⟨"CommitPrefixesModel", "comesToCoordinator", "(II)V"⟩ ∈ TT := tt_mem (sl_4 _ (List.mem_of_getElem? (i := 7) (a := (⟨"CommitPrefixesModel", "comesToCoordinator", "(II)V"⟩, 43)) rfl)) rfl
theorem s4_8 : Cond.selects "CommitPrefixesModel" ⟨"CommitPrefixesModel", "countsAll", "(II)Z"⟩ ⟨"CommitPrefixesModel", "countsAll", "(II)Z"⟩ ∈ TT := tt_mem (sl_4 _ (List.mem_of_getElem? (i := 8) (a := (⟨"CommitPrefixesModel", "countsAll", "(II)Z"⟩, 43)) rfl)) rfl
theorem s4_9 : Cond.selects "CommitPrefixesModel" ⟨"CommitPrefixesModel", "decidesCommit", "()V"⟩ ⟨"CommitPrefixesModel", "decidesCommit", "()V"⟩ ∈ TT := tt_mem (sl_4 _ (List.mem_of_getElem? (i := 9) (a := (⟨"CommitPrefixesModel", "decidesCommit", "()V"⟩, 43)) rfl)) rfl
theorem s4_10 : Cond.selects "CommitPrefixesModel" ⟨"CommitPrefixesModel", "becomesPre", "()V"⟩ ⟨"CommitPrefixesModel", "becomesPre", "()V"⟩ ∈ TT := tt_mem (sl_4 _ (List.mem_of_getElem? (i := 10) (a := (⟨"CommitPrefixesModel", "becomesPre", "()V"⟩, 43)) rfl)) rfl
theorem s4_11 : Cond.selects "CommitPrefixesModel" ⟨"CommitPrefixesModel", "hasDecided", "()Z"⟩ ⟨"CommitPrefixesModel", "hasDecided", "()Z"⟩ ∈ TT := tt_mem (sl_4 _ (List.mem_of_getElem? (i := 11) (a := (⟨"CommitPrefixesModel", "hasDecided", "()Z"⟩, 43)) rfl)) rfl
theorem s4_12 : Cond.selects "CommitPrefixesModel" ⟨"CommitPrefixesModel", "ends", "()V"⟩ ⟨"CommitPrefixesModel", "ends", "()V"⟩ ∈ TT := tt_mem (sl_4 _ (List.mem_of_getElem? (i := 12) (a := (⟨"CommitPrefixesModel", "ends", "()V"⟩, 43)) rfl)) rfl
theorem s4_13 : Cond.selects "CommitPrefixesModel" ⟨"CommitPrefixesModel", "comesToParticipant", "(III)V"⟩ ⟨"CommitPrefixesModel", "comesToParticipant", "(III)V"⟩ ∈ TT := tt_mem (sl_4 _ (List.mem_of_getElem? (i := 13) (a := (⟨"CommitPrefixesModel", "comesToParticipant", "(III)V"⟩, 43)) rfl)) rfl
theorem s4_14 : Cond.selects "CommitPrefixesModel" ⟨"CommitPrefixesModel", "comesPrepare", "(I)V"⟩ ⟨"CommitPrefixesModel", "comesPrepare", "(I)V"⟩ ∈ TT := tt_mem (sl_4 _ (List.mem_of_getElem? (i := 14) (a := (⟨"CommitPrefixesModel", "comesPrepare", "(I)V"⟩, 43)) rfl)) rfl
theorem s4_15 : Cond.selects "CommitPrefixesModel" ⟨"CommitPrefixesModel", "comesPre", "(I)V"⟩ ⟨"CommitPrefixesModel", "comesPre", "(I)V"⟩ ∈ TT := tt_mem (sl_4 _ (List.mem_of_getElem? (i := 15) (a := (⟨"CommitPrefixesModel", "comesPre", "(I)V"⟩, 43)) rfl)) rfl
theorem sl_5 : ∀ q ∈ lw_privs_5, Cond.selects q.1.cls q.1 q.1 ∈ lw_tbl := fun q h => List.mem_append_left _ (List.mem_map.mpr ⟨q, List.mem_append_right _ (List.mem_append_right _ (List.mem_append_right _ (List.mem_append_right _ (List.mem_append_left _ h)))), rfl⟩)
theorem s5_0 : Cond.selects "CommitPrefixesModel" ⟨"CommitPrefixesModel", "comesDecision", "(II)V"⟩ ⟨"CommitPrefixesModel", "comesDecision", "(II)V"⟩ ∈ TT := tt_mem (sl_5 _ (List.mem_of_getElem? (i := 0) (a := (⟨"CommitPrefixesModel", "comesDecision", "(II)V"⟩, 43)) rfl)) rfl
theorem s5_1 : Cond.selects "CommitPrefixesModel" ⟨"CommitPrefixesModel", "comesAsk", "(II)V"⟩ ⟨"CommitPrefixesModel", "comesAsk", "(II)V"⟩ ∈ TT := tt_mem (sl_5 _ (List.mem_of_getElem? (i := 1) (a := (⟨"CommitPrefixesModel", "comesAsk", "(II)V"⟩, 43)) rfl)) rfl
theorem s5_2 : Cond.selects "CommitPrefixesModel" ⟨"CommitPrefixesModel", "beginsCoordinator", "()V"⟩ ⟨"CommitPrefixesModel", "beginsCoordinator", "()V"⟩ ∈ TT := tt_mem (sl_5 _ (List.mem_of_getElem? (i := 2) (a := (⟨"CommitPrefixesModel", "beginsCoordinator", "()V"⟩, 43)) rfl)) rfl
theorem s5_3 : Cond.selects "CommitPrefixesModel" ⟨"CommitPrefixesModel", "timesOut", "(I)V"⟩ ⟨"CommitPrefixesModel", "timesOut", "(I)V"⟩ ∈ TT := tt_mem (sl_5 _ (List.mem_of_getElem? (i := 3) (a := (⟨"CommitPrefixesModel", "timesOut", "(I)V"⟩, 43)) rfl)) rfl
theorem s5_4 : Cond.selects "CommitPrefixesModel" ⟨"CommitPrefixesModel", "timesOutCoordinator", "()V"⟩ ⟨"CommitPrefixesModel", "timesOutCoordinator", "()V"⟩ ∈ TT := tt_mem (sl_5 _ (List.mem_of_getElem? (i := 4) (a := (⟨"CommitPrefixesModel", "timesOutCoordinator", "()V"⟩, 43)) rfl)) rfl
theorem s5_5 : Cond.selects "CommitPrefixesModel" ⟨"CommitPrefixesModel", "timesOutParticipant", "(I)V"⟩ ⟨"CommitPrefixesModel", "timesOutParticipant", "(I)V"⟩ ∈ TT := tt_mem (sl_5 _ (List.mem_of_getElem? (i := 5) (a := (⟨"CommitPrefixesModel", "timesOutParticipant", "(I)V"⟩, 43)) rfl)) rfl
theorem s5_6 : Cond.selects "CommitPrefixesModel" ⟨"CommitPrefixesModel", "asksAll", "(I)V"⟩ ⟨"CommitPrefixesModel", "asksAll", "(I)V"⟩ ∈ TT := tt_mem (sl_5 _ (List.mem_of_getElem? (i := 6) (a := (⟨"CommitPrefixesModel", "asksAll", "(I)V"⟩, 43)) rfl)) rfl
theorem s5_7 : Cond.selects "CommitPrefixesModel" ⟨"CommitPrefixesModel", "readsAll", "()Z"⟩ ⟨"CommitPrefixesModel", "readsAll", "()Z"⟩ ∈ TT := tt_mem (sl_5 _ (List.mem_of_getElem? (i := 7) (a := (⟨"CommitPrefixesModel", "readsAll", "()Z"⟩, 43)) rfl)) rfl
theorem s5_8 : Cond.selects "CommitPrefixesModel" ⟨"CommitPrefixesModel", "readsItem", "()Z"⟩ ⟨"CommitPrefixesModel", "readsItem", "()Z"⟩ ∈ TT := tt_mem (sl_5 _ (List.mem_of_getElem? (i := 8) (a := (⟨"CommitPrefixesModel", "readsItem", "()Z"⟩, 43)) rfl)) rfl
theorem s5_9 : Cond.selects "CommitPrefixesModel" ⟨"CommitPrefixesModel", "readsWord", "()I"⟩ ⟨"CommitPrefixesModel", "readsWord", "()I"⟩ ∈ TT := tt_mem (sl_5 _ (List.mem_of_getElem? (i := 9) (a := (⟨"CommitPrefixesModel", "readsWord", "()I"⟩, 43)) rfl)) rfl
theorem s5_10 : Cond.selects "CommitPrefixesModel" ⟨"CommitPrefixesModel", "matches", "(I)I"⟩ ⟨"CommitPrefixesModel", "matches", "(I)I"⟩ ∈ TT := tt_mem (sl_5 _ (List.mem_of_getElem? (i := 10) (a := (⟨"CommitPrefixesModel", "matches", "(I)I"⟩, 43)) rfl)) rfl
theorem s5_11 : Cond.selects "CommitPrefixesModel" ⟨"CommitPrefixesModel", "sign", "(I)I"⟩ ⟨"CommitPrefixesModel", "sign", "(I)I"⟩ ∈ TT := tt_mem (sl_5 _ (List.mem_of_getElem? (i := 11) (a := (⟨"CommitPrefixesModel", "sign", "(I)I"⟩, 43)) rfl)) rfl
theorem s5_12 : Cond.selects "CommitPrefixesModel" ⟨"CommitPrefixesModel", "readsFirst", "(II)Z"⟩ ⟨"CommitPrefixesModel", "readsFirst", "(II)Z"⟩ ∈ TT := tt_mem (sl_5 _ (List.mem_of_getElem? (i := 12) (a := (⟨"CommitPrefixesModel", "readsFirst", "(II)Z"⟩, 43)) rfl)) rfl
theorem s5_13 : Cond.selects "CommitPrefixesModel" ⟨"CommitPrefixesModel", "readsNumber", "(II)I"⟩ ⟨"CommitPrefixesModel", "readsNumber", "(II)I"⟩ ∈ TT := tt_mem (sl_5 _ (List.mem_of_getElem? (i := 13) (a := (⟨"CommitPrefixesModel", "readsNumber", "(II)I"⟩, 43)) rfl)) rfl
theorem s5_14 : Cond.selects "CommitPrefixesModel" ⟨"CommitPrefixesModel", "readsDown", "()Z"⟩ ⟨"CommitPrefixesModel", "readsDown", "()Z"⟩ ∈ TT := tt_mem (sl_5 _ (List.mem_of_getElem? (i := 14) (a := (⟨"CommitPrefixesModel", "readsDown", "()Z"⟩, 43)) rfl)) rfl
theorem s5_15 : Cond.selects "CommitPrefixesModel" ⟨"CommitPrefixesModel", "holdsItem", "(I)V"⟩ ⟨"CommitPrefixesModel", "holdsItem", "(I)V"⟩ ∈ TT := tt_mem (sl_5 _ (List.mem_of_getElem? (i := 15) (a := (⟨"CommitPrefixesModel", "holdsItem", "(I)V"⟩, 43)) rfl)) rfl
theorem sl_6 : ∀ q ∈ lw_privs_6, Cond.selects q.1.cls q.1 q.1 ∈ lw_tbl := fun q h => List.mem_append_left _ (List.mem_map.mpr ⟨q, List.mem_append_right _ (List.mem_append_right _ (List.mem_append_right _ (List.mem_append_right _ (List.mem_append_right _ (h))))), rfl⟩)
theorem s6_0 : Cond.selects "CommitPrefixesModel" ⟨"CommitPrefixesModel", "setOf", "(Z)I"⟩ ⟨"CommitPrefixesModel", "setOf", "(Z)I"⟩ ∈ TT := tt_mem (sl_6 _ (List.mem_of_getElem? (i := 0) (a := (⟨"CommitPrefixesModel", "setOf", "(Z)I"⟩, 43)) rfl)) rfl
theorem s6_1 : Cond.selects "CommitPrefixesModel" ⟨"CommitPrefixesModel", "manyLosses", "()I"⟩ ⟨"CommitPrefixesModel", "manyLosses", "()I"⟩ ∈ TT := tt_mem (sl_6 _ (List.mem_of_getElem? (i := 1) (a := (⟨"CommitPrefixesModel", "manyLosses", "()I"⟩, 43)) rfl)) rfl
theorem s6_2 : Cond.selects "CommitPrefixesModel" ⟨"CommitPrefixesModel", "notThen", "(II)I"⟩ ⟨"CommitPrefixesModel", "notThen", "(II)I"⟩ ∈ TT := tt_mem (sl_6 _ (List.mem_of_getElem? (i := 2) (a := (⟨"CommitPrefixesModel", "notThen", "(II)I"⟩, 43)) rfl)) rfl
theorem s6_3 : Cond.selects "CommitPrefixesModel" ⟨"CommitPrefixesModel", "isSite", "(I)Z"⟩ ⟨"CommitPrefixesModel", "isSite", "(I)Z"⟩ ∈ TT := tt_mem (sl_6 _ (List.mem_of_getElem? (i := 3) (a := (⟨"CommitPrefixesModel", "isSite", "(I)Z"⟩, 43)) rfl)) rfl
theorem s6_4 : Cond.selects "CommitPrefixesModel" ⟨"CommitPrefixesModel", "decidedAt", "(II)I"⟩ ⟨"CommitPrefixesModel", "decidedAt", "(II)I"⟩ ∈ TT := tt_mem (sl_6 _ (List.mem_of_getElem? (i := 4) (a := (⟨"CommitPrefixesModel", "decidedAt", "(II)I"⟩, 43)) rfl)) rfl
theorem s6_5 : Cond.selects "CommitPrefixesModel" ⟨"CommitPrefixesModel", "hasNoted", "(III)Z"⟩ ⟨"CommitPrefixesModel", "hasNoted", "(III)Z"⟩ ∈ TT := tt_mem (sl_6 _ (List.mem_of_getElem? (i := 5) (a := (⟨"CommitPrefixesModel", "hasNoted", "(III)Z"⟩, 43)) rfl)) rfl
theorem s6_6 : Cond.selects "CommitPrefixesModel" ⟨"CommitPrefixesModel", "areAlike", "(I)Z"⟩ ⟨"CommitPrefixesModel", "areAlike", "(I)Z"⟩ ∈ TT := tt_mem (sl_6 _ (List.mem_of_getElem? (i := 6) (a := (⟨"CommitPrefixesModel", "areAlike", "(I)Z"⟩, 43)) rfl)) rfl
theorem s6_7 : Cond.selects "CommitPrefixesModel" ⟨"CommitPrefixesModel", "blockedNow", "()I"⟩ ⟨"CommitPrefixesModel", "blockedNow", "()I"⟩ ∈ TT := tt_mem (sl_6 _ (List.mem_of_getElem? (i := 7) (a := (⟨"CommitPrefixesModel", "blockedNow", "()I"⟩, 43)) rfl)) rfl
theorem s6_8 : Cond.selects "CommitPrefixesModel" ⟨"CommitPrefixesModel", "isAsLast", "(I)Z"⟩ ⟨"CommitPrefixesModel", "isAsLast", "(I)Z"⟩ ∈ TT := tt_mem (sl_6 _ (List.mem_of_getElem? (i := 8) (a := (⟨"CommitPrefixesModel", "isAsLast", "(I)Z"⟩, 43)) rfl)) rfl
theorem s6_9 : Cond.selects "CommitPrefixesModel" ⟨"CommitPrefixesModel", "lossesThat", "(IZ)I"⟩ ⟨"CommitPrefixesModel", "lossesThat", "(IZ)I"⟩ ∈ TT := tt_mem (sl_6 _ (List.mem_of_getElem? (i := 9) (a := (⟨"CommitPrefixesModel", "lossesThat", "(IZ)I"⟩, 43)) rfl)) rfl
theorem s6_10 : Cond.selects "CommitPrefixesModel" ⟨"CommitPrefixesModel", "recoveredBy", "(II)I"⟩ ⟨"CommitPrefixesModel", "recoveredBy", "(II)I"⟩ ∈ TT := tt_mem (sl_6 _ (List.mem_of_getElem? (i := 10) (a := (⟨"CommitPrefixesModel", "recoveredBy", "(II)I"⟩, 43)) rfl)) rfl
theorem s6_11 : Cond.selects "CommitPrefixesModel" ⟨"CommitPrefixesModel", "notJudged", "(III)I"⟩ ⟨"CommitPrefixesModel", "notJudged", "(III)I"⟩ ∈ TT := tt_mem (sl_6 _ (List.mem_of_getElem? (i := 11) (a := (⟨"CommitPrefixesModel", "notJudged", "(III)I"⟩, 43)) rfl)) rfl
theorem s6_12 : Cond.selects "CommitPrefixesModel" ⟨"CommitPrefixesModel", "draw", "(I)I"⟩ ⟨"CommitPrefixesModel", "draw", "(I)I"⟩ ∈ TT := tt_mem (sl_6 _ (List.mem_of_getElem? (i := 12) (a := (⟨"CommitPrefixesModel", "draw", "(I)I"⟩, 43)) rfl)) rfl
theorem s6_13 : Cond.selects "CommitPrefixesModel" ⟨"CommitPrefixesModel", "passesAll", "(Z)V"⟩ ⟨"CommitPrefixesModel", "passesAll", "(Z)V"⟩ ∈ TT := tt_mem (sl_6 _ (List.mem_of_getElem? (i := 13) (a := (⟨"CommitPrefixesModel", "passesAll", "(Z)V"⟩, 43)) rfl)) rfl
theorem s6_14 : Cond.selects "CommitPrefixesModel" ⟨"CommitPrefixesModel", "passes", "([I)V"⟩ ⟨"CommitPrefixesModel", "passes", "([I)V"⟩ ∈ TT := tt_mem (sl_6 _ (List.mem_of_getElem? (i := 14) (a := (⟨"CommitPrefixesModel", "passes", "([I)V"⟩, 43)) rfl)) rfl
theorem s6_15 : Cond.selects "CommitPrefixesModel" ⟨"CommitPrefixesModel", "passOne", "(I)I"⟩ ⟨"CommitPrefixesModel", "passOne", "(I)I"⟩ ∈ TT := tt_mem (sl_6 _ (List.mem_of_getElem? (i := 15) (a := (⟨"CommitPrefixesModel", "passOne", "(I)I"⟩, 43)) rfl)) rfl
theorem inT1_k : ∀ k, k < 7 → u_lay RX1 TX1 k ∈ TT := fun k hk => match k, hk with
  | 0, _ => k1_149
  | 1, _ => k1_151
  | 2, _ => k1_153
  | 3, _ => k1_155
  | 4, _ => k1_157
  | 5, _ => k1_159
  | 6, _ => k1_147
  | k + 7, h => absurd h (by omega)
theorem inT1 : ∀ w ∈ u_ws RX1 TX1 7, w ∈ TT := by
  intro w hw
  obtain ⟨k, hk, rfl⟩ := List.mem_map.mp hw
  exact inT1_k k (List.mem_range.mp hk)
theorem inT3_k : ∀ k, k < 6 → u_lay RX3 TX3 k ∈ TT := fun k hk => match k, hk with
  | 0, _ => k1_170
  | 1, _ => k1_171
  | 2, _ => k1_172
  | 3, _ => k1_173
  | 4, _ => k1_174
  | 5, _ => k1_175
  | k + 6, h => absurd h (by omega)
theorem inT3 : ∀ w ∈ u_ws RX3 TX3 6, w ∈ TT := by
  intro w hw
  obtain ⟨k, hk, rfl⟩ := List.mem_map.mp hw
  exact inT3_k k (List.mem_range.mp hk)
theorem inT4_k : ∀ k, k < 17 → u_lay RX4 TX4 k ∈ TT := fun k hk => match k, hk with
  | 0, _ => k1_208
  | 1, _ => k1_210
  | 2, _ => k1_212
  | 3, _ => k1_214
  | 4, _ => k1_216
  | 5, _ => k1_218
  | 6, _ => k1_220
  | 7, _ => k1_222
  | 8, _ => k1_224
  | 9, _ => k1_226
  | 10, _ => k1_228
  | 11, _ => k1_230
  | 12, _ => k1_232
  | 13, _ => k1_234
  | 14, _ => k1_236
  | 15, _ => k1_238
  | 16, _ => k2_0
  | k + 17, h => absurd h (by omega)
theorem inT4 : ∀ w ∈ u_ws RX4 TX4 17, w ∈ TT := by
  intro w hw
  obtain ⟨k, hk, rfl⟩ := List.mem_map.mp hw
  exact inT4_k k (List.mem_range.mp hk)
theorem inT5_k : ∀ k, k < 9 → u_lay RX5 TX5 k ∈ TT := fun k hk => match k, hk with
  | 0, _ => k1_60
  | 1, _ => k1_62
  | 2, _ => k1_64
  | 3, _ => k1_66
  | 4, _ => k1_68
  | 5, _ => k1_70
  | 6, _ => k1_72
  | 7, _ => k1_74
  | 8, _ => k1_76
  | k + 9, h => absurd h (by omega)
theorem inT5 : ∀ w ∈ u_ws RX5 TX5 9, w ∈ TT := by
  intro w hw
  obtain ⟨k, hk, rfl⟩ := List.mem_map.mp hw
  exact inT5_k k (List.mem_range.mp hk)
theorem inT6_k : ∀ k, k < 8 → u_lay RX6 TX6 k ∈ TT := fun k hk => match k, hk with
  | 0, _ => k2_21
  | 1, _ => k2_23
  | 2, _ => k2_25
  | 3, _ => k2_27
  | 4, _ => k2_29
  | 5, _ => k2_31
  | 6, _ => k2_33
  | 7, _ => k2_35
  | k + 8, h => absurd h (by omega)
theorem inT6 : ∀ w ∈ u_ws RX6 TX6 8, w ∈ TT := by
  intro w hw
  obtain ⟨k, hk, rfl⟩ := List.mem_map.mp hw
  exact inT6_k k (List.mem_range.mp hk)
theorem inT8_k : ∀ k, k < 4 → u_lay RX8 TX8 k ∈ TT := fun k hk => match k, hk with
  | 0, _ => k1_94
  | 1, _ => k1_96
  | 2, _ => k1_98
  | 3, _ => k1_100
  | k + 4, h => absurd h (by omega)
theorem inT8 : ∀ w ∈ u_ws RX8 TX8 4, w ∈ TT := by
  intro w hw
  obtain ⟨k, hk, rfl⟩ := List.mem_map.mp hw
  exact inT8_k k (List.mem_range.mp hk)
theorem inT9_k : ∀ k, k < 13 → u_lay RX9 TX9 k ∈ TT := fun k hk => match k, hk with
  | 0, _ => k2_52
  | 1, _ => k2_54
  | 2, _ => k2_56
  | 3, _ => k2_58
  | 4, _ => k2_60
  | 5, _ => k2_62
  | 6, _ => k2_64
  | 7, _ => k2_66
  | 8, _ => k2_68
  | 9, _ => k2_70
  | 10, _ => k2_72
  | 11, _ => k2_74
  | 12, _ => k2_76
  | k + 13, h => absurd h (by omega)
theorem inT9 : ∀ w ∈ u_ws RX9 TX9 13, w ∈ TT := by
  intro w hw
  obtain ⟨k, hk, rfl⟩ := List.mem_map.mp hw
  exact inT9_k k (List.mem_range.mp hk)
theorem inT10_k : ∀ k, k < 43 → u_lay RX10 TX10 k ∈ TT := fun k hk => match k, hk with
  | 0, _ => k5_40
  | 1, _ => k5_42
  | 2, _ => k5_44
  | 3, _ => k5_46
  | 4, _ => k5_48
  | 5, _ => k5_50
  | 6, _ => k5_52
  | 7, _ => k5_54
  | 8, _ => k5_56
  | 9, _ => k5_58
  | 10, _ => k5_60
  | 11, _ => k5_62
  | 12, _ => k5_64
  | 13, _ => k5_66
  | 14, _ => k5_68
  | 15, _ => k5_70
  | 16, _ => k5_72
  | 17, _ => k5_74
  | 18, _ => k5_76
  | 19, _ => k5_78
  | 20, _ => k5_80
  | 21, _ => k5_82
  | 22, _ => k5_84
  | 23, _ => k5_86
  | 24, _ => k5_88
  | 25, _ => k5_90
  | 26, _ => k5_92
  | 27, _ => k5_94
  | 28, _ => k5_96
  | 29, _ => k5_98
  | 30, _ => k5_100
  | 31, _ => k5_102
  | 32, _ => k5_104
  | 33, _ => k5_106
  | 34, _ => k5_108
  | 35, _ => k5_110
  | 36, _ => k5_112
  | 37, _ => k5_114
  | 38, _ => k5_116
  | 39, _ => k5_118
  | 40, _ => k5_120
  | 41, _ => k5_122
  | 42, _ => k5_124
  | k + 43, h => absurd h (by omega)
theorem inT10 : ∀ w ∈ u_ws RX10 TX10 43, w ∈ TT := by
  intro w hw
  obtain ⟨k, hk, rfl⟩ := List.mem_map.mp hw
  exact inT10_k k (List.mem_range.mp hk)
end
section
/-! THE WALK'S JUDGEMENT. One tuple X holds all that stays the same while a method runs; JO says: from this place, with these locals, this stack and these cells,
the method comes to its end as the pure expression o says (o = none: nothing is claimed). A row an instruction; every row peels o where the instruction needs a test. -/
abbrev JX : Type := Program × Launch × Env × Room × State × MethodId × Array Value × List Frame × Method × Code × va_G × (Nat → Prop) × (ClassId × ClassId × ClassId × ClassId)
abbrev xp (X : JX) : Program := X.1
abbrev xl (X : JX) : Launch := X.2.1
abbrev xe (X : JX) : Env := X.2.2.1
abbrev xR (X : JX) : Room := X.2.2.2.1
abbrev xs (X : JX) : State := X.2.2.2.2.1
abbrev xm (X : JX) : MethodId := X.2.2.2.2.2.1
abbrev xargs (X : JX) : Array Value := X.2.2.2.2.2.2.1
abbrev xbelow (X : JX) : List Frame := X.2.2.2.2.2.2.2.1
abbrev xmeth (X : JX) : Method := X.2.2.2.2.2.2.2.2.1
abbrev xc (X : JX) : Code := X.2.2.2.2.2.2.2.2.2.1
abbrev xD (X : JX) : va_G := X.2.2.2.2.2.2.2.2.2.2.1
abbrev xA (X : JX) : Nat → Prop := X.2.2.2.2.2.2.2.2.2.2.2.1
/-- the classes of the rows: of ints, of longs, of shelves, of sites -/
abbrev ZT : Type := ClassId × ClassId × ClassId × ClassId
abbrev xZ (X : JX) : ZT := X.2.2.2.2.2.2.2.2.2.2.2.2
abbrev tyl (Z : ZT) : List (ClassId × FieldType) := [(Z.1, .int), (Z.2.1, .long), (Z.2.2.1, .object "CommitPrefixes$Shelf"), (Z.2.2.2, .object "CommitPrefixes$Site")]
abbrev xtys (X : JX) : List (ClassId × FieldType) := tyl (xZ X)
/-- what is fixed of a method: bytes, locals, class, answer's type, frames, words of locals -/
abbrev JM : Type := ByteArray × Nat × String × Option FieldType × Nat × Nat
/-- the locals, by their places -/
def lvD (ls : Array Slot) (nL : Nat) (lv : List (Option Value)) : Prop := ls.size = nL ∧ lv_wf ls ∧ ∀ (i : Nat) (v : Value), lv[i]? = some (some v) → ls[i]? = some (.val v)
def lvP (lv : List (Option Value)) : List (Nat × Value) := (List.range lv.length).filterMap (fun i => (lv[i]?.join).map (fun v => (i, v)))
theorem lvP_mem {lv : List (Option Value)} {q : Nat × Value} : q ∈ lvP lv ↔ lv[q.1]? = some (some q.2) := by
  obtain ⟨i, v⟩ := q
  unfold lvP
  rw [List.mem_filterMap]
  constructor
  · rintro ⟨j, hj, h⟩
    cases e : lv[j]? with
    | none => simp [e] at h
    | some w =>
      cases w with
      | none => simp [e] at h
      | some u => simp [e] at h; obtain ⟨rfl, rfl⟩ := h; exact e
  · intro h
    refine ⟨i, List.mem_range.mpr (List.getElem?_eq_some_iff.mp h).1, ?_⟩
    simp only at h
    simp [h]
theorem lvD.has {ls : Array Slot} {nL : Nat} {lv : List (Option Value)} (h : lvD ls nL lv) : lv_has ls nL (lvP lv) := ⟨h.1, h.2.1, fun q hq => h.2.2 q.1 q.2 (lvP_mem.mp hq)⟩
/-- a value of one slot may be stored at i: no long stands across -/
def lvOk (lv : List (Option Value)) (i : Nat) : Bool := match i with
  | 0 => true
  | j + 1 => match lv[j]? with
    | some (some v) => v.category == 1
    | _ => true
theorem lvD.set1 {ls' : Array Slot} {nL i : Nat} {v : Value} {lv : List (Option Value)} (ok : lvOk lv i = true) (h : lv_has ls' nL ((i, v) :: (lvP lv).filter (fun q => !(q.1 == i) && !(q.1 + 1 == i && q.2.category == 2)))) : lvD ls' nL (lv.set i (some v)) := by
  refine ⟨h.1, h.2.1, fun j w hj => ?_⟩
  by_cases e : j = i
  · subst e
    have hl : j < lv.length := by
      have := (List.getElem?_eq_some_iff.mp hj).1
      simpa using this
    rw [List.getElem?_set_self hl] at hj
    cases hj
    exact h.2.2 (j, v) List.mem_cons_self
  · rw [List.getElem?_set_ne (fun q => e q.symm)] at hj
    refine h.2.2 (j, w) (List.mem_cons_of_mem _ (List.mem_filter.mpr ⟨lvP_mem.mpr hj, ?_⟩))
    have h1 : (j == i) = false := by simp [e]
    by_cases e2 : j + 1 = i
    · subst e2
      simp only [lvOk, hj] at ok
      have : w.category = 1 := by simpa using ok
      simp [this]
    · simp [e, e2]
theorem lvD.set2 {ls' : Array Slot} {nL i : Nat} {v : Value} {lv : List (Option Value)} (ok : lvOk lv i = true) (h : lv_has ls' nL ((i, v) :: (lvP lv).filter (fun q => !(q.1 == i) && (!(q.1 == i + 1) && !(q.1 + 1 == i && q.2.category == 2))))) : lvD ls' nL ((lv.set i (some v)).set (i + 1) none) := by
  refine ⟨h.1, h.2.1, fun j w hj => ?_⟩
  by_cases e0 : j = i + 1
  · subst e0
    exfalso
    have hl := (List.getElem?_eq_some_iff.mp hj).1
    rw [List.getElem?_set_self (by simpa using hl)] at hj
    cases hj
  · rw [List.getElem?_set_ne (fun q => e0 q.symm)] at hj
    by_cases e : j = i
    · subst e
      have hl : j < lv.length := by
        have := (List.getElem?_eq_some_iff.mp hj).1
        simpa using this
      rw [List.getElem?_set_self hl] at hj
      cases hj
      exact h.2.2 (j, v) List.mem_cons_self
    · rw [List.getElem?_set_ne (fun q => e q.symm)] at hj
      refine h.2.2 (j, w) (List.mem_cons_of_mem _ (List.mem_filter.mpr ⟨lvP_mem.mpr hj, ?_⟩))
      by_cases e2 : j + 1 = i
      · subst e2
        simp only [lvOk, hj] at ok
        have : w.category = 1 := by simpa using ok
        simp [this]
        omega
      · simp [e, e0, e2]
/-- fewer locals are claimed -/
theorem lvD.sub {ls : Array Slot} {nL : Nat} {lv lv' : List (Option Value)} (h : lvD ls nL lv) (hs : ∀ (i : Nat) (v : Value), lv'[i]? = some (some v) → lv[i]? = some (some v)) : lvD ls nL lv' := ⟨h.1, h.2.1, fun i v q => h.2.2 i v (hs i v q)⟩
/-- the constants of the launch that the classes use: where they lie, that nothing writes them -/
def CW (A : Nat → Prop) (U : State) (H : Heap) : Prop := True
theorem CW.call {A A1 : Nat → Prop} {s U : State} {H : Heap} {locs : List Loc} (h : CW A s s.heap) (hS : va_S A s.heap H locs) (hA : ∀ q, A1 q → A q) (hU : U.heap = H) (hW : s.WarmedH U.vm) : CW A1 U U.heap := trivial
theorem CW.blind {A : Nat → Prop} {U : State} {g : JFrame} {mk : MethodId} {a : Array Value} (h : CW A U U.heap) : CW A (U.calling g mk a) (U.calling g mk a).heap := trivial
def OKX (X : JX) (M : JM) : Prop := (xp X).tables.exec = Jvm.exec ∧ (xc X).code = M.1 ∧ (xc X).maxLocals = M.2.1 ∧ (xs X).vm.findClass M.2.2.1 = some (xm X).cls ∧ (xmeth X).sig.returnType = M.2.2.2.1 ∧ M.2.2.2.2.1 ≤ (xR X).frames ∧ M.2.2.2.2.2 ≤ (xR X).locals ∧ (∀ w ∈ TT, w.before (xargs X) (xs X) = true) ∧ (xmeth X).locks = false ∧ va_K (xD X) vwCl (xtys X) (xs X) ∧ (∀ q, (xs X).heap.size ≤ q → xA X q) ∧ CW (xA X) (xs X) (xs X).heap
def JO {α : Type} (X : JX) (M : JM) (Qf : α → State → Prop) (pc : Nat) (lv : List (Option Value)) (st : List Value) (ws : va_W) (o : Option α) : Prop :=
  ∀ a, o = some a → OKX X M → ∀ (ls : Array Slot) (H : Heap) (locs : List Loc), lvD ls M.2.1 lv → va_P (xD X) vwCl ws H → va_D (xA X) ws → va_S (xA X) (xs X).heap H locs →
    W (xp X) (xl X) (xe X) (xR X) (xs X) (xm X) (xargs X) (xbelow X) (xmeth X) (xc X) H locs 0 0 (Qf a) (F0 (xm X) pc ls st)
def inB (i : Int32) (n : Nat) : Bool := decide (0 ≤ i) && decide (i.toNatClampNeg < n)
theorem inB_in {i : Int32} {n : Nat} (h : inB i n = true) : vp_in i n := by
  simp only [inB, Bool.and_eq_true, decide_eq_true_eq] at h
  rintro (h1 | h1)
  · exact absurd h.1 (Int32.not_le.mpr h1)
  · omega
/-- an element's place -/
abbrev ix (i : Int32) : Nat := i.toNatClampNeg
def bI (b : Bool) : Int32 := bif b then 1 else 0
section JR
variable {α : Type} {X : JX} {M : JM} {Qf : α → State → Prop} {pc : Nat} {lv : List (Option Value)} {st : List Value} {ws : va_W} {o : Option α}
theorem JO.nil : JO X M Qf pc lv st ws (none : Option α) := fun a h => by cases h
theorem JO.sub {lv' : List (Option Value)} (k : JO X M Qf pc lv' st ws o) (hs : ∀ (i : Nat) (v : Value), lv'[i]? = some (some v) → lv[i]? = some (some v)) : JO X M Qf pc lv st ws o :=
  fun a h ok ls H locs hl hP hD hS => k a h ok ls H locs (hl.sub hs) hP hD hS
theorem JO.iconst {n : Int} (d : decode M.1 pc = .ok (.iconst n, 1)) (k : JO X M Qf (pc + 1) lv (.int (Int32.ofInt n) :: st) ws o) : JO X M Qf pc lv st ws o :=
  fun a h ok ls H locs hl hP hD hS => lv_iconst ok.1 ok.2.1 d rfl (k a h ok ls H locs hl hP hD hS)
/-- a constant, as the reader wants it -/
theorem JO.ic {n : Int} (v : Int32) (d : decode M.1 pc = .ok (.iconst n, 1)) (hv : Int32.ofInt n = v) (k : JO X M Qf (pc + 1) lv (.int v :: st) ws o) : JO X M Qf pc lv st ws o :=
  fun a h ok ls H locs hl hP hD hS => lv_iconst ok.1 ok.2.1 d hv (k a h ok ls H locs hl hP hD hS)
theorem JO.bip {n : Int} (v : Int32) (d : decode M.1 pc = .ok (.bipush n, 2)) (hv : (Int8.ofInt n).toInt32 = v) (k : JO X M Qf (pc + 2) lv (.int v :: st) ws o) : JO X M Qf pc lv st ws o :=
  fun a h ok ls H locs hl hP hD hS => lv_bipush ok.1 ok.2.1 d hv (k a h ok ls H locs hl hP hD hS)
theorem JO.sip {n : Int} (v : Int32) (d : decode M.1 pc = .ok (.sipush n, 3)) (hv : (Int16.ofInt n).toInt32 = v) (k : JO X M Qf (pc + 3) lv (.int v :: st) ws o) : JO X M Qf pc lv st ws o :=
  fun a h ok ls H locs hl hP hD hS => lv_sipush ok.1 ok.2.1 d hv (k a h ok ls H locs hl hP hD hS)
theorem JO.lc {n : Fin 2} (v : Int64) (d : decode M.1 pc = .ok (.lconst n, 1)) (hv : Int64.ofNat (n : Nat) = v) (k : JO X M Qf (pc + 1) lv (.long v :: st) ws o) : JO X M Qf pc lv st ws o :=
  fun a h ok ls H locs hl hP hD hS => lv_lconst ok.1 ok.2.1 d hv (k a h ok ls H locs hl hP hD hS)
theorem JO.ldc {index : Nat} {v : Int32} (w : Cond.constant M.2.2.1 index v ∈ TT) (d : decode M.1 pc = .ok (.ldc index, 2)) (k : JO X M Qf (pc + 2) lv (.int v :: st) ws o) : JO X M Qf pc lv st ws o :=
  fun a h ok ls H locs hl hP hD hS => lv_ldc ok.1 ok.2.1 ok.2.2.2.1 (ok.2.2.2.2.2.2.2.1 _ w) d (k a h ok ls H locs hl hP hD hS)
theorem JO.ldc2 {index : Nat} {v : Int64} (w : Cond.constantLong M.2.2.1 index v ∈ TT) (d : decode M.1 pc = .ok (.ldc2_w index, 3)) (k : JO X M Qf (pc + 3) lv (.long v :: st) ws o) : JO X M Qf pc lv st ws o :=
  fun a h ok ls H locs hl hP hD hS => lv_ldc2 ok.1 ok.2.1 ok.2.2.2.1 (ok.2.2.2.2.2.2.2.1 _ w) d (k a h ok ls H locs hl hP hD hS)
theorem JO.iloadn {i : Fin 4} {x : Int32} (d : decode M.1 pc = .ok (.iload_n i, 1)) (hx : lv[(i : Nat)]? = some (some (.int x))) (k : JO X M Qf (pc + 1) lv (.int x :: st) ws o) : JO X M Qf pc lv st ws o :=
  fun a h ok ls H locs hl hP hD hS => lv_iload_n ok.1 ok.2.1 d rfl (hl.2.2 _ _ hx) (k a h ok ls H locs hl hP hD hS)
theorem JO.iload {i : Nat} {x : Int32} (d : decode M.1 pc = .ok (.iload i, 2)) (hx : lv[i]? = some (some (.int x))) (k : JO X M Qf (pc + 2) lv (.int x :: st) ws o) : JO X M Qf pc lv st ws o :=
  fun a h ok ls H locs hl hP hD hS => lv_iload ok.1 ok.2.1 d (hl.2.2 _ _ hx) (k a h ok ls H locs hl hP hD hS)
theorem JO.lloadn {i : Fin 4} {x : Int64} (d : decode M.1 pc = .ok (.lload_n i, 1)) (hx : lv[(i : Nat)]? = some (some (.long x))) (k : JO X M Qf (pc + 1) lv (.long x :: st) ws o) : JO X M Qf pc lv st ws o :=
  fun a h ok ls H locs hl hP hD hS => lv_lload_n ok.1 ok.2.1 d rfl (hl.2.2 _ _ hx) (k a h ok ls H locs hl hP hD hS)
theorem JO.lload {i : Nat} {x : Int64} (d : decode M.1 pc = .ok (.lload i, 2)) (hx : lv[i]? = some (some (.long x))) (k : JO X M Qf (pc + 2) lv (.long x :: st) ws o) : JO X M Qf pc lv st ws o :=
  fun a h ok ls H locs hl hP hD hS => lv_lload ok.1 ok.2.1 d (hl.2.2 _ _ hx) (k a h ok ls H locs hl hP hD hS)
theorem JO.aloadn {i : Fin 4} {x : Nat} (d : decode M.1 pc = .ok (.aload_n i, 1)) (hx : lv[(i : Nat)]? = some (some (.ref x))) (k : JO X M Qf (pc + 1) lv (.ref x :: st) ws o) : JO X M Qf pc lv st ws o :=
  fun a h ok ls H locs hl hP hD hS => lv_aload_n ok.1 ok.2.1 d rfl (hl.2.2 _ _ hx) (k a h ok ls H locs hl hP hD hS)
theorem JO.aload {i : Nat} {x : Nat} (d : decode M.1 pc = .ok (.aload i, 2)) (hx : lv[i]? = some (some (.ref x))) (k : JO X M Qf (pc + 2) lv (.ref x :: st) ws o) : JO X M Qf pc lv st ws o :=
  fun a h ok ls H locs hl hP hD hS => lv_aload ok.1 ok.2.1 d (hl.2.2 _ _ hx) (k a h ok ls H locs hl hP hD hS)
theorem JO.istoren {i : Fin 4} {x : Int32} (d : decode M.1 pc = .ok (.istore_n i, 1)) (hi : decide ((i : Nat) < M.2.1) = true) (hk : lvOk lv i = true) (k : JO X M Qf (pc + 1) (lv.set i (some (.int x))) st ws o) : JO X M Qf pc lv (.int x :: st) ws o :=
  fun a h ok ls H locs hl hP hD hS => lv_istore_n ok.1 ok.2.1 d rfl hl.has (of_decide_eq_true hi) rfl (fun ls' hl' => k a h ok ls' H locs (lvD.set1 hk hl') hP hD hS)
theorem JO.istore {i : Nat} {x : Int32} (d : decode M.1 pc = .ok (.istore i, 2)) (hi : decide (i < M.2.1) = true) (hk : lvOk lv i = true) (k : JO X M Qf (pc + 2) (lv.set i (some (.int x))) st ws o) : JO X M Qf pc lv (.int x :: st) ws o :=
  fun a h ok ls H locs hl hP hD hS => lv_istore ok.1 ok.2.1 d hl.has (of_decide_eq_true hi) rfl (fun ls' hl' => k a h ok ls' H locs (lvD.set1 hk hl') hP hD hS)
theorem JO.astoren {i : Fin 4} {x : Nat} (d : decode M.1 pc = .ok (.astore_n i, 1)) (hi : decide ((i : Nat) < M.2.1) = true) (hk : lvOk lv i = true) (k : JO X M Qf (pc + 1) (lv.set i (some (.ref x))) st ws o) : JO X M Qf pc lv (.ref x :: st) ws o :=
  fun a h ok ls H locs hl hP hD hS => lv_astore_n ok.1 ok.2.1 d rfl hl.has (of_decide_eq_true hi) rfl (fun ls' hl' => k a h ok ls' H locs (lvD.set1 hk hl') hP hD hS)
theorem JO.astore {i : Nat} {x : Nat} (d : decode M.1 pc = .ok (.astore i, 2)) (hi : decide (i < M.2.1) = true) (hk : lvOk lv i = true) (k : JO X M Qf (pc + 2) (lv.set i (some (.ref x))) st ws o) : JO X M Qf pc lv (.ref x :: st) ws o :=
  fun a h ok ls H locs hl hP hD hS => lv_astore ok.1 ok.2.1 d hl.has (of_decide_eq_true hi) rfl (fun ls' hl' => k a h ok ls' H locs (lvD.set1 hk hl') hP hD hS)
theorem JO.lstoren {i : Fin 4} {x : Int64} (d : decode M.1 pc = .ok (.lstore_n i, 1)) (hi : decide ((i : Nat) + 1 < M.2.1) = true) (hk : lvOk lv i = true) (k : JO X M Qf (pc + 1) ((lv.set i (some (.long x))).set (i + 1) Option.none) st ws o) : JO X M Qf pc lv (.long x :: st) ws o :=
  fun a h ok ls H locs hl hP hD hS => lv_lstore_n ok.1 ok.2.1 d rfl hl.has (of_decide_eq_true hi) rfl (fun ls' hl' => k a h ok ls' H locs (lvD.set2 hk hl') hP hD hS)
theorem JO.lstore {i : Nat} {x : Int64} (d : decode M.1 pc = .ok (.lstore i, 2)) (hi : decide (i + 1 < M.2.1) = true) (hk : lvOk lv i = true) (k : JO X M Qf (pc + 2) ((lv.set i (some (.long x))).set (i + 1) Option.none) st ws o) : JO X M Qf pc lv (.long x :: st) ws o :=
  fun a h ok ls H locs hl hP hD hS => lv_lstore ok.1 ok.2.1 d hl.has (of_decide_eq_true hi) rfl (fun ls' hl' => k a h ok ls' H locs (lvD.set2 hk hl') hP hD hS)
theorem JO.iinc {i : Nat} {n : Int} {x : Int32} (d : decode M.1 pc = .ok (.iinc i n, 3)) (hx : lv[i]? = some (some (.int x))) (v : Int32) (hv : Int32.ofInt n = v) (hi : decide (i < M.2.1) = true) (hk : lvOk lv i = true) (k : JO X M Qf (pc + 3) (lv.set i (some (.int (x + v)))) st ws o) : JO X M Qf pc lv st ws o :=
  fun a h ok ls H locs hl hP hD hS => by
    obtain ⟨j, hj⟩ := List.getElem?_of_mem ((lvP_mem (lv := lv) (q := (i, .int x))).mpr hx)
    exact lv_iinc ok.1 ok.2.1 d hl.has hj (by rw [hv]) (of_decide_eq_true hi) rfl (fun ls' hl' => k a h ok ls' H locs (lvD.set1 hk hl') hP hD hS)
end JR
end
section
section JR
variable {α : Type} {X : JX} {M : JM} {Qf : α → State → Prop} {pc : Nat} {lv : List (Option Value)} {st : List Value} {ws : va_W} {o o1 o2 : Option α}
theorem JO.iadd {x y : Int32} (d : decode M.1 pc = .ok (.iadd, 1)) (k : JO X M Qf (pc + 1) lv (.int (x + y) :: st) ws o) : JO X M Qf pc lv (.int y :: .int x :: st) ws o :=
  fun a h ok ls H locs hl hP hD hS => lv_iadd ok.1 ok.2.1 d (k a h ok ls H locs hl hP hD hS)
theorem JO.isub {x y : Int32} (d : decode M.1 pc = .ok (.isub, 1)) (k : JO X M Qf (pc + 1) lv (.int (x - y) :: st) ws o) : JO X M Qf pc lv (.int y :: .int x :: st) ws o :=
  fun a h ok ls H locs hl hP hD hS => lv_isub ok.1 ok.2.1 d (k a h ok ls H locs hl hP hD hS)
theorem JO.imul {x y : Int32} (d : decode M.1 pc = .ok (.imul, 1)) (k : JO X M Qf (pc + 1) lv (.int (x * y) :: st) ws o) : JO X M Qf pc lv (.int y :: .int x :: st) ws o :=
  fun a h ok ls H locs hl hP hD hS => lv_imul ok.1 ok.2.1 d (k a h ok ls H locs hl hP hD hS)
theorem JO.iand {x y : Int32} (d : decode M.1 pc = .ok (.iand, 1)) (k : JO X M Qf (pc + 1) lv (.int (x &&& y) :: st) ws o) : JO X M Qf pc lv (.int y :: .int x :: st) ws o :=
  fun a h ok ls H locs hl hP hD hS => lv_iand ok.1 ok.2.1 d (k a h ok ls H locs hl hP hD hS)
theorem JO.ior {x y : Int32} (d : decode M.1 pc = .ok (.ior, 1)) (k : JO X M Qf (pc + 1) lv (.int (x ||| y) :: st) ws o) : JO X M Qf pc lv (.int y :: .int x :: st) ws o :=
  fun a h ok ls H locs hl hP hD hS => lv_ior ok.1 ok.2.1 d (k a h ok ls H locs hl hP hD hS)
theorem JO.ixor {x y : Int32} (d : decode M.1 pc = .ok (.ixor, 1)) (k : JO X M Qf (pc + 1) lv (.int (x ^^^ y) :: st) ws o) : JO X M Qf pc lv (.int y :: .int x :: st) ws o :=
  fun a h ok ls H locs hl hP hD hS => lv_ixor ok.1 ok.2.1 d (k a h ok ls H locs hl hP hD hS)
theorem JO.ishl {x y : Int32} (d : decode M.1 pc = .ok (.ishl, 1)) (k : JO X M Qf (pc + 1) lv (.int (x <<< (y &&& 31)) :: st) ws o) : JO X M Qf pc lv (.int y :: .int x :: st) ws o :=
  fun a h ok ls H locs hl hP hD hS => lv_ishl ok.1 ok.2.1 d (k a h ok ls H locs hl hP hD hS)
theorem JO.ishr {x y : Int32} (d : decode M.1 pc = .ok (.ishr, 1)) (k : JO X M Qf (pc + 1) lv (.int (x >>> (y &&& 31)) :: st) ws o) : JO X M Qf pc lv (.int y :: .int x :: st) ws o :=
  fun a h ok ls H locs hl hP hD hS => lv_ishr ok.1 ok.2.1 d (k a h ok ls H locs hl hP hD hS)
theorem JO.ladd {x y : Int64} (d : decode M.1 pc = .ok (.ladd, 1)) (k : JO X M Qf (pc + 1) lv (.long (x + y) :: st) ws o) : JO X M Qf pc lv (.long y :: .long x :: st) ws o :=
  fun a h ok ls H locs hl hP hD hS => lv_ladd ok.1 ok.2.1 d (k a h ok ls H locs hl hP hD hS)
theorem JO.lsub {x y : Int64} (d : decode M.1 pc = .ok (.lsub, 1)) (k : JO X M Qf (pc + 1) lv (.long (x - y) :: st) ws o) : JO X M Qf pc lv (.long y :: .long x :: st) ws o :=
  fun a h ok ls H locs hl hP hD hS => lv_lsub ok.1 ok.2.1 d (k a h ok ls H locs hl hP hD hS)
theorem JO.land {x y : Int64} (d : decode M.1 pc = .ok (.land, 1)) (k : JO X M Qf (pc + 1) lv (.long (x &&& y) :: st) ws o) : JO X M Qf pc lv (.long y :: .long x :: st) ws o :=
  fun a h ok ls H locs hl hP hD hS => lv_land ok.1 ok.2.1 d (k a h ok ls H locs hl hP hD hS)
theorem JO.lor {x y : Int64} (d : decode M.1 pc = .ok (.lor, 1)) (k : JO X M Qf (pc + 1) lv (.long (x ||| y) :: st) ws o) : JO X M Qf pc lv (.long y :: .long x :: st) ws o :=
  fun a h ok ls H locs hl hP hD hS => lv_lor ok.1 ok.2.1 d (k a h ok ls H locs hl hP hD hS)
theorem JO.lxor {x y : Int64} (d : decode M.1 pc = .ok (.lxor, 1)) (k : JO X M Qf (pc + 1) lv (.long (x ^^^ y) :: st) ws o) : JO X M Qf pc lv (.long y :: .long x :: st) ws o :=
  fun a h ok ls H locs hl hP hD hS => lv_lxor ok.1 ok.2.1 d (k a h ok ls H locs hl hP hD hS)
theorem JO.irem {x y : Int32} (d : decode M.1 pc = .ok (.irem, 1)) (k : JO X M Qf (pc + 1) lv (.int (x - x / y * y) :: st) ws o) : JO X M Qf pc lv (.int y :: .int x :: st) ws (if y = 0 then none else o) := by
  intro a h ok ls H locs hl hP hD hS
  by_cases hy : y = 0
  · rw [if_pos hy] at h; cases h
  · rw [if_neg hy] at h; exact lv_irem ok.1 ok.2.1 d hy (k a h ok ls H locs hl hP hD hS)
theorem JO.iushr {x y : Int32} (d : decode M.1 pc = .ok (.iushr, 1)) (k : JO X M Qf (pc + 1) lv (.int (x.toUInt32 >>> (y.toUInt32 &&& Int32.toUInt32 31)).toInt32 :: st) ws o) : JO X M Qf pc lv (.int y :: .int x :: st) ws o :=
  fun a h ok ls H locs hl hP hD hS => lv_iushr ok.1 ok.2.1 d rfl (k a h ok ls H locs hl hP hD hS)
theorem JO.lushr {x : Int64} {y : Int32} (d : decode M.1 pc = .ok (.lushr, 1)) (k : JO X M Qf (pc + 1) lv (.long (x.toUInt64 >>> (y.toInt64.toUInt64 &&& Int64.toUInt64 63)).toInt64 :: st) ws o) : JO X M Qf pc lv (.int y :: .long x :: st) ws o :=
  fun a h ok ls H locs hl hP hD hS => lv_lushr ok.1 ok.2.1 d rfl (k a h ok ls H locs hl hP hD hS)
theorem JO.lshl {x : Int64} {y : Int32} (d : decode M.1 pc = .ok (.lshl, 1)) (k : JO X M Qf (pc + 1) lv (.long (x <<< (y.toInt64 &&& 63)) :: st) ws o) : JO X M Qf pc lv (.int y :: .long x :: st) ws o :=
  fun a h ok ls H locs hl hP hD hS => lv_lshl ok.1 ok.2.1 d rfl (k a h ok ls H locs hl hP hD hS)
theorem JO.lcmp {x y : Int64} (d : decode M.1 pc = .ok (.lcmp, 1)) (k : JO X M Qf (pc + 1) lv (.int (lg_cmp x y) :: st) ws o) : JO X M Qf pc lv (.long y :: .long x :: st) ws o :=
  fun a h ok ls H locs hl hP hD hS => W.lcmp ok.1 ok.2.1 d (k a h ok ls H locs hl hP hD hS)
theorem JO.ineg {x : Int32} (d : decode M.1 pc = .ok (.ineg, 1)) (k : JO X M Qf (pc + 1) lv (.int (-x) :: st) ws o) : JO X M Qf pc lv (.int x :: st) ws o :=
  fun a h ok ls H locs hl hP hD hS => lv_ineg ok.1 ok.2.1 d (k a h ok ls H locs hl hP hD hS)
theorem JO.i2l {x : Int32} (d : decode M.1 pc = .ok (.i2l, 1)) (k : JO X M Qf (pc + 1) lv (.long x.toInt64 :: st) ws o) : JO X M Qf pc lv (.int x :: st) ws o :=
  fun a h ok ls H locs hl hP hD hS => lv_i2l ok.1 ok.2.1 d rfl (k a h ok ls H locs hl hP hD hS)
theorem JO.l2i {x : Int64} (d : decode M.1 pc = .ok (.l2i, 1)) (k : JO X M Qf (pc + 1) lv (.int x.toInt32 :: st) ws o) : JO X M Qf pc lv (.long x :: st) ws o :=
  fun a h ok ls H locs hl hP hD hS => lv_l2i ok.1 ok.2.1 d rfl (k a h ok ls H locs hl hP hD hS)
theorem JO.i2b {x : Int32} (d : decode M.1 pc = .ok (.i2b, 1)) (k : JO X M Qf (pc + 1) lv (.int x.toInt8.toInt32 :: st) ws o) : JO X M Qf pc lv (.int x :: st) ws o :=
  fun a h ok ls H locs hl hP hD hS => lv_i2b ok.1 ok.2.1 d rfl (k a h ok ls H locs hl hP hD hS)
theorem JO.i2s {x : Int32} (d : decode M.1 pc = .ok (.i2s, 1)) (k : JO X M Qf (pc + 1) lv (.int x.toInt16.toInt32 :: st) ws o) : JO X M Qf pc lv (.int x :: st) ws o :=
  fun a h ok ls H locs hl hP hD hS => lv_i2s ok.1 ok.2.1 d rfl (k a h ok ls H locs hl hP hD hS)
theorem JO.dup {va : Value} (d : decode M.1 pc = .ok (.dup, 1)) (hva : va.category = 1) (k : JO X M Qf (pc + 1) lv (va :: va :: st) ws o) : JO X M Qf pc lv (va :: st) ws o :=
  fun a h ok ls H locs hl hP hD hS => lv_dup ok.1 ok.2.1 d hva (k a h ok ls H locs hl hP hD hS)
theorem JO.pop {va : Value} (d : decode M.1 pc = .ok (.pop, 1)) (hva : va.category = 1) (k : JO X M Qf (pc + 1) lv st ws o) : JO X M Qf pc lv (va :: st) ws o :=
  fun a h ok ls H locs hl hP hD hS => lv_pop ok.1 ok.2.1 d hva (k a h ok ls H locs hl hP hD hS)
theorem JO.dup_x1 {va vb : Value} (d : decode M.1 pc = .ok (.dup_x1, 1)) (hva : va.category = 1) (hvb : vb.category = 1) (k : JO X M Qf (pc + 1) lv (va :: vb :: va :: st) ws o) : JO X M Qf pc lv (va :: vb :: st) ws o :=
  fun a h ok ls H locs hl hP hD hS => lv_dup_x1 ok.1 ok.2.1 d hva hvb (k a h ok ls H locs hl hP hD hS)
theorem JO.dup2 {va vb : Value} (d : decode M.1 pc = .ok (.dup2, 1)) (hva : va.category = 1) (hvb : vb.category = 1) (k : JO X M Qf (pc + 1) lv (va :: vb :: va :: vb :: st) ws o) : JO X M Qf pc lv (va :: vb :: st) ws o :=
  fun a h ok ls H locs hl hP hD hS => lv_dup2_11 ok.1 ok.2.1 d hva hvb (k a h ok ls H locs hl hP hD hS)
theorem JO.goto {off : Int} (tgt : Nat) (d : decode M.1 pc = .ok (.goto off, 3)) (ht : (pc : Int) + off = (tgt : Int)) (k : JO X M Qf tgt lv st ws o) : JO X M Qf pc lv st ws o :=
  fun a h ok ls H locs hl hP hD hS => lv_goto ok.1 ok.2.1 d ht (k a h ok ls H locs hl hP hD hS)
theorem JO.icmp_eq {x y : Int32} {off : Int} (tgt : Nat) (d : decode M.1 pc = .ok (.if_icmp .eq off, 3)) (ht : (pc : Int) + off = (tgt : Int)) (kt : JO X M Qf tgt lv st ws o1) (kf : JO X M Qf (pc + 3) lv st ws o2) : JO X M Qf pc lv (.int y :: .int x :: st) ws (if x = y then o1 else o2) :=
  fun a h ok ls H locs hl hP hD hS => lv_icmp_eq ok.1 ok.2.1 d ht (fun c => kt a (by rw [if_pos c] at h; exact h) ok ls H locs hl hP hD hS) (fun c => kf a (by rw [if_neg c] at h; exact h) ok ls H locs hl hP hD hS)
theorem JO.if_eq {x : Int32} {off : Int} (tgt : Nat) (d : decode M.1 pc = .ok (.ifCond .eq off, 3)) (ht : (pc : Int) + off = (tgt : Int)) (kt : JO X M Qf tgt lv st ws o1) (kf : JO X M Qf (pc + 3) lv st ws o2) : JO X M Qf pc lv (.int x :: st) ws (if x = 0 then o1 else o2) :=
  fun a h ok ls H locs hl hP hD hS => lv_if_eq ok.1 ok.2.1 d ht (fun c => kt a (by rw [if_pos c] at h; exact h) ok ls H locs hl hP hD hS) (fun c => kf a (by rw [if_neg c] at h; exact h) ok ls H locs hl hP hD hS)
theorem JO.icmp_ne {x y : Int32} {off : Int} (tgt : Nat) (d : decode M.1 pc = .ok (.if_icmp .ne off, 3)) (ht : (pc : Int) + off = (tgt : Int)) (kt : JO X M Qf tgt lv st ws o1) (kf : JO X M Qf (pc + 3) lv st ws o2) : JO X M Qf pc lv (.int y :: .int x :: st) ws (if x = y then o2 else o1) :=
  fun a h ok ls H locs hl hP hD hS => lv_icmp_ne ok.1 ok.2.1 d ht (fun c => kt a (by rw [if_neg c] at h; exact h) ok ls H locs hl hP hD hS) (fun c => kf a (by rw [if_pos c] at h; exact h) ok ls H locs hl hP hD hS)
theorem JO.if_ne {x : Int32} {off : Int} (tgt : Nat) (d : decode M.1 pc = .ok (.ifCond .ne off, 3)) (ht : (pc : Int) + off = (tgt : Int)) (kt : JO X M Qf tgt lv st ws o1) (kf : JO X M Qf (pc + 3) lv st ws o2) : JO X M Qf pc lv (.int x :: st) ws (if x = 0 then o2 else o1) :=
  fun a h ok ls H locs hl hP hD hS => lv_if_ne ok.1 ok.2.1 d ht (fun c => kt a (by rw [if_neg c] at h; exact h) ok ls H locs hl hP hD hS) (fun c => kf a (by rw [if_pos c] at h; exact h) ok ls H locs hl hP hD hS)
theorem JO.icmp_lt {x y : Int32} {off : Int} (tgt : Nat) (d : decode M.1 pc = .ok (.if_icmp .lt off, 3)) (ht : (pc : Int) + off = (tgt : Int)) (kt : JO X M Qf tgt lv st ws o1) (kf : JO X M Qf (pc + 3) lv st ws o2) : JO X M Qf pc lv (.int y :: .int x :: st) ws (if x < y then o1 else o2) :=
  fun a h ok ls H locs hl hP hD hS => lv_icmp_lt ok.1 ok.2.1 d ht (fun c => kt a (by rw [if_pos c] at h; exact h) ok ls H locs hl hP hD hS) (fun c => kf a (by rw [if_neg c] at h; exact h) ok ls H locs hl hP hD hS)
theorem JO.if_lt {x : Int32} {off : Int} (tgt : Nat) (d : decode M.1 pc = .ok (.ifCond .lt off, 3)) (ht : (pc : Int) + off = (tgt : Int)) (kt : JO X M Qf tgt lv st ws o1) (kf : JO X M Qf (pc + 3) lv st ws o2) : JO X M Qf pc lv (.int x :: st) ws (if x < 0 then o1 else o2) :=
  fun a h ok ls H locs hl hP hD hS => lv_if_lt ok.1 ok.2.1 d ht (fun c => kt a (by rw [if_pos c] at h; exact h) ok ls H locs hl hP hD hS) (fun c => kf a (by rw [if_neg c] at h; exact h) ok ls H locs hl hP hD hS)
theorem JO.icmp_ge {x y : Int32} {off : Int} (tgt : Nat) (d : decode M.1 pc = .ok (.if_icmp .ge off, 3)) (ht : (pc : Int) + off = (tgt : Int)) (kt : JO X M Qf tgt lv st ws o1) (kf : JO X M Qf (pc + 3) lv st ws o2) : JO X M Qf pc lv (.int y :: .int x :: st) ws (if y ≤ x then o1 else o2) :=
  fun a h ok ls H locs hl hP hD hS => lv_icmp_ge ok.1 ok.2.1 d ht (fun c => kt a (by rw [if_pos c] at h; exact h) ok ls H locs hl hP hD hS) (fun c => kf a (by rw [if_neg c] at h; exact h) ok ls H locs hl hP hD hS)
theorem JO.if_ge {x : Int32} {off : Int} (tgt : Nat) (d : decode M.1 pc = .ok (.ifCond .ge off, 3)) (ht : (pc : Int) + off = (tgt : Int)) (kt : JO X M Qf tgt lv st ws o1) (kf : JO X M Qf (pc + 3) lv st ws o2) : JO X M Qf pc lv (.int x :: st) ws (if 0 ≤ x then o1 else o2) :=
  fun a h ok ls H locs hl hP hD hS => lv_if_ge ok.1 ok.2.1 d ht (fun c => kt a (by rw [if_pos c] at h; exact h) ok ls H locs hl hP hD hS) (fun c => kf a (by rw [if_neg c] at h; exact h) ok ls H locs hl hP hD hS)
theorem JO.icmp_gt {x y : Int32} {off : Int} (tgt : Nat) (d : decode M.1 pc = .ok (.if_icmp .gt off, 3)) (ht : (pc : Int) + off = (tgt : Int)) (kt : JO X M Qf tgt lv st ws o1) (kf : JO X M Qf (pc + 3) lv st ws o2) : JO X M Qf pc lv (.int y :: .int x :: st) ws (if y < x then o1 else o2) :=
  fun a h ok ls H locs hl hP hD hS => lv_icmp_gt ok.1 ok.2.1 d ht (fun c => kt a (by rw [if_pos c] at h; exact h) ok ls H locs hl hP hD hS) (fun c => kf a (by rw [if_neg c] at h; exact h) ok ls H locs hl hP hD hS)
theorem JO.if_gt {x : Int32} {off : Int} (tgt : Nat) (d : decode M.1 pc = .ok (.ifCond .gt off, 3)) (ht : (pc : Int) + off = (tgt : Int)) (kt : JO X M Qf tgt lv st ws o1) (kf : JO X M Qf (pc + 3) lv st ws o2) : JO X M Qf pc lv (.int x :: st) ws (if 0 < x then o1 else o2) :=
  fun a h ok ls H locs hl hP hD hS => lv_if_gt ok.1 ok.2.1 d ht (fun c => kt a (by rw [if_pos c] at h; exact h) ok ls H locs hl hP hD hS) (fun c => kf a (by rw [if_neg c] at h; exact h) ok ls H locs hl hP hD hS)
theorem JO.icmp_le {x y : Int32} {off : Int} (tgt : Nat) (d : decode M.1 pc = .ok (.if_icmp .le off, 3)) (ht : (pc : Int) + off = (tgt : Int)) (kt : JO X M Qf tgt lv st ws o1) (kf : JO X M Qf (pc + 3) lv st ws o2) : JO X M Qf pc lv (.int y :: .int x :: st) ws (if x ≤ y then o1 else o2) :=
  fun a h ok ls H locs hl hP hD hS => lv_icmp_le ok.1 ok.2.1 d ht (fun c => kt a (by rw [if_pos c] at h; exact h) ok ls H locs hl hP hD hS) (fun c => kf a (by rw [if_neg c] at h; exact h) ok ls H locs hl hP hD hS)
theorem JO.if_le {x : Int32} {off : Int} (tgt : Nat) (d : decode M.1 pc = .ok (.ifCond .le off, 3)) (ht : (pc : Int) + off = (tgt : Int)) (kt : JO X M Qf tgt lv st ws o1) (kf : JO X M Qf (pc + 3) lv st ws o2) : JO X M Qf pc lv (.int x :: st) ws (if x ≤ 0 then o1 else o2) :=
  fun a h ok ls H locs hl hP hD hS => lv_if_le ok.1 ok.2.1 d ht (fun c => kt a (by rw [if_pos c] at h; exact h) ok ls H locs hl hP hD hS) (fun c => kf a (by rw [if_neg c] at h; exact h) ok ls H locs hl hP hD hS)
theorem bI_0 {b : Bool} : bI b = 0 ↔ ¬ b = true := by cases b <;> simp [bI]
theorem JO.zeq {b : Bool} {off : Int} (tgt : Nat) (d : decode M.1 pc = .ok (.ifCond .eq off, 3)) (ht : (pc : Int) + off = (tgt : Int)) (kt : JO X M Qf tgt lv st ws o1) (kf : JO X M Qf (pc + 3) lv st ws o2) : JO X M Qf pc lv (.int (bI b) :: st) ws (if b = true then o2 else o1) :=
  fun a h ok ls H locs hl hP hD hS => lv_if_eq ok.1 ok.2.1 d ht (fun c => kt a (by rw [if_neg (bI_0.mp c)] at h; exact h) ok ls H locs hl hP hD hS) (fun c => kf a (by rw [if_pos (Decidable.not_not.mp (fun q => c (bI_0.mpr q)))] at h; exact h) ok ls H locs hl hP hD hS)
theorem JO.zne {b : Bool} {off : Int} (tgt : Nat) (d : decode M.1 pc = .ok (.ifCond .ne off, 3)) (ht : (pc : Int) + off = (tgt : Int)) (kt : JO X M Qf tgt lv st ws o1) (kf : JO X M Qf (pc + 3) lv st ws o2) : JO X M Qf pc lv (.int (bI b) :: st) ws (if b = true then o1 else o2) :=
  fun a h ok ls H locs hl hP hD hS => lv_if_ne ok.1 ok.2.1 d ht (fun c => kt a (by rw [if_pos (Decidable.not_not.mp (fun q => c (bI_0.mpr q)))] at h; exact h) ok ls H locs hl hP hD hS) (fun c => kf a (by rw [if_neg (bI_0.mp c)] at h; exact h) ok ls H locs hl hP hD hS)
/-- a constant 0 or 1, read as a truth value -/
theorem JO.zc {n : Int} (b : Bool) (d : decode M.1 pc = .ok (.iconst n, 1)) (hv : Int32.ofInt n = bI b) (k : JO X M Qf (pc + 1) lv (.int (bI b) :: st) ws o) : JO X M Qf pc lv st ws o :=
  fun a h ok ls H locs hl hP hD hS => lv_iconst ok.1 ok.2.1 d hv (k a h ok ls H locs hl hP hD hS)
/-- a field read -/
theorem JO.get {q0 ci N index b : Nat} {fs : List Value} {C ref : String} {T : u_T} {v : Value} (hc : vwCl[ci]? = some (C, T, N)) (hin : ∀ w ∈ u_ws C T N, w ∈ TT) (he : ws[q0]? = some (b, .inr (ci, fs))) (k : Nat) (hk : decide (k < N) = true) (w : Cond.fieldLink M.2.2.1 index ref (T k).2.1 (T k).2.2.1 ∈ TT) (hs : (T k).1 = ref ∨ Cond.sameField ref (T k).1 (T k).2.1 (T k).2.2.1 ∈ TT) (hv : fs[k]? = some v) (d : decode M.1 pc = .ok (.getfield index, 3)) (kk : JO X M Qf (pc + 3) lv (v :: st) ws o) : JO X M Qf pc lv (.ref b :: st) ws o :=
  fun a h ok ls H locs hl hP hD hS => va_get ok.1 ok.2.1 ok.2.2.2.2.2.2.2.1 hin ok.2.2.2.1 ok.2.2.2.2.2.2.2.2.2.1 hP q0 he hc k (of_decide_eq_true hk) (ok.2.2.2.2.2.2.2.1 _ w) (hs.elim (fun e x q => by rw [← e]; exact q) (fun m => u_same (ok.2.2.2.2.2.2.2.1 _ m))) hv d (kk a h ok ls H locs hl hP hD hS)
/-- a field written -/
theorem JO.put {q0 ci N index b : Nat} {fs : List Value} {C ref : String} {T : u_T} {v : Value} {ws' : va_W} {ty : FieldType} (tys : Nat → FieldType) (hty : ∀ k, k < N → parseFieldDescriptor (T k).2.2.1 = some (tys k)) (hnm : ∀ a, a < N → ∀ b, b < N → a ≠ b → (T a).2.1 ≠ (T b).2.1) (hc : vwCl[ci]? = some (C, T, N)) (hin : ∀ w ∈ u_ws C T N, w ∈ TT) (he : ws[q0]? = some (b, .inr (ci, fs))) (k : Nat) (hk : decide (k < N) = true) (w : Cond.fieldLink M.2.2.1 index ref (T k).2.1 (T k).2.2.1 ∈ TT) (hs : (T k).1 = ref ∨ Cond.sameField ref (T k).1 (T k).2.1 (T k).2.2.1 ∈ TT) (hf : (T k).2.2.2 = false) (hd : parseFieldDescriptor (T k).2.2.1 = some ty) (hn : narrow ty v = v) (hfit : fits ty v = true) (hl2 : k < fs.length) (hw : ws.set q0 (b, .inr (ci, fs.set k v)) = ws') (d : decode M.1 pc = .ok (.putfield index, 3)) (kk : JO X M Qf (pc + 3) lv st ws' o) : JO X M Qf pc lv (v :: .ref b :: st) ws o :=
  fun a h ok ls H locs hl hP hD hS => va_put ok.1 ok.2.1 ok.2.2.2.2.2.2.2.1 hin tys hty hnm ok.2.2.2.1 ok.2.2.2.2.2.2.2.2.2.1 hP hD hS q0 he hc k (of_decide_eq_true hk) (ok.2.2.2.2.2.2.2.1 _ w) (hs.elim (fun e x q => by rw [← e]; exact q) (fun m => u_same (ok.2.2.2.2.2.2.2.1 _ m))) hf hd hn hfit hl2 d (fun H1 locs1 hP1 hD1 hS1 => kk a h ok ls H1 locs1 hl (hw ▸ hP1) (hw ▸ hD1) hS1)
/-- an element read -/
theorem JO.iald {q0 n b : Nat} {f : Nat → Int32} {i : Int32} (he : ws[q0]? = some (b, .inl ((xZ X).1, n, .inl f))) (d : decode M.1 pc = .ok (.iaload, 1)) (kk : JO X M Qf (pc + 1) lv (.int (f (ix i)) :: st) ws o) : JO X M Qf pc lv (.int i :: .ref b :: st) ws (if inB i n = true then o else none) := by
  intro a h ok ls H locs hl hP hD hS
  by_cases hi : inB i n = true
  · rw [if_pos hi] at h
    exact va_iald ok.1 ok.2.1 ok.2.2.2.2.2.2.2.2.2.1 hP q0 0 he rfl (inB_in hi) d (kk a h ok ls H locs hl hP hD hS)
  · rw [if_neg hi] at h; cases h
theorem JO.lald {q0 n b : Nat} {f : Nat → Int64} {i : Int32} (he : ws[q0]? = some (b, .inl ((xZ X).2.1, n, .inr (.inl f)))) (d : decode M.1 pc = .ok (.laload, 1)) (kk : JO X M Qf (pc + 1) lv (.long (f (ix i)) :: st) ws o) : JO X M Qf pc lv (.int i :: .ref b :: st) ws (if inB i n = true then o else none) := by
  intro a h ok ls H locs hl hP hD hS
  by_cases hi : inB i n = true
  · rw [if_pos hi] at h
    exact va_lald ok.1 ok.2.1 ok.2.2.2.2.2.2.2.2.2.1 hP q0 1 he rfl (inB_in hi) d (kk a h ok ls H locs hl hP hD hS)
  · rw [if_neg hi] at h; cases h
theorem JO.iast {q0 n b : Nat} {f : Nat → Int32} {i x : Int32} {ws' : va_W} (he : ws[q0]? = some (b, .inl ((xZ X).1, n, .inl f))) (hw : ws.set q0 (b, .inl ((xZ X).1, n, .inl (upd f (ix i) x))) = ws') (d : decode M.1 pc = .ok (.iastore, 1)) (kk : JO X M Qf (pc + 1) lv st ws' o) : JO X M Qf pc lv (.int x :: .int i :: .ref b :: st) ws (if inB i n = true then o else none) := by
  intro a h ok ls H locs hl hP hD hS
  by_cases hi : inB i n = true
  · rw [if_pos hi] at h
    exact va_iast ok.1 ok.2.1 ok.2.2.2.2.2.2.2.2.2.1 hP hD hS q0 0 he rfl (inB_in hi) d (fun H1 locs1 hP1 hD1 hS1 => kk a h ok ls H1 locs1 hl (hw ▸ hP1) (hw ▸ hD1) hS1)
  · rw [if_neg hi] at h; cases h
theorem JO.last {q0 n b : Nat} {f : Nat → Int64} {i : Int32} {x : Int64} {ws' : va_W} (he : ws[q0]? = some (b, .inl ((xZ X).2.1, n, .inr (.inl f)))) (hw : ws.set q0 (b, .inl ((xZ X).2.1, n, .inr (.inl (vp_updL f (ix i) x)))) = ws') (d : decode M.1 pc = .ok (.lastore, 1)) (kk : JO X M Qf (pc + 1) lv st ws' o) : JO X M Qf pc lv (.long x :: .int i :: .ref b :: st) ws (if inB i n = true then o else none) := by
  intro a h ok ls H locs hl hP hD hS
  by_cases hi : inB i n = true
  · rw [if_pos hi] at h
    exact va_last ok.1 ok.2.1 ok.2.2.2.2.2.2.2.2.2.1 hP hD hS q0 1 he rfl (inB_in hi) d (fun H1 locs1 hP1 hD1 hS1 => kk a h ok ls H1 locs1 hl (hw ▸ hP1) (hw ▸ hD1) hS1)
  · rw [if_neg hi] at h; cases h
theorem JO.alen {q0 b : Nat} {cA : ClassId} {x : vp_A} (t0 : Nat) {ty : FieldType} (he : ws[q0]? = some (b, .inl (cA, x))) (ht : (xtys X)[t0]? = some (cA, ty)) (v : Int32) (hv : Int32.ofNat x.1 = v) (d : decode M.1 pc = .ok (.arraylength, 1)) (kk : JO X M Qf (pc + 1) lv (.int v :: st) ws o) : JO X M Qf pc lv (.ref b :: st) ws o :=
  fun a h ok ls H locs hl hP hD hS => va_alen ok.1 ok.2.1 ok.2.2.2.2.2.2.2.2.2.1 hP q0 t0 he ht hv d (kk a h ok ls H locs hl hP hD hS)
/-- a switch, as a row of tests -/
def sw (x : Int32) : List (Int32 × Nat × Option α) → Option α → Option α
  | [], d => d
  | e :: r, d => if x = e.1 then e.2.2 else sw x r d
theorem sw_in {x : Int32} {od : Option α} : ∀ (L : List (Int32 × Nat × Option α)), (∃ e ∈ L, x = e.1 ∧ sw x L od = e.2.2) ∨ ((∀ e ∈ L, x ≠ e.1) ∧ sw x L od = od)
  | [] => Or.inr ⟨fun _ h => absurd h List.not_mem_nil, rfl⟩
  | e :: r => by
    by_cases hx : x = e.1
    · exact Or.inl ⟨e, List.mem_cons_self, hx, by unfold sw; rw [if_pos hx]⟩
    · rcases sw_in r (x := x) (od := od) with ⟨e', h1, h2, h3⟩ | ⟨h1, h2⟩
      · exact Or.inl ⟨e', List.mem_cons_of_mem _ h1, h2, by unfold sw; rw [if_neg hx]; exact h3⟩
      · exact Or.inr ⟨fun e' h => by rcases List.mem_cons.mp h with rfl | h; exact hx; exact h1 e' h, by unfold sw; rw [if_neg hx]; exact h2⟩
theorem JO.tsw {dflt lo hi : Int} {offs : Array Int} {len : Nat} {x : Int32} {od : Option α} (L : List (Int32 × Nat × Option α)) (td : Nat) (ks : List (Int32 × Nat)) (d : decode M.1 pc = .ok (.tableswitch dflt lo hi offs, len)) (hks : L.map (fun e => (e.1, e.2.1)) = ks)
    (hL : (ks.all fun e => decide (lo ≤ e.1.toInt) && decide (e.1.toInt ≤ hi) && (offs[(e.1.toInt - lo).toNat]? == some ((e.2 : Int) - pc))) = true) (htd : (pc : Int) + dflt = td)
    (hR : ((List.range (hi - lo + 1).toNat).all fun i => (offs[i]? == some ((td : Int) - pc)) || ks.any fun e => e.1.toInt == lo + i) = true)
    (k : ∀ e ∈ L, JO X M Qf e.2.1 lv st ws e.2.2) (kd : JO X M Qf td lv st ws od) : JO X M Qf pc lv (.int x :: st) ws (sw x L od) := by
  intro a h ok ls H locs hl hP hD hS
  subst hks
  rcases sw_in L (x := x) (od := od) with ⟨e, h1, h2, h3⟩ | ⟨h1, h2⟩
  · have hc := List.all_eq_true.mp hL (e.1, e.2.1) (List.mem_map.mpr ⟨e, h1, rfl⟩)
    simp only [Bool.and_eq_true, decide_eq_true_eq, beq_iff_eq] at hc
    rw [h3] at h
    rw [← h2] at hc
    exact lv_tableIn ok.1 ok.2.1 d (by omega) (by omega) hc.2 (tgt := e.2.1) (by omega) (k e h1 a h ok ls H locs hl hP hD hS)
  · rw [h2] at h
    by_cases hb : x.toInt < lo ∨ hi < x.toInt
    · exact lv_tableOut ok.1 ok.2.1 d hb htd (kd a h ok ls H locs hl hP hD hS)
    · have hlt : (x.toInt - lo).toNat < (hi - lo + 1).toNat := by omega
      have hc := List.all_eq_true.mp hR _ (List.mem_range.mpr hlt)
      rcases Bool.or_eq_true _ _ ▸ hc with hc | hc
      · exact lv_tableIn ok.1 ok.2.1 d (by omega) (by omega) (by simpa using hc) (tgt := td) (by omega) (kd a h ok ls H locs hl hP hD hS)
      · exfalso
        obtain ⟨e, he, hx⟩ := List.any_eq_true.mp hc
        obtain ⟨e', he', rfl⟩ := List.mem_map.mp he
        refine h1 e' he' (Int32.toInt_inj.mp ?_)
        simp only [beq_iff_eq] at hx
        omega
end JR
/-- the end of a method whose answer and cells are those of a -/
def QF {α : Type} (X : JX) (enc : α → Option Value) (wo : α → va_W) (a : α) : State → Prop :=
  MQ (xbelow X) (fun _ st oc t => (oc = .returned (enc a) ∧ va_P (xD X) vwCl (wo a) t.heap ∧ va_K (xD X) vwCl (xtys X) t) ∧ va_F (xA X) st t) (xargs X) (xs X) 0 0 (xA X)
section JE
variable {α : Type} {X : JX} {M : JM} {pc : Nat} {lv : List (Option Value)} {ws : va_W} {enc : α → Option Value} {wo : α → va_W} {a : α}
theorem JO.iret {v : Int32} (d : decode M.1 pc = .ok (.ireturn, 1)) (hr : M.2.2.2.1 = some .int) (he : enc a = some (.int v)) (hw : wo a = ws) : JO X M (QF X enc wo) pc lv [.int v] ws (some a) := by
  intro a' h ok ls H locs hl hP hD hS
  cases h
  exact W.iret ok.1 ok.2.1 (ok.2.2.2.2.1.trans hr) (fun t ht hW => ⟨⟨by rw [he], by rw [ht, hw]; exact hP, va_K.moved hW.alike ok.2.2.2.2.2.2.2.2.2.1⟩, hS.F ht⟩) hS.2.2 d (hlocks := ok.2.2.2.2.2.2.2.2.1)
theorem JO.zret {b : Bool} (d : decode M.1 pc = .ok (.ireturn, 1)) (hr : M.2.2.2.1 = some .boolean) (he : enc a = some (.int (bI b))) (hw : wo a = ws) : JO X M (QF X enc wo) pc lv [.int (bI b)] ws (some a) := by
  intro a' h ok ls H locs hl hP hD hS
  cases h
  exact W.zret ok.1 ok.2.1 (ok.2.2.2.2.1.trans hr) (by cases b <;> decide) (fun t ht hW => ⟨⟨by rw [he], by rw [ht, hw]; exact hP, va_K.moved hW.alike ok.2.2.2.2.2.2.2.2.2.1⟩, hS.F ht⟩) hS.2.2 d (hlocks := ok.2.2.2.2.2.2.2.2.1)
theorem JO.lret {v : Int64} (d : decode M.1 pc = .ok (.lreturn, 1)) (hr : M.2.2.2.1 = some .long) (he : enc a = some (.long v)) (hw : wo a = ws) : JO X M (QF X enc wo) pc lv [.long v] ws (some a) := by
  intro a' h ok ls H locs hl hP hD hS
  cases h
  exact W.lret ok.1 ok.2.1 (ok.2.2.2.2.1.trans hr) (fun t ht hW => ⟨⟨by rw [he], by rw [ht, hw]; exact hP, va_K.moved hW.alike ok.2.2.2.2.2.2.2.2.2.1⟩, hS.F ht⟩) hS.2.2 d (hlocks := ok.2.2.2.2.2.2.2.2.1)
theorem JO.vret (d : decode M.1 pc = .ok (.return_, 1)) (hr : M.2.2.2.1 = Option.none) (he : enc a = Option.none) (hw : wo a = ws) : JO X M (QF X enc wo) pc lv [] ws (some a) := by
  intro a' h ok ls H locs hl hP hD hS
  cases h
  exact W.vret ok.1 ok.2.1 (ok.2.2.2.2.1.trans hr) (fun t ht hW => ⟨⟨by rw [he], by rw [ht, hw]; exact hP, va_K.moved hW.alike ok.2.2.2.2.2.2.2.2.2.1⟩, hS.F ht⟩) hS.2.2 d (hlocks := ok.2.2.2.2.2.2.2.2.1)
theorem JO.aret {v : Value} {rt : FieldType} (d : decode M.1 pc = .ok (.areturn, 1)) (hr : M.2.2.2.1 = some rt) (hrt : (∃ n, rt = .object n) ∨ ∃ t, rt = .array t) (hv : v = .null ∨ ∃ q, v = .ref q) (he : enc a = some v) (hw : wo a = ws) : JO X M (QF X enc wo) pc lv [v] ws (some a) := by
  intro a' h ok ls H locs hl hP hD hS
  cases h
  exact W.aret ok.1 ok.2.1 (ok.2.2.2.2.1.trans hr) hrt hv (fun t ht hW => ⟨⟨by rw [he], by rw [ht, hw]; exact hP, va_K.moved hW.alike ok.2.2.2.2.2.2.2.2.2.1⟩, hS.F ht⟩) hS.2.2 d (hlocks := ok.2.2.2.2.2.2.2.2.1)
end JE
end
section
/-! CONTRACTS AND CALLS in the judgement's words -/
/-- the locals with which a method begins -/
def lvA : List Value → List (Option Value)
  | [] => []
  | v :: vs => match v with
    | .long x => some (.long x) :: none :: lvA vs
    | .double x => some (.double x) :: none :: lvA vs
    | w => some w :: lvA vs
theorem lvA_long (x : Int64) (vs : List Value) : lvA (.long x :: vs) = some (.long x) :: none :: lvA vs := rfl
theorem lvA_mem : ∀ (vs : List Value) (p i : Nat) (v : Value), (lvA vs)[i]? = some (some v) → (p + i, v) ∈ lv_args p vs
  | [], p, i, v, h => by simp [lvA] at h
  | u :: us, p, i, v, h => by
    by_cases hc : u.category = 2
    · have e : lvA (u :: us) = some u :: none :: lvA us := by cases u <;> simp [Value.category] at hc <;> rfl
      rw [e] at h
      unfold lv_args
      rw [if_pos hc]
      match i, h with
      | 0, h => simp at h; subst h; exact List.mem_cons_self
      | 1, h => simp at h
      | i + 2, h =>
        have := lvA_mem us (p + 2) i v (by simpa using h)
        exact List.mem_cons_of_mem _ (by rw [show p + (i + 2) = p + 2 + i by omega]; exact this)
    · have e : lvA (u :: us) = some u :: lvA us := by cases u <;> simp [Value.category] at hc <;> rfl
      rw [e] at h
      unfold lv_args
      rw [if_neg hc]
      match i, h with
      | 0, h => simp at h; subst h; exact List.mem_cons_self
      | i + 1, h =>
        have := lvA_mem us (p + 1) i v (by simpa using h)
        exact List.mem_cons_of_mem _ (by rw [show p + (i + 1) = p + 1 + i by omega]; exact this)
/-- y's contract: from the cells ws, with the arguments As, it comes back with the answer and the cells of a, if o is some a -/
def CO {α : Type} (y : MethodName) (M : JM) (enc : α → Option Value) (Z : ZT) (wo : α → va_W) (As : List Value) (ws : va_W) (o : Option α) : Prop :=
  ∀ a, o = some a → ∀ (l : Launch) (D : va_G) (sz : Nat), Met l y (Cond.code y M.1 M.2.1 M.2.2.2.1 :: TT) { frames := M.2.2.2.2.1, cells := 0, slots := 0, locals := M.2.2.2.2.2 }
    (va_Pc As (fun U => U.heap.size = sz ∧ va_P D vwCl ws U.heap ∧ va_K D vwCl (tyl Z) U ∧ va_D (fun _ => True) ws ∧ CW (va_A ws sz) U U.heap))
    (fun _ st oc t => (oc = .returned (enc a) ∧ va_P D vwCl (wo a) t.heap ∧ va_K D vwCl (tyl Z) t) ∧ va_F (va_A ws sz) st t)
    0 0 (va_A ws sz)
theorem CO.of {α : Type} {y : MethodName} {M : JM} {enc : α → Option Value} {Z : ZT} {wo : α → va_W} {As : List Value} {ws : va_W} {o : Option α} (hy : plainName y.cls = true) (hown : M.2.2.1 = y.cls) (hl : (lg_sl As).length ≤ M.2.1) (n : Nat)
    (k : ∀ X : JX, xZ X = Z → JO X M (QF X enc wo) 0 (lvA As ++ List.replicate n Option.none) [] ws o) : CO y M enc Z wo As ws o := by
  intro a ho l D sz
  refine Met.ofW (cc := M.1) (maxL := M.2.1) (ret := M.2.2.2.1) hy rfl ?_
  intro p e s m args below meth c s₁ B hml hv
  obtain ⟨rfl, hsz, hP, hK, hD0, hC⟩ := hv
  subst hsz
  have hts := atoms_spec (ws := Cond.code y M.1 M.2.1 M.2.2.2.1 :: TT) B.pre
  have hD := hD0.self (sz := s.heap.size)
  rw [lg_entry_eq]
  have hl2 := lv_entry As (n := M.2.1) hl
  refine k (p, l, e, (headSpec (Cond.code y M.1 M.2.1 M.2.2.2.1 :: TT) { frames := M.2.2.2.2.1, cells := 0, slots := 0, locals := M.2.2.2.2.2 }).room, s, m, As.toArray, below, meth, c, D, va_A ws s.heap.size, Z) rfl a ho ⟨B.exec, B.bytes, hml, ?_, B.returns, Nat.le_refl _, Nat.le_refl _, fun w hw => hts w (List.mem_cons_of_mem _ hw), B.notSynchronized, hK, fun q h => Or.inr h, hC⟩ _ s.heap [] ⟨hl2.1, hl2.2.1, fun i v hi => ?_⟩ hP hD va_S.rf
  · rw [hown]; exact findClass_of_methodNamed B.named
  · have hi2 : (lvA As)[i]? = some (some v) := by
      by_cases hlt : i < (lvA As).length
      · rw [List.getElem?_append_left hlt] at hi; exact hi
      · rw [List.getElem?_append_right (by omega)] at hi
        have := List.eq_of_mem_replicate (List.mem_of_getElem? hi)
        cases this
    have := lvA_mem As 0 i v hi2
    rw [Nat.zero_add] at this
    exact hl2.2.2 (i, v) this
theorem va_D_same {A : Nat → Prop} {ws ws' : va_W} (h : va_D A ws) (e : ws'.map Prod.fst = ws.map Prod.fst) : va_D A ws' := by
  have key : ∀ (i : Nat) (p : Nat × va_E), ws'[i]? = some p → ∃ p', ws[i]? = some p' ∧ p'.1 = p.1 := by
    intro i p hp
    have h1 : (ws'.map Prod.fst)[i]? = some p.1 := by rw [List.getElem?_map, hp]; rfl
    rw [e, List.getElem?_map] at h1
    cases h2 : ws[i]? with
    | none => rw [h2] at h1; cases h1
    | some p' => rw [h2] at h1; exact ⟨p', rfl, by simpa using h1⟩
  refine ⟨fun i j p q hp hq hpq => ?_, fun i p hp => ?_⟩
  · obtain ⟨p', h1, h2⟩ := key i p hp
    obtain ⟨q', h3, h4⟩ := key j q hq
    exact h.1 i j p' q' h1 h3 (by rw [h2, h4]; exact hpq)
  · obtain ⟨p', h1, h2⟩ := key i p hp
    rw [← h2]
    exact h.2 i p' h1
theorem goodTT {y : MethodName} {M : JM} (h : Cond.code y M.1 M.2.1 M.2.2.2.1 ∈ TT) : GoodIn TT (Cond.code y M.1 M.2.1 M.2.2.2.1 :: TT) := fun w hw => by
  rcases List.mem_cons.mp hw with rfl | hw
  · exact ⟨h, good_of_word (tt_good h)⟩
  · exact ⟨hw, good_of_word (tt_good hw)⟩
/-- the callee's room is in the caller's -/
def roomOk (M M' : JM) : Bool := decide (M'.2.2.2.2.1 + 1 ≤ M.2.2.2.2.1) && decide (8 + (M'.2.1 + 11) + M'.2.2.2.2.2 ≤ M.2.2.2.2.2)
section JC
variable {α β : Type} {X : JX} {M M' : JM} {Qf : α → State → Prop} {pc : Nat} {lv : List (Option Value)} {st rest : List Value} {ws : va_W} {o' : Option β} {y : MethodName} {enc : β → Option Value} {wo : β → va_W} {As : List Value}
/-- what is behind a call, out of the run -/
theorem JO.back {kk : β → Option α} {a : α} {b : β} (ok : OKX X M) {ls : Array Slot} {H : Heap} {locs : List Loc} (hl : lvD ls M.2.1 lv) (hP : va_P (xD X) vwCl ws H) (hD : va_D (xA X) ws) (hS : va_S (xA X) (xs X).heap H locs)
    (hsame : ∀ b, (wo b).map Prod.fst = ws.map Prod.fst) (k : ∀ b, JO X M Qf (pc + 3) lv ((enc b).toList ++ rest) (wo b) (kk b)) (hk : kk b = some a)
    (hr : va_Run (xp X) (xl X) (xe X) (xR X) (xs X) (xm X) (xargs X) (xbelow X) (xmeth X) (xc X) H locs 0 0 0 0 (F0 (xm X) pc ls st) rest (fun (st0 : State) (oc : Outcome) (t : State) => (oc = .returned (enc b) ∧ va_P (xD X) vwCl (wo b) t.heap ∧ va_K (xD X) vwCl (xtys X) t) ∧ va_F (va_A ws H.size) st0 t) (va_A ws H.size)) :
    W (xp X) (xl X) (xe X) (xR X) (xs X) (xm X) (xargs X) (xbelow X) (xmeth X) (xc X) H locs 0 0 (Qf a) (F0 (xm X) pc ls st) := by
  have hA : ∀ q, va_A ws H.size q → xA X q := by
    rintro q (⟨k, e, hq⟩ | hq)
    · exact hD.2 k _ hq
    · exact ok.2.2.2.2.2.2.2.2.2.2.1 q (Nat.le_trans hS.1 hq)
  intro T hT Xs
  obtain ⟨v, st₀, t, T', L, h0, X', hL, e1, e2, ⟨⟨hv, hPb, hKb⟩, hz, hk1⟩, stp⟩ := hr T hT Xs
  have hv2 : v = enc b := by simpa using hv
  subst hv2
  rw [h0] at hz hk1
  obtain ⟨t2, a1, b1⟩ := k b a hk ok ls T'.heap (locs ++ L) hl (by rw [e1]; exact hPb) (va_D_same hD (hsame b)) ⟨Nat.le_trans hS.1 (by rw [e1]; exact hz), fun q h1 h2 => by rw [e1, hk1 q (Nat.lt_of_lt_of_le h1 hS.1) (fun z => h2 (hA q z))]; exact hS.2.1 q h1 h2, fun q hq => by
      rcases List.mem_append.mp hq with h | h
      · exact hS.2.2 q h
      · exact hA _ (hL q h)⟩ T' rfl X'
  exact ⟨t2, stp t2 a1, b1⟩
theorem JO.pre {b : β} (hc : CO y M' enc (xZ X) wo As ws o') (hb : o' = some b) (ok : OKX X M) {H : Heap} {locs : List Loc} (hP : va_P (xD X) vwCl ws H) (hD : va_D (xA X) ws) (hS : va_S (xA X) (xs X).heap H locs) :
    FrameBlind (va_Pc As (fun U => U.heap.size = H.size ∧ va_P (xD X) vwCl ws U.heap ∧ va_K (xD X) vwCl (xtys X) U ∧ va_D (fun _ => True) ws ∧ CW (va_A ws H.size) U U.heap)) ∧ ∀ U : State, U.heap = H → (xs X).WarmedH U.vm → va_Pc As (fun U => U.heap.size = H.size ∧ va_P (xD X) vwCl ws U.heap ∧ va_K (xD X) vwCl (xtys X) U ∧ va_D (fun _ => True) ws ∧ CW (va_A ws H.size) U U.heap) As.toArray U := by
  have hA : ∀ q, va_A ws H.size q → xA X q := by
    rintro q (⟨k, e, hq⟩ | hq)
    · exact hD.2 k _ hq
    · exact ok.2.2.2.2.2.2.2.2.2.2.1 q (Nat.le_trans hS.1 hq)
  refine ⟨fun a U g mk q => ?_, fun U hU hW => ⟨rfl, by rw [hU], by rw [hU]; exact hP, va_K.moved hW.alike ok.2.2.2.2.2.2.2.2.2.1, hD.weaken (fun _ _ _ _ => trivial), CW.call ok.2.2.2.2.2.2.2.2.2.2.2 hS hA hU hW⟩⟩
  obtain ⟨q0, q1, qP, qK, qD, qC⟩ := q
  exact ⟨q0, q1, qP, va_K.moved (u := U) (U := U.calling g mk a) (Vm.Alike.refl U.vm) qK, qD, CW.blind qC⟩
/-- a method of the receiver's own class -/
theorem JO.callV {index q0 ci N b0 n : Nat} {C : String} {T : u_T} {fs : List Value} {kk : β → Option α} (hc : CO y M' enc (xZ X) wo (.ref b0 :: As) ws o') (hcl : vwCl[ci]? = some (C, T, N)) (he : ws[q0]? = some (b0, .inr (ci, fs))) (hC : y.cls = C)
    (w1 : Cond.methodLink M.2.2.1 index y ∈ TT) (w2 : Cond.instanceMethod y ∈ TT) (w3 : Cond.selects C y y ∈ TT) (w4 : Cond.initialized C ∈ TT) (w5 : Cond.code y M'.1 M'.2.1 M'.2.2.2.1 ∈ TT)
    (hd : y.cls ≠ "java/lang/invoke/MethodHandle" ∧ y.cls ≠ "java/lang/invoke/VarHandle" ∧ (parseMethodDescriptor y.desc).map (fun d => d.parameters.length) = some n) (hn : As.length = n) (hst : st = As.reverse ++ .ref b0 :: rest) (hroom : roomOk M M' = true) (hcat : (rest.map fun v => v.category).sum ≤ 8)
    (hsame : ∀ b, (wo b).map Prod.fst = ws.map Prod.fst) (d : decode M.1 pc = .ok (.invokevirtual index, 3)) (k : ∀ b, JO X M Qf (pc + 3) lv ((enc b).toList ++ rest) (wo b) (kk b)) : JO X M Qf pc lv st ws (o'.bind kk) := by
  intro a h ok ls H locs hl hP hD hS
  obtain ⟨b, hb, hk⟩ := Option.bind_eq_some_iff.mp h
  have hM := hc b hb (xl X) (xD X) H.size
  have hpre := JO.pre hc hb ok hP hD hS
  simp only [roomOk, Bool.and_eq_true, decide_eq_true_eq] at hroom
  have hts := ok.2.2.2.2.2.2.2.1
  have hB : CallB (xR X) (xs X) (xargs X) M.2.2.1 index y M'.1 M'.2.1 M'.2.2.2.1 _ _ 0 0 n := callB_of (rm := { frames := M'.2.2.2.2.1, cells := 0, slots := 0, locals := M'.2.2.2.2.2 }) n hts (goodTT w5) rfl rfl rfl (by rw [hC]; exact hts _ w4) (hts _ w1) hd ⟨Nat.le_trans hroom.1 ok.2.2.2.2.2.1, Nat.le_trans hroom.2 ok.2.2.2.2.2.2.1⟩
  have hr := va_runV (As := As) (rest := rest) (g := F0 (xm X) pc ls st) (locs := locs) (cells := 0) (slots := 0) (e := xe X) (below := xbelow X) (meth := xmeth X) (b := b0) ⟨ok.1, ok.2.1, ok.2.2.1, ok.2.2.2.1, hts⟩ hM ⟨hB, hts _ w2, hts _ w3⟩ ⟨hpre.1, va_recv ok.2.2.2.2.2.2.2.2.2.1 hP hcl he, hpre.2⟩ rfl hn hl.1 hst (lv_room hcat) d ⟨Nat.zero_le _, Nat.zero_le _⟩
  exact JO.back ok hl hP hD hS hsame k hk hr
/-- a static method -/
theorem JO.callS {index n : Nat} {kk : β → Option α} (hc : CO y M' enc (xZ X) wo As ws o')
    (w1 : Cond.methodLink M.2.2.1 index y ∈ TT) (w2 : Cond.static y ∈ TT) (w4 : Cond.initialized y.cls ∈ TT) (w5 : Cond.code y M'.1 M'.2.1 M'.2.2.2.1 ∈ TT)
    (hd : y.cls ≠ "java/lang/invoke/MethodHandle" ∧ y.cls ≠ "java/lang/invoke/VarHandle" ∧ (parseMethodDescriptor y.desc).map (fun d => d.parameters.length) = some n) (hn : As.length = n) (hst : st = As.reverse ++ rest) (hroom : roomOk M M' = true) (hcat : (rest.map fun v => v.category).sum ≤ 8)
    (hsame : ∀ b, (wo b).map Prod.fst = ws.map Prod.fst) (d : decode M.1 pc = .ok (.invokestatic index, 3)) (k : ∀ b, JO X M Qf (pc + 3) lv ((enc b).toList ++ rest) (wo b) (kk b)) : JO X M Qf pc lv st ws (o'.bind kk) := by
  intro a h ok ls H locs hl hP hD hS
  obtain ⟨b, hb, hk⟩ := Option.bind_eq_some_iff.mp h
  have hM := hc b hb (xl X) (xD X) H.size
  have hpre := JO.pre hc hb ok hP hD hS
  simp only [roomOk, Bool.and_eq_true, decide_eq_true_eq] at hroom
  have hts := ok.2.2.2.2.2.2.2.1
  have hB : CallB (xR X) (xs X) (xargs X) M.2.2.1 index y M'.1 M'.2.1 M'.2.2.2.1 _ _ 0 0 n := callB_of (rm := { frames := M'.2.2.2.2.1, cells := 0, slots := 0, locals := M'.2.2.2.2.2 }) n hts (goodTT w5) rfl rfl rfl (hts _ w4) (hts _ w1) hd ⟨Nat.le_trans hroom.1 ok.2.2.2.2.2.1, Nat.le_trans hroom.2 ok.2.2.2.2.2.2.1⟩
  have hr := va_runS (As := As) (rest := rest) (g := F0 (xm X) pc ls st) (locs := locs) (cells := 0) (slots := 0) (e := xe X) (below := xbelow X) (meth := xmeth X) ⟨ok.1, ok.2.1, ok.2.2.1, ok.2.2.2.1, hts⟩ hM ⟨hB, hts _ w2⟩ hpre rfl hn hl.1 hst (lv_room hcat) d ⟨Nat.zero_le _, Nat.zero_le _⟩
  exact JO.back ok hl hP hD hS hsame k hk hr
end JC
/-- how answers stand on the stack -/
abbrev eI {S : Type} : Int32 × S → Option Value := fun a => some (.int a.1)
abbrev eZ {S : Type} : Bool × S → Option Value := fun a => some (.int (bI a.1))
abbrev eL {S : Type} : Int64 × S → Option Value := fun a => some (.long a.1)
abbrev eV {S : Type} : Unit × S → Option Value := fun _ => none
end
