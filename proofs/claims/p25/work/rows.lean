section
/-! The tables' words (kit/laws/SKELETON.whole, part A, as it stands there), and four more: private methods of a class that objects of a subclass call. -/
/-- a private method of a class that the tables say can be made, by its rows of tables_1 -/
def lw_okq (q : MethodName × Nat) : Prop := (q.1.cls ≠ "java/lang/invoke/MethodHandle" ∧ q.1.cls ≠ "java/lang/invoke/VarHandle") ∧ Cond.instantiable q.1.cls q.2 ∈ tables_1 ∧ Cond.privateMethod q.1 ∈ tables_1 ∧ Cond.instanceMethod q.1 ∈ tables_1
theorem lw_p0 : lw_okq (⟨"java/lang/Throwable", "fillInStackTrace", "(I)Ljava/lang/Throwable;"⟩, 6) := ⟨⟨by decide +kernel, by decide +kernel⟩, List.mem_of_getElem? (i := 488) (by decide +kernel), List.mem_of_getElem? (i := 486) (by decide +kernel), List.mem_of_getElem? (i := 487) (by decide +kernel)⟩
theorem lw_p1 : lw_okq (⟨"ClauseDesk", "counted", "(I)I"⟩, 14) := ⟨⟨by decide +kernel, by decide +kernel⟩, List.mem_of_getElem? (i := 36) (by decide +kernel), List.mem_of_getElem? (i := 513) (by decide +kernel), List.mem_of_getElem? (i := 514) (by decide +kernel)⟩
theorem lw_p2 : lw_okq (⟨"ClauseDesk", "isFact", "(I)Z"⟩, 14) := ⟨⟨by decide +kernel, by decide +kernel⟩, List.mem_of_getElem? (i := 36) (by decide +kernel), List.mem_of_getElem? (i := 541) (by decide +kernel), List.mem_of_getElem? (i := 542) (by decide +kernel)⟩
theorem lw_p3 : lw_okq (⟨"ClauseDesk$Contract", "gather", "(LClauseDesk$Library;[III)V"⟩, 10) := ⟨⟨by decide +kernel, by decide +kernel⟩, List.mem_of_getElem? (i := 250) (by decide +kernel), List.mem_of_getElem? (i := 566) (by decide +kernel), List.mem_of_getElem? (i := 567) (by decide +kernel)⟩
theorem lw_p4 : lw_okq (⟨"ClauseDesk$Scribe", "pop", "()I"⟩, 8) := ⟨⟨by decide +kernel, by decide +kernel⟩, List.mem_of_getElem? (i := 276) (by decide +kernel), List.mem_of_getElem? (i := 592) (by decide +kernel), List.mem_of_getElem? (i := 593) (by decide +kernel)⟩
theorem lw_p5 : lw_okq (⟨"ClauseDesk$Scribe", "act", "(LClauseDesk$Kind;II)V"⟩, 8) := ⟨⟨by decide +kernel, by decide +kernel⟩, List.mem_of_getElem? (i := 276) (by decide +kernel), List.mem_of_getElem? (i := 596) (by decide +kernel), List.mem_of_getElem? (i := 597) (by decide +kernel)⟩
theorem lw_p6 : lw_okq (⟨"ClauseDesk$Scribe", "writeWord", "(II)V"⟩, 8) := ⟨⟨by decide +kernel, by decide +kernel⟩, List.mem_of_getElem? (i := 276) (by decide +kernel), List.mem_of_getElem? (i := 616) (by decide +kernel), List.mem_of_getElem? (i := 617) (by decide +kernel)⟩
theorem lw_p7 : lw_okq (⟨"ClauseDesk$Scribe", "note", "(I)V"⟩, 8) := ⟨⟨by decide +kernel, by decide +kernel⟩, List.mem_of_getElem? (i := 276) (by decide +kernel), List.mem_of_getElem? (i := 636) (by decide +kernel), List.mem_of_getElem? (i := 637) (by decide +kernel)⟩
theorem lw_p8 : lw_okq (⟨"ClauseDesk$Scribe", "placeOf", "(I)I"⟩, 8) := ⟨⟨by decide +kernel, by decide +kernel⟩, List.mem_of_getElem? (i := 276) (by decide +kernel), List.mem_of_getElem? (i := 644) (by decide +kernel), List.mem_of_getElem? (i := 645) (by decide +kernel)⟩
theorem lw_p9 : lw_okq (⟨"ClauseDesk$Scribe", "reckon", "(LClauseDesk$Kind;I)V"⟩, 8) := ⟨⟨by decide +kernel, by decide +kernel⟩, List.mem_of_getElem? (i := 276) (by decide +kernel), List.mem_of_getElem? (i := 648) (by decide +kernel), List.mem_of_getElem? (i := 649) (by decide +kernel)⟩
theorem lw_p10 : lw_okq (⟨"ClauseDesk$Scribe", "push", "(I)V"⟩, 8) := ⟨⟨by decide +kernel, by decide +kernel⟩, List.mem_of_getElem? (i := 276) (by decide +kernel), List.mem_of_getElem? (i := 654) (by decide +kernel), List.mem_of_getElem? (i := 655) (by decide +kernel)⟩
theorem lw_p11 : lw_okq (⟨"ClauseDesk$Contract", "write", "(LClauseDesk$Library;)V"⟩, 10) := ⟨⟨by decide +kernel, by decide +kernel⟩, List.mem_of_getElem? (i := 250) (by decide +kernel), List.mem_of_getElem? (i := 699) (by decide +kernel), List.mem_of_getElem? (i := 700) (by decide +kernel)⟩
theorem lw_p12 : lw_okq (⟨"ClauseDesk$Contract", "tally", "(LClauseDesk$Library;)V"⟩, 10) := ⟨⟨by decide +kernel, by decide +kernel⟩, List.mem_of_getElem? (i := 250) (by decide +kernel), List.mem_of_getElem? (i := 705) (by decide +kernel), List.mem_of_getElem? (i := 706) (by decide +kernel)⟩
theorem lw_p13 : lw_okq (⟨"ClauseDesk$Contract", "tallyItem", "(LClauseDesk$Library;II)V"⟩, 10) := ⟨⟨by decide +kernel, by decide +kernel⟩, List.mem_of_getElem? (i := 250) (by decide +kernel), List.mem_of_getElem? (i := 709) (by decide +kernel), List.mem_of_getElem? (i := 710) (by decide +kernel)⟩
theorem lw_p14 : lw_okq (⟨"ClauseDesk$Contract", "judge", "(LClauseDesk$Library;)V"⟩, 10) := ⟨⟨by decide +kernel, by decide +kernel⟩, List.mem_of_getElem? (i := 250) (by decide +kernel), List.mem_of_getElem? (i := 724) (by decide +kernel), List.mem_of_getElem? (i := 725) (by decide +kernel)⟩
theorem lw_p15 : lw_okq (⟨"ClauseDesk$Contract", "judgeLinks", "(LClauseDesk$Library;IILClauseDesk$Kind;)V"⟩, 10) := ⟨⟨by decide +kernel, by decide +kernel⟩, List.mem_of_getElem? (i := 250) (by decide +kernel), List.mem_of_getElem? (i := 734) (by decide +kernel), List.mem_of_getElem? (i := 735) (by decide +kernel)⟩
def lw_privs_1 : List (MethodName × Nat) := [(⟨"java/lang/Throwable", "fillInStackTrace", "(I)Ljava/lang/Throwable;"⟩, 6), (⟨"ClauseDesk", "counted", "(I)I"⟩, 14), (⟨"ClauseDesk", "isFact", "(I)Z"⟩, 14), (⟨"ClauseDesk$Contract", "gather", "(LClauseDesk$Library;[III)V"⟩, 10), (⟨"ClauseDesk$Scribe", "pop", "()I"⟩, 8), (⟨"ClauseDesk$Scribe", "act", "(LClauseDesk$Kind;II)V"⟩, 8), (⟨"ClauseDesk$Scribe", "writeWord", "(II)V"⟩, 8), (⟨"ClauseDesk$Scribe", "note", "(I)V"⟩, 8), (⟨"ClauseDesk$Scribe", "placeOf", "(I)I"⟩, 8), (⟨"ClauseDesk$Scribe", "reckon", "(LClauseDesk$Kind;I)V"⟩, 8), (⟨"ClauseDesk$Scribe", "push", "(I)V"⟩, 8), (⟨"ClauseDesk$Contract", "write", "(LClauseDesk$Library;)V"⟩, 10), (⟨"ClauseDesk$Contract", "tally", "(LClauseDesk$Library;)V"⟩, 10), (⟨"ClauseDesk$Contract", "tallyItem", "(LClauseDesk$Library;II)V"⟩, 10), (⟨"ClauseDesk$Contract", "judge", "(LClauseDesk$Library;)V"⟩, 10), (⟨"ClauseDesk$Contract", "judgeLinks", "(LClauseDesk$Library;IILClauseDesk$Kind;)V"⟩, 10)]
theorem lw_r1 : ∀ q ∈ lw_privs_1, lw_okq q := List.forall_mem_cons.mpr ⟨lw_p0, List.forall_mem_cons.mpr ⟨lw_p1, List.forall_mem_cons.mpr ⟨lw_p2, List.forall_mem_cons.mpr ⟨lw_p3, List.forall_mem_cons.mpr ⟨lw_p4, List.forall_mem_cons.mpr ⟨lw_p5, List.forall_mem_cons.mpr ⟨lw_p6, List.forall_mem_cons.mpr ⟨lw_p7, List.forall_mem_cons.mpr ⟨lw_p8, List.forall_mem_cons.mpr ⟨lw_p9, List.forall_mem_cons.mpr ⟨lw_p10, List.forall_mem_cons.mpr ⟨lw_p11, List.forall_mem_cons.mpr ⟨lw_p12, List.forall_mem_cons.mpr ⟨lw_p13, List.forall_mem_cons.mpr ⟨lw_p14, List.forall_mem_cons.mpr ⟨lw_p15, fun _ h => absurd h List.not_mem_nil⟩⟩⟩⟩⟩⟩⟩⟩⟩⟩⟩⟩⟩⟩⟩⟩
theorem lw_p16 : lw_okq (⟨"ClauseDesk$Contract", "placeOf", "(I)I"⟩, 10) := ⟨⟨by decide +kernel, by decide +kernel⟩, List.mem_of_getElem? (i := 250) (by decide +kernel), List.mem_of_getElem? (i := 743) (by decide +kernel), List.mem_of_getElem? (i := 744) (by decide +kernel)⟩
theorem lw_p17 : lw_okq (⟨"ClauseDesk$Contract", "judgeItem", "(LClauseDesk$Library;II)V"⟩, 10) := ⟨⟨by decide +kernel, by decide +kernel⟩, List.mem_of_getElem? (i := 250) (by decide +kernel), List.mem_of_getElem? (i := 758) (by decide +kernel), List.mem_of_getElem? (i := 759) (by decide +kernel)⟩
theorem lw_p18 : lw_okq (⟨"ClauseDesk$Contract", "judgeTerm", "(LClauseDesk$Kind;II)V"⟩, 10) := ⟨⟨by decide +kernel, by decide +kernel⟩, List.mem_of_getElem? (i := 250) (by decide +kernel), List.mem_of_getElem? (i := 762) (by decide +kernel), List.mem_of_getElem? (i := 763) (by decide +kernel)⟩
theorem lw_p19 : lw_okq (⟨"ClauseDesk", "isClause", "(I)Z"⟩, 14) := ⟨⟨by decide +kernel, by decide +kernel⟩, List.mem_of_getElem? (i := 36) (by decide +kernel), List.mem_of_getElem? (i := 772) (by decide +kernel), List.mem_of_getElem? (i := 773) (by decide +kernel)⟩
theorem lw_p20 : lw_okq (⟨"ClauseDesk", "choiceOf", "(I)I"⟩, 14) := ⟨⟨by decide +kernel, by decide +kernel⟩, List.mem_of_getElem? (i := 36) (by decide +kernel), List.mem_of_getElem? (i := 776) (by decide +kernel), List.mem_of_getElem? (i := 777) (by decide +kernel)⟩
theorem lw_p21 : lw_okq (⟨"ClauseDesk", "toldOfClause", "(II)I"⟩, 14) := ⟨⟨by decide +kernel, by decide +kernel⟩, List.mem_of_getElem? (i := 36) (by decide +kernel), List.mem_of_getElem? (i := 786) (by decide +kernel), List.mem_of_getElem? (i := 787) (by decide +kernel)⟩
theorem lw_p22 : lw_okq (⟨"ClauseDesk", "itemBytes", "(LClauseDesk$Clause;)I"⟩, 14) := ⟨⟨by decide +kernel, by decide +kernel⟩, List.mem_of_getElem? (i := 36) (by decide +kernel), List.mem_of_getElem? (i := 790) (by decide +kernel), List.mem_of_getElem? (i := 791) (by decide +kernel)⟩
theorem lw_p23 : lw_okq (⟨"ClauseDesk", "append", "(I)V"⟩, 14) := ⟨⟨by decide +kernel, by decide +kernel⟩, List.mem_of_getElem? (i := 36) (by decide +kernel), List.mem_of_getElem? (i := 929) (by decide +kernel), List.mem_of_getElem? (i := 930) (by decide +kernel)⟩
theorem lw_p24 : lw_okq (⟨"ClauseDesk$Tokens", "pastBlanks", "(I)I"⟩, 7) := ⟨⟨by decide +kernel, by decide +kernel⟩, List.mem_of_getElem? (i := 56) (by decide +kernel), List.mem_of_getElem? (i := 954) (by decide +kernel), List.mem_of_getElem? (i := 955) (by decide +kernel)⟩
theorem lw_p25 : lw_okq (⟨"ClauseDesk$Tokens", "lengthAt", "(I)I"⟩, 7) := ⟨⟨by decide +kernel, by decide +kernel⟩, List.mem_of_getElem? (i := 56) (by decide +kernel), List.mem_of_getElem? (i := 959) (by decide +kernel), List.mem_of_getElem? (i := 960) (by decide +kernel)⟩
theorem lw_p26 : lw_okq (⟨"ClauseDesk$Tokens", "wordLength", "(I)I"⟩, 7) := ⟨⟨by decide +kernel, by decide +kernel⟩, List.mem_of_getElem? (i := 56) (by decide +kernel), List.mem_of_getElem? (i := 966) (by decide +kernel), List.mem_of_getElem? (i := 967) (by decide +kernel)⟩
theorem lw_p27 : lw_okq (⟨"ClauseDesk$Tokens", "numberLength", "(I)I"⟩, 7) := ⟨⟨by decide +kernel, by decide +kernel⟩, List.mem_of_getElem? (i := 56) (by decide +kernel), List.mem_of_getElem? (i := 973) (by decide +kernel), List.mem_of_getElem? (i := 974) (by decide +kernel)⟩
theorem lw_p28 : lw_okq (⟨"ClauseDesk$Tokens", "stringLength", "(I)I"⟩, 7) := ⟨⟨by decide +kernel, by decide +kernel⟩, List.mem_of_getElem? (i := 56) (by decide +kernel), List.mem_of_getElem? (i := 977) (by decide +kernel), List.mem_of_getElem? (i := 978) (by decide +kernel)⟩
theorem lw_p29 : lw_okq (⟨"ClauseDesk$Tokens", "kindOf", "(II)LClauseDesk$Kind;"⟩, 7) := ⟨⟨by decide +kernel, by decide +kernel⟩, List.mem_of_getElem? (i := 56) (by decide +kernel), List.mem_of_getElem? (i := 981) (by decide +kernel), List.mem_of_getElem? (i := 982) (by decide +kernel)⟩
theorem lw_p30 : lw_okq (⟨"ClauseDesk$Tokens", "kindWritten", "(IILClauseDesk$Kind;)LClauseDesk$Kind;"⟩, 7) := ⟨⟨by decide +kernel, by decide +kernel⟩, List.mem_of_getElem? (i := 56) (by decide +kernel), List.mem_of_getElem? (i := 988) (by decide +kernel), List.mem_of_getElem? (i := 989) (by decide +kernel)⟩
theorem lw_p31 : lw_okq (⟨"ClauseDesk$Tokens", "isWritten", "(Ljava/lang/String;I)Z"⟩, 7) := ⟨⟨by decide +kernel, by decide +kernel⟩, List.mem_of_getElem? (i := 56) (by decide +kernel), List.mem_of_getElem? (i := 995) (by decide +kernel), List.mem_of_getElem? (i := 996) (by decide +kernel)⟩
def lw_privs_2 : List (MethodName × Nat) := [(⟨"ClauseDesk$Contract", "placeOf", "(I)I"⟩, 10), (⟨"ClauseDesk$Contract", "judgeItem", "(LClauseDesk$Library;II)V"⟩, 10), (⟨"ClauseDesk$Contract", "judgeTerm", "(LClauseDesk$Kind;II)V"⟩, 10), (⟨"ClauseDesk", "isClause", "(I)Z"⟩, 14), (⟨"ClauseDesk", "choiceOf", "(I)I"⟩, 14), (⟨"ClauseDesk", "toldOfClause", "(II)I"⟩, 14), (⟨"ClauseDesk", "itemBytes", "(LClauseDesk$Clause;)I"⟩, 14), (⟨"ClauseDesk", "append", "(I)V"⟩, 14), (⟨"ClauseDesk$Tokens", "pastBlanks", "(I)I"⟩, 7), (⟨"ClauseDesk$Tokens", "lengthAt", "(I)I"⟩, 7), (⟨"ClauseDesk$Tokens", "wordLength", "(I)I"⟩, 7), (⟨"ClauseDesk$Tokens", "numberLength", "(I)I"⟩, 7), (⟨"ClauseDesk$Tokens", "stringLength", "(I)I"⟩, 7), (⟨"ClauseDesk$Tokens", "kindOf", "(II)LClauseDesk$Kind;"⟩, 7), (⟨"ClauseDesk$Tokens", "kindWritten", "(IILClauseDesk$Kind;)LClauseDesk$Kind;"⟩, 7), (⟨"ClauseDesk$Tokens", "isWritten", "(Ljava/lang/String;I)Z"⟩, 7)]
theorem lw_r2 : ∀ q ∈ lw_privs_2, lw_okq q := List.forall_mem_cons.mpr ⟨lw_p16, List.forall_mem_cons.mpr ⟨lw_p17, List.forall_mem_cons.mpr ⟨lw_p18, List.forall_mem_cons.mpr ⟨lw_p19, List.forall_mem_cons.mpr ⟨lw_p20, List.forall_mem_cons.mpr ⟨lw_p21, List.forall_mem_cons.mpr ⟨lw_p22, List.forall_mem_cons.mpr ⟨lw_p23, List.forall_mem_cons.mpr ⟨lw_p24, List.forall_mem_cons.mpr ⟨lw_p25, List.forall_mem_cons.mpr ⟨lw_p26, List.forall_mem_cons.mpr ⟨lw_p27, List.forall_mem_cons.mpr ⟨lw_p28, List.forall_mem_cons.mpr ⟨lw_p29, List.forall_mem_cons.mpr ⟨lw_p30, List.forall_mem_cons.mpr ⟨lw_p31, fun _ h => absurd h List.not_mem_nil⟩⟩⟩⟩⟩⟩⟩⟩⟩⟩⟩⟩⟩⟩⟩⟩
theorem lw_p32 : lw_okq (⟨"ClauseDesk$Tokens", "valueOf", "(II)I"⟩, 7) := ⟨⟨by decide +kernel, by decide +kernel⟩, List.mem_of_getElem? (i := 56) (by decide +kernel), List.mem_of_getElem? (i := 1003) (by decide +kernel), List.mem_of_getElem? (i := 1004) (by decide +kernel)⟩
theorem lw_p33 : lw_okq (⟨"ClauseDesk$Grammar", "has", "(LClauseDesk$Kind;)Z"⟩, 6) := ⟨⟨by decide +kernel, by decide +kernel⟩, List.mem_of_getElem? (i := 50) (by decide +kernel), List.mem_of_getElem? (i := 1016) (by decide +kernel), List.mem_of_getElem? (i := 1017) (by decide +kernel)⟩
theorem lw_p34 : lw_okq (⟨"ClauseDesk$Grammar", "tellsFact", "()Z"⟩, 6) := ⟨⟨by decide +kernel, by decide +kernel⟩, List.mem_of_getElem? (i := 50) (by decide +kernel), List.mem_of_getElem? (i := 1023) (by decide +kernel), List.mem_of_getElem? (i := 1024) (by decide +kernel)⟩
theorem lw_p35 : lw_okq (⟨"ClauseDesk$Grammar", "take", "(LClauseDesk$Kind;)Z"⟩, 6) := ⟨⟨by decide +kernel, by decide +kernel⟩, List.mem_of_getElem? (i := 50) (by decide +kernel), List.mem_of_getElem? (i := 1027) (by decide +kernel), List.mem_of_getElem? (i := 1028) (by decide +kernel)⟩
theorem lw_p36 : lw_okq (⟨"ClauseDesk$Grammar", "tellsClause", "()Z"⟩, 6) := ⟨⟨by decide +kernel, by decide +kernel⟩, List.mem_of_getElem? (i := 50) (by decide +kernel), List.mem_of_getElem? (i := 1037) (by decide +kernel), List.mem_of_getElem? (i := 1038) (by decide +kernel)⟩
theorem lw_p37 : lw_okq (⟨"ClauseDesk$Grammar", "whenPart", "(LClauseDesk$Clause;)Z"⟩, 6) := ⟨⟨by decide +kernel, by decide +kernel⟩, List.mem_of_getElem? (i := 50) (by decide +kernel), List.mem_of_getElem? (i := 1047) (by decide +kernel), List.mem_of_getElem? (i := 1048) (by decide +kernel)⟩
theorem lw_p38 : lw_okq (⟨"ClauseDesk$Grammar", "test", "(I)Z"⟩, 6) := ⟨⟨by decide +kernel, by decide +kernel⟩, List.mem_of_getElem? (i := 50) (by decide +kernel), List.mem_of_getElem? (i := 1053) (by decide +kernel), List.mem_of_getElem? (i := 1054) (by decide +kernel)⟩
theorem lw_p39 : lw_okq (⟨"ClauseDesk$Grammar", "both", "(I)Z"⟩, 6) := ⟨⟨by decide +kernel, by decide +kernel⟩, List.mem_of_getElem? (i := 50) (by decide +kernel), List.mem_of_getElem? (i := 1057) (by decide +kernel), List.mem_of_getElem? (i := 1058) (by decide +kernel)⟩
theorem lw_p40 : lw_okq (⟨"ClauseDesk$Grammar", "single", "(I)Z"⟩, 6) := ⟨⟨by decide +kernel, by decide +kernel⟩, List.mem_of_getElem? (i := 50) (by decide +kernel), List.mem_of_getElem? (i := 1061) (by decide +kernel), List.mem_of_getElem? (i := 1062) (by decide +kernel)⟩
theorem lw_p41 : lw_okq (⟨"ClauseDesk$Grammar", "enter", "(LClauseDesk$Kind;I)Z"⟩, 6) := ⟨⟨by decide +kernel, by decide +kernel⟩, List.mem_of_getElem? (i := 50) (by decide +kernel), List.mem_of_getElem? (i := 1066) (by decide +kernel), List.mem_of_getElem? (i := 1067) (by decide +kernel)⟩
theorem lw_p42 : lw_okq (⟨"ClauseDesk$Grammar", "sum", "(I)Z"⟩, 6) := ⟨⟨by decide +kernel, by decide +kernel⟩, List.mem_of_getElem? (i := 50) (by decide +kernel), List.mem_of_getElem? (i := 1078) (by decide +kernel), List.mem_of_getElem? (i := 1079) (by decide +kernel)⟩
theorem lw_p43 : lw_okq (⟨"ClauseDesk$Grammar", "product", "(I)Z"⟩, 6) := ⟨⟨by decide +kernel, by decide +kernel⟩, List.mem_of_getElem? (i := 50) (by decide +kernel), List.mem_of_getElem? (i := 1082) (by decide +kernel), List.mem_of_getElem? (i := 1083) (by decide +kernel)⟩
theorem lw_p44 : lw_okq (⟨"ClauseDesk$Grammar", "value", "(I)Z"⟩, 6) := ⟨⟨by decide +kernel, by decide +kernel⟩, List.mem_of_getElem? (i := 50) (by decide +kernel), List.mem_of_getElem? (i := 1086) (by decide +kernel), List.mem_of_getElem? (i := 1087) (by decide +kernel)⟩
theorem lw_p45 : lw_okq (⟨"ClauseDesk$Grammar", "here", "()LClauseDesk$Kind;"⟩, 6) := ⟨⟨by decide +kernel, by decide +kernel⟩, List.mem_of_getElem? (i := 50) (by decide +kernel), List.mem_of_getElem? (i := 1090) (by decide +kernel), List.mem_of_getElem? (i := 1091) (by decide +kernel)⟩
theorem lw_p46 : lw_okq (⟨"ClauseDesk$Grammar", "ofTwo", "(LClauseDesk$Kind;I)Z"⟩, 6) := ⟨⟨by decide +kernel, by decide +kernel⟩, List.mem_of_getElem? (i := 50) (by decide +kernel), List.mem_of_getElem? (i := 1099) (by decide +kernel), List.mem_of_getElem? (i := 1100) (by decide +kernel)⟩
theorem lw_p47 : lw_okq (⟨"ClauseDesk$Grammar", "optionalPart", "(LClauseDesk$Clause;)Z"⟩, 6) := ⟨⟨by decide +kernel, by decide +kernel⟩, List.mem_of_getElem? (i := 50) (by decide +kernel), List.mem_of_getElem? (i := 1130) (by decide +kernel), List.mem_of_getElem? (i := 1131) (by decide +kernel)⟩
def lw_privs_3 : List (MethodName × Nat) := [(⟨"ClauseDesk$Tokens", "valueOf", "(II)I"⟩, 7), (⟨"ClauseDesk$Grammar", "has", "(LClauseDesk$Kind;)Z"⟩, 6), (⟨"ClauseDesk$Grammar", "tellsFact", "()Z"⟩, 6), (⟨"ClauseDesk$Grammar", "take", "(LClauseDesk$Kind;)Z"⟩, 6), (⟨"ClauseDesk$Grammar", "tellsClause", "()Z"⟩, 6), (⟨"ClauseDesk$Grammar", "whenPart", "(LClauseDesk$Clause;)Z"⟩, 6), (⟨"ClauseDesk$Grammar", "test", "(I)Z"⟩, 6), (⟨"ClauseDesk$Grammar", "both", "(I)Z"⟩, 6), (⟨"ClauseDesk$Grammar", "single", "(I)Z"⟩, 6), (⟨"ClauseDesk$Grammar", "enter", "(LClauseDesk$Kind;I)Z"⟩, 6), (⟨"ClauseDesk$Grammar", "sum", "(I)Z"⟩, 6), (⟨"ClauseDesk$Grammar", "product", "(I)Z"⟩, 6), (⟨"ClauseDesk$Grammar", "value", "(I)Z"⟩, 6), (⟨"ClauseDesk$Grammar", "here", "()LClauseDesk$Kind;"⟩, 6), (⟨"ClauseDesk$Grammar", "ofTwo", "(LClauseDesk$Kind;I)Z"⟩, 6), (⟨"ClauseDesk$Grammar", "optionalPart", "(LClauseDesk$Clause;)Z"⟩, 6)]
theorem lw_r3 : ∀ q ∈ lw_privs_3, lw_okq q := List.forall_mem_cons.mpr ⟨lw_p32, List.forall_mem_cons.mpr ⟨lw_p33, List.forall_mem_cons.mpr ⟨lw_p34, List.forall_mem_cons.mpr ⟨lw_p35, List.forall_mem_cons.mpr ⟨lw_p36, List.forall_mem_cons.mpr ⟨lw_p37, List.forall_mem_cons.mpr ⟨lw_p38, List.forall_mem_cons.mpr ⟨lw_p39, List.forall_mem_cons.mpr ⟨lw_p40, List.forall_mem_cons.mpr ⟨lw_p41, List.forall_mem_cons.mpr ⟨lw_p42, List.forall_mem_cons.mpr ⟨lw_p43, List.forall_mem_cons.mpr ⟨lw_p44, List.forall_mem_cons.mpr ⟨lw_p45, List.forall_mem_cons.mpr ⟨lw_p46, List.forall_mem_cons.mpr ⟨lw_p47, fun _ h => absurd h List.not_mem_nil⟩⟩⟩⟩⟩⟩⟩⟩⟩⟩⟩⟩⟩⟩⟩⟩
theorem lw_p48 : lw_okq (⟨"ClauseDesk$Grammar", "linkPart", "()Z"⟩, 6) := ⟨⟨by decide +kernel, by decide +kernel⟩, List.mem_of_getElem? (i := 50) (by decide +kernel), List.mem_of_getElem? (i := 1137) (by decide +kernel), List.mem_of_getElem? (i := 1138) (by decide +kernel)⟩
theorem lw_p49 : lw_okq (⟨"ClauseDesk$Grammar", "block", "(I)Z"⟩, 6) := ⟨⟨by decide +kernel, by decide +kernel⟩, List.mem_of_getElem? (i := 50) (by decide +kernel), List.mem_of_getElem? (i := 1144) (by decide +kernel), List.mem_of_getElem? (i := 1145) (by decide +kernel)⟩
theorem lw_p50 : lw_okq (⟨"ClauseDesk$Grammar", "item", "(I)Z"⟩, 6) := ⟨⟨by decide +kernel, by decide +kernel⟩, List.mem_of_getElem? (i := 50) (by decide +kernel), List.mem_of_getElem? (i := 1152) (by decide +kernel), List.mem_of_getElem? (i := 1153) (by decide +kernel)⟩
theorem lw_p51 : lw_okq (⟨"ClauseDesk$Grammar", "nameItem", "()Z"⟩, 6) := ⟨⟨by decide +kernel, by decide +kernel⟩, List.mem_of_getElem? (i := 50) (by decide +kernel), List.mem_of_getElem? (i := 1157) (by decide +kernel), List.mem_of_getElem? (i := 1158) (by decide +kernel)⟩
theorem lw_p52 : lw_okq (⟨"ClauseDesk$Grammar", "showItem", "(I)Z"⟩, 6) := ⟨⟨by decide +kernel, by decide +kernel⟩, List.mem_of_getElem? (i := 50) (by decide +kernel), List.mem_of_getElem? (i := 1161) (by decide +kernel), List.mem_of_getElem? (i := 1162) (by decide +kernel)⟩
theorem lw_p53 : lw_okq (⟨"ClauseDesk$Grammar", "ifItem", "(I)Z"⟩, 6) := ⟨⟨by decide +kernel, by decide +kernel⟩, List.mem_of_getElem? (i := 50) (by decide +kernel), List.mem_of_getElem? (i := 1167) (by decide +kernel), List.mem_of_getElem? (i := 1168) (by decide +kernel)⟩
theorem lw_p54 : lw_okq (⟨"ClauseDesk$Grammar", "pointsItem", "(I)Z"⟩, 6) := ⟨⟨by decide +kernel, by decide +kernel⟩, List.mem_of_getElem? (i := 50) (by decide +kernel), List.mem_of_getElem? (i := 1177) (by decide +kernel), List.mem_of_getElem? (i := 1178) (by decide +kernel)⟩
theorem lw_p55 : lw_okq (⟨"ClauseDesk$Library", "lookAtName", "(ILClauseDesk$Kind;)I"⟩, 12) := ⟨⟨by decide +kernel, by decide +kernel⟩, List.mem_of_getElem? (i := 44) (by decide +kernel), List.mem_of_getElem? (i := 1191) (by decide +kernel), List.mem_of_getElem? (i := 1192) (by decide +kernel)⟩
theorem lw_p56 : lw_okq (⟨"ClauseDesk$Library", "addFact", "(I)I"⟩, 12) := ⟨⟨by decide +kernel, by decide +kernel⟩, List.mem_of_getElem? (i := 44) (by decide +kernel), List.mem_of_getElem? (i := 1197) (by decide +kernel), List.mem_of_getElem? (i := 1198) (by decide +kernel)⟩
theorem lw_p57 : lw_okq (⟨"ClauseDesk$Library", "numberOf", "(I[II)I"⟩, 12) := ⟨⟨by decide +kernel, by decide +kernel⟩, List.mem_of_getElem? (i := 44) (by decide +kernel), List.mem_of_getElem? (i := 1201) (by decide +kernel), List.mem_of_getElem? (i := 1202) (by decide +kernel)⟩
theorem lw_p58 : lw_okq (⟨"ClauseDesk$Library", "addClause", "(I)I"⟩, 12) := ⟨⟨by decide +kernel, by decide +kernel⟩, List.mem_of_getElem? (i := 44) (by decide +kernel), List.mem_of_getElem? (i := 1212) (by decide +kernel), List.mem_of_getElem? (i := 1213) (by decide +kernel)⟩
theorem lw_p59 : lw_okq (⟨"ClauseDesk$Library", "clauseNamed", "(I)I"⟩, 12) := ⟨⟨by decide +kernel, by decide +kernel⟩, List.mem_of_getElem? (i := 44) (by decide +kernel), List.mem_of_getElem? (i := 1216) (by decide +kernel), List.mem_of_getElem? (i := 1217) (by decide +kernel)⟩
theorem lw_p60 : lw_okq (⟨"ClauseDesk$Library", "meanClause", "(ILClauseDesk$Kind;)I"⟩, 12) := ⟨⟨by decide +kernel, by decide +kernel⟩, List.mem_of_getElem? (i := 44) (by decide +kernel), List.mem_of_getElem? (i := 1222) (by decide +kernel), List.mem_of_getElem? (i := 1223) (by decide +kernel)⟩
theorem lw_p61 : lw_okq (⟨"ClauseDesk$Library", "meanTerm", "(I)I"⟩, 12) := ⟨⟨by decide +kernel, by decide +kernel⟩, List.mem_of_getElem? (i := 44) (by decide +kernel), List.mem_of_getElem? (i := 1236) (by decide +kernel), List.mem_of_getElem? (i := 1237) (by decide +kernel)⟩
theorem lw_p62 : lw_okq (⟨"ClauseDesk$Library", "meanFact", "(I)I"⟩, 12) := ⟨⟨by decide +kernel, by decide +kernel⟩, List.mem_of_getElem? (i := 44) (by decide +kernel), List.mem_of_getElem? (i := 1240) (by decide +kernel), List.mem_of_getElem? (i := 1241) (by decide +kernel)⟩
theorem lw_p63 : lw_okq (⟨"ClauseDesk", "takeUpSpare", "()V"⟩, 14) := ⟨⟨by decide +kernel, by decide +kernel⟩, List.mem_of_getElem? (i := 36) (by decide +kernel), List.mem_of_getElem? (i := 1249) (by decide +kernel), List.mem_of_getElem? (i := 1250) (by decide +kernel)⟩
def lw_privs_4 : List (MethodName × Nat) := [(⟨"ClauseDesk$Grammar", "linkPart", "()Z"⟩, 6), (⟨"ClauseDesk$Grammar", "block", "(I)Z"⟩, 6), (⟨"ClauseDesk$Grammar", "item", "(I)Z"⟩, 6), (⟨"ClauseDesk$Grammar", "nameItem", "()Z"⟩, 6), (⟨"ClauseDesk$Grammar", "showItem", "(I)Z"⟩, 6), (⟨"ClauseDesk$Grammar", "ifItem", "(I)Z"⟩, 6), (⟨"ClauseDesk$Grammar", "pointsItem", "(I)Z"⟩, 6), (⟨"ClauseDesk$Library", "lookAtName", "(ILClauseDesk$Kind;)I"⟩, 12), (⟨"ClauseDesk$Library", "addFact", "(I)I"⟩, 12), (⟨"ClauseDesk$Library", "numberOf", "(I[II)I"⟩, 12), (⟨"ClauseDesk$Library", "addClause", "(I)I"⟩, 12), (⟨"ClauseDesk$Library", "clauseNamed", "(I)I"⟩, 12), (⟨"ClauseDesk$Library", "meanClause", "(ILClauseDesk$Kind;)I"⟩, 12), (⟨"ClauseDesk$Library", "meanTerm", "(I)I"⟩, 12), (⟨"ClauseDesk$Library", "meanFact", "(I)I"⟩, 12), (⟨"ClauseDesk", "takeUpSpare", "()V"⟩, 14)]
theorem lw_r4 : ∀ q ∈ lw_privs_4, lw_okq q := List.forall_mem_cons.mpr ⟨lw_p48, List.forall_mem_cons.mpr ⟨lw_p49, List.forall_mem_cons.mpr ⟨lw_p50, List.forall_mem_cons.mpr ⟨lw_p51, List.forall_mem_cons.mpr ⟨lw_p52, List.forall_mem_cons.mpr ⟨lw_p53, List.forall_mem_cons.mpr ⟨lw_p54, List.forall_mem_cons.mpr ⟨lw_p55, List.forall_mem_cons.mpr ⟨lw_p56, List.forall_mem_cons.mpr ⟨lw_p57, List.forall_mem_cons.mpr ⟨lw_p58, List.forall_mem_cons.mpr ⟨lw_p59, List.forall_mem_cons.mpr ⟨lw_p60, List.forall_mem_cons.mpr ⟨lw_p61, List.forall_mem_cons.mpr ⟨lw_p62, List.forall_mem_cons.mpr ⟨lw_p63, fun _ h => absurd h List.not_mem_nil⟩⟩⟩⟩⟩⟩⟩⟩⟩⟩⟩⟩⟩⟩⟩⟩
def lw_privs : List (MethodName × Nat) := lw_privs_1 ++ (lw_privs_2 ++ (lw_privs_3 ++ (lw_privs_4)))
def lw_tbl : List Cond := k2_sels lw_privs ++ tables_1
theorem lw_privs_ok : ∀ q ∈ lw_privs, lw_okq q := by
  show ∀ q ∈ lw_privs_1 ++ (lw_privs_2 ++ (lw_privs_3 ++ (lw_privs_4))), lw_okq q
  exact List.forall_mem_append.mpr ⟨lw_r1, List.forall_mem_append.mpr ⟨lw_r2, List.forall_mem_append.mpr ⟨lw_r3, lw_r4⟩⟩⟩
/-- the streams that the claim lets the run draw from -/
abbrev lw_cs : List Choice := [Jvm.Choice.named "NaN.bits"]
theorem lw_bits : nanBits ∈ lw_cs := by first | decide | exact List.mem_cons_self | simp [lw_cs, nanBits]

/-- a private method, called on an object of a subclass -/
theorem w_priv {C : String} {y : MethodName} {s : State} {args : Array Value} {n : Nat} (hy : y.cls ≠ "java/lang/invoke/MethodHandle" ∧ y.cls ≠ "java/lang/invoke/VarHandle")
    (hins : (Cond.instantiable C n).before args s = true) (hpriv : (Cond.privateMethod y).before args s = true) (hinst : (Cond.instanceMethod y).before args s = true) (hf : ∀ c : ClassId, ∀ k : Class, s.vm.findClass y.cls = some c → s.vm.classes[c]? = some k → k.isInterface = false) :
    (Cond.selects C y y).before args s = true := by
  obtain ⟨c, k, hc, hk, -, hniab, -, -⟩ := Cond.instantiable_spec hins
  have hni : k.isInterface = false := (Bool.or_eq_false_iff.mp hniab).1
  obtain ⟨mk, methM, hnamed, hmethM, -, -⟩ := Cond.instanceMethod_spec hinst
  have hfound : s.methodFound? y.cls y.name y.desc = some mk := State.methodFound?_of_named hnamed hy
  obtain ⟨kP, hkP, -⟩ := className_of_methodNamed hnamed
  have hfc := findClass_of_methodNamed hnamed
  have hkn := hf _ _ hfc hkP
  have hsel : selectMethod {} s.vm c mk = .method mk := selectMethod_private hmethM (Cond.privateMethod_at hpriv mk methM hnamed hmethM)
  simp only [Cond.before, Cond.holds, Cond.value, hc, hfound, hnamed, hsel, hk]
  simp [hkP, hkn]
def w_px : List MethodName := [⟨"java/lang/AbstractStringBuilder", "ensureCapacityInternal", "(I)V"⟩, ⟨"java/lang/AbstractStringBuilder", "inflateIfNeededFor", "(Ljava/lang/String;)V"⟩, ⟨"java/lang/AbstractStringBuilder", "newCapacity", "(I)I"⟩, ⟨"java/lang/AbstractStringBuilder", "putStringAt", "(ILjava/lang/String;)V"⟩]
def w_x : List Cond := w_px.map (fun y => Cond.selects "java/lang/StringBuilder" y y)
def w_all : List Cond := w_x ++ lw_tbl
/-- the words that a callee may have too -/
def w_g : List Cond := w_all.filter goodWord
theorem w_x_ok : ∀ y ∈ w_px, y.cls = "java/lang/AbstractStringBuilder" ∧ Cond.privateMethod y ∈ lw_tbl ∧ Cond.instanceMethod y ∈ lw_tbl := by decide +kernel
theorem w_hts {args : Array Value} {s : State} (hts : ∀ w ∈ lw_tbl, w.before args s = true) : ∀ w ∈ w_all, w.before args s = true := by
  intro w hw
  rcases List.mem_append.mp hw with hw | hw
  · obtain ⟨y, hy, rfl⟩ := List.mem_map.mp hw
    obtain ⟨h0, h1, h2⟩ := w_x_ok y hy
    have hi : (Cond.selects "java/lang/StringBuilder" ⟨"java/lang/AbstractStringBuilder", "isLatin1", "()Z"⟩ ⟨"java/lang/AbstractStringBuilder", "isLatin1", "()Z"⟩).before args s = true := hts _ (List.mem_of_getElem? (i := 1494) (by decide +kernel))
    obtain ⟨c2, r2, m2, q1, q2, q3, q4, kP, hkP, hkPi⟩ := Cond.selects_spec hi
    refine w_priv (n := 4) (by rw [h0]; decide) (hts _ (List.mem_of_getElem? (i := 1348) (by decide +kernel))) (hts _ h1) (hts _ h2) ?_
    intro c k hc hk
    rw [h0] at hc
    have := (findClass_of_methodNamed q3).symm.trans hc
    cases this
    cases hkP.symm.trans hk
    exact hkPi
  · exact hts w hw
theorem w_at {i : Nat} {w : Cond} (h : w_all[i]? = some w) (hg : goodWord w = true) : w ∈ w_g := List.mem_filter.mpr ⟨List.mem_of_getElem? h, hg⟩
theorem w_good : ∀ w ∈ w_g, (w.onTables && w.keeps) = true ∨ ∃ ty, w = .arrayClass ty := fun _ h => good_of_word (List.mem_filter.mp h).2
end
section
/-! THE TABLES: made by a program out of the claim (wip/p25/gen2.py): the linked code of the methods that the law reaches.
A jump names a place in the list of instructions; a field is 100 * (its class's number) + its place; a method, a class, a constant by its number. -/
/-- 0: ClauseDesk$Tokens.(new) ()V -/
def zc_0 : List Instr := [.aload 0, .invokespecial 902, .aload 0, .iconst 3000, .newarray .byte, .putfield 400, .aload 0, .iconst 0, .putfield 401, .aload 0, .iconst 601, .anewarray 310, .putfield 402, .aload 0, .iconst 601, .newarray .int, .putfield 403, .aload 0, .iconst 601, .newarray .int, .putfield 404, .aload 0, .iconst 601, .newarray .int, .putfield 405, .aload 0, .iconst 0, .putfield 406, .return_]
def zv_0 : List (Nat × List Bool) := []
/-- 1: ClauseDesk$Code.(new) ()V -/
def zc_1 : List Instr := [.aload 0, .invokespecial 902, .aload 0, .iconst 600, .anewarray 310, .putfield 500, .aload 0, .iconst 600, .newarray .int, .putfield 501, .aload 0, .iconst 0, .putfield 502, .return_]
def zv_1 : List (Nat × List Bool) := []
/-- 2: ClauseDesk$Clause.(new) ()V -/
def zc_2 : List Instr := [.aload 0, .invokespecial 902, .aload 0, .iconst 0, .putfield 600, .aload 0, .iconst 0, .putfield 601, .aload 0, .iconst 0, .putfield 602, .aload 0, .iconst 0, .putfield 603, .aload 0, .iconst 0, .putfield 604, .aload 0, .iconst 0, .putfield 605, .aload 0, .iconst 0, .putfield 606, .aload 0, .iconst 0, .putfield 607, .aload 0, .iconst 0, .putfield 608, .aload 0, .iconst 0, .putfield 609, .aload 0, .iconst 0, .putfield 610, .return_]
def zv_2 : List (Nat × List Bool) := []
/-- 3: ClauseDesk$Grammar.(new) ()V -/
def zc_3 : List Instr := [.aload 0, .invokespecial 902, .aload 0, .new 4, .dup, .invokespecial 0, .putfield 300, .aload 0, .new 5, .dup, .invokespecial 1, .putfield 301, .aload 0, .iconst 16, .anewarray 312, .putfield 302, .aload 0, .new 6, .dup, .invokespecial 2, .putfield 303, .aload 0, .iconst 0, .putfield 304, .aload 0, .iconst 0, .putfield 305, .iconst 0, .istore 1, .iload 1, .iconst 16, .if_icmp .ge 41, .aload 0, .getfield 302, .iload 1, .new 6, .dup, .invokespecial 2, .aastore, .iinc 1 1, .goto 29, .return_]
def zv_3 : List (Nat × List Bool) := [(29, [true, true]), (41, [false, false])]
/-- 4: ClauseDesk$Library.(new) ()V -/
def zc_4 : List Instr := [.aload 0, .invokespecial 902, .aload 0, .new 3, .dup, .invokespecial 3, .putfield 200, .aload 0, .aload 0, .getfield 200, .getfield 300, .putfield 201, .aload 0, .aload 0, .getfield 200, .getfield 301, .putfield 202, .aload 0, .aload 0, .getfield 200, .getfield 302, .putfield 203, .aload 0, .iconst 10, .newarray .int, .putfield 204, .aload 0, .iconst 10, .newarray .int, .putfield 205, .aload 0, .iconst 24, .newarray .int, .putfield 206, .aload 0, .iconst 0, .putfield 207, .aload 0, .iconst 0, .putfield 208, .aload 0, .iconst 0, .putfield 209, .aload 0, .iconst 0, .putfield 210, .aload 0, .iconst 0, .putfield 211, .return_]
def zv_4 : List (Nat × List Bool) := []
/-- 5: ClauseDesk$Conflicts.(new) ()V -/
def zc_5 : List Instr := [.aload 0, .invokespecial 902, .aload 0, .iconst 60, .newarray .int, .putfield 800, .aload 0, .iconst 60, .newarray .int, .putfield 801, .aload 0, .iconst 60, .newarray .int, .putfield 802, .aload 0, .iconst 0, .putfield 803, .return_]
def zv_5 : List (Nat × List Bool) := []
/-- 6: ClauseDesk$Scribe.(new) ()V -/
def zc_6 : List Instr := [.aload 0, .invokespecial 902, .aload 0, .aconst_null, .putfield 900, .aload 0, .aconst_null, .putfield 901, .aload 0, .aconst_null, .putfield 902, .aload 0, .aconst_null, .putfield 903, .aload 0, .iconst 64, .newarray .int, .putfield 904, .aload 0, .iconst 0, .putfield 905, .aload 0, .iconst 600, .newarray .int, .putfield 906, .aload 0, .iconst 0, .putfield 907, .return_]
def zv_6 : List (Nat × List Bool) := []
/-- 7: ClauseDesk$Page.(new) (I)V -/
def zc_7 : List Instr := [.aload 0, .invokespecial 902, .aload 0, .iconst 0, .putfield 1101, .aload 0, .iload 1, .ifCond .le 10, .iload 1, .goto 11, .iconst 0, .newarray .byte, .putfield 1100, .return_]
def zv_7 : List (Nat × List Bool) := [(10, [false, false]), (11, [false, false])]
/-- 8: ClauseDesk$Draft.(new) (I)V -/
def zc_8 : List Instr := [.aload 0, .invokespecial 902, .aload 0, .iconst 0, .putfield 1000, .aload 0, .iconst 0, .putfield 1001, .aload 0, .iconst 16, .newarray .int, .putfield 1002, .aload 0, .iconst 16, .newarray .int, .putfield 1003, .aload 0, .iconst 16, .newarray .int, .putfield 1004, .aload 0, .iconst 16, .newarray .int, .putfield 1005, .aload 0, .new 11, .dup, .iload 1, .invokespecial 7, .putfield 1006, .return_]
def zv_8 : List (Nat × List Bool) := []
/-- 9: ClauseDesk$Contract.(new) (I)V -/
def zc_9 : List Instr := [.aload 0, .invokespecial 902, .aload 0, .new 8, .dup, .invokespecial 5, .putfield 701, .aload 0, .new 9, .dup, .invokespecial 6, .putfield 702, .aload 0, .iconst 0, .putfield 703, .aload 0, .iconst 0, .putfield 704, .aload 0, .iconst 16, .newarray .int, .putfield 705, .aload 0, .iconst 24, .newarray .int, .putfield 706, .aload 0, .iconst 24, .newarray .int, .putfield 707, .aload 0, .iconst 24, .newarray .int, .putfield 708, .aload 0, .iconst 24, .newarray .int, .putfield 709, .aload 0, .new 10, .dup, .iload 1, .invokespecial 8, .putfield 700, .return_]
def zv_9 : List (Nat × List Bool) := []
/-- 10: ClauseDesk.(new) ()V -/
def zc_10 : List Instr := [.aload 0, .invokespecial 902, .aload 0, .iconst 3000, .newarray .byte, .putfield 100, .aload 0, .iconst 0, .putfield 101, .aload 0, .iconst (-1), .putfield 102, .aload 0, .new 2, .dup, .invokespecial 4, .putfield 103, .aload 0, .new 2, .dup, .invokespecial 4, .putfield 104, .aload 0, .iconst 10, .newarray .int, .putfield 105, .aload 0, .iconst 0, .putfield 106, .aload 0, .iconst 0, .putfield 107, .aload 0, .new 7, .dup, .iconst 6000, .invokespecial 9, .putfield 108, .aload 0, .new 7, .dup, .iconst 0, .invokespecial 9, .putfield 109, .aload 0, .new 9, .dup, .invokespecial 6, .putfield 110, .aload 0, .new 11, .dup, .iconst 0, .invokespecial 7, .putfield 111, .aload 0, .new 10, .dup, .iconst 6000, .invokespecial 8, .putfield 112, .aload 0, .iconst 16, .newarray .int, .putfield 113, .return_]
def zv_10 : List (Nat × List Bool) := []
/-- 11: java.lang.AbstractStringBuilder.(new) (I)V -/
def zc_11 : List Instr := [.aload 0, .invokespecial 902, .iconst 1, .ifCond .eq 12, .aload 0, .iload 1, .newarray .byte, .putfield 1300, .aload 0, .iconst 0, .putfield 1301, .goto 19, .aload 0, .iload 1, .athrow, .putfield 1300, .aload 0, .iconst 1, .putfield 1301, .return_]
def zv_11 : List (Nat × List Bool) := [(12, [true, true]), (19, [false, false])]
/-- 12: java.lang.StringBuilder.(new) ()V -/
def zc_12 : List Instr := [.aload 0, .iconst 16, .invokespecial 11, .return_]
def zv_12 : List (Nat × List Bool) := []
/-- 13: ClauseDeskLaw$Sim.(new) ()V -/
def zc_13 : List Instr := [.aload 0, .invokespecial 902, .aload 0, .iconst 6, .newarray .int, .putfield 1214, .aload 0, .new 13, .dup, .invokespecial 12, .putfield 1218, .return_]
def zv_13 : List (Nat × List Bool) := []
/-- 14: ClauseDeskLaw.cell ([II)I -/
def zc_14 : List Instr := [.iload 1, .aload 0, .arraylength, .if_icmp .ge 8, .aload 0, .iload 1, .iaload, .goto 13, .iconst 790386105, .iload 1, .iconst 3, .iadd, .imul, .ireturn]
def zv_14 : List (Nat × List Bool) := [(8, [false, true]), (13, [false, false])]
/-- 15: ClauseDeskLaw.below (II)I -/
def zc_15 : List Instr := [.iload 0, .iconst 2147483647, .iand, .iload 1, .irem, .ireturn]
def zv_15 : List (Nat × List Bool) := []
/-- 16: java.lang.String.coder ()B -/
def zc_16 : List Instr := [.iconst 1, .ifCond .eq 5, .aload 0, .getfield 1401, .goto 6, .iconst 1, .ireturn]
def zv_16 : List (Nat × List Bool) := [(5, [false]), (6, [false])]
/-- 17: java.lang.String.length ()I -/
def zc_17 : List Instr := [.aload 0, .getfield 1400, .arraylength, .aload 0, .invokevirtual 16, .ishr, .ireturn]
def zv_17 : List (Nat × List Bool) := []
/-- 18: java.lang.Math.max (II)I -/
def zc_18 : List Instr := [.iload 0, .iload 1, .if_icmp .lt 5, .iload 0, .goto 6, .iload 1, .ireturn]
def zv_18 : List (Nat × List Bool) := [(5, [false, true]), (6, [false, false])]
/-- 19: jdk.internal.util.ArraysSupport.newLength (III)I -/
def zc_19 : List Instr := [.iload 0, .iload 1, .iload 2, .invokestatic 18, .iadd, .istore 3, .iconst 0, .iload 3, .if_icmp .ge 14, .iload 3, .iconst 2147483639, .if_icmp .gt 14, .iload 3, .ireturn, .iload 0, .iload 1, .athrow, .ireturn]
def zv_19 : List (Nat × List Bool) := [(14, [true, true, false, false])]
/-- 20: java.lang.AbstractStringBuilder.newCapacity (I)I -/
def zc_20 : List Instr := [.aload 0, .getfield 1300, .arraylength, .istore 2, .iload 1, .aload 0, .getfield 1301, .ishl, .istore 3, .iload 3, .iload 2, .isub, .istore 4, .iload 2, .iload 4, .iload 2, .iconst 2, .aload 0, .getfield 1301, .ishl, .iadd, .invokestatic 19, .istore 5, .iload 5, .iconst 2147483647, .if_icmp .ne 31, .athrow, .dup, .athrow, .athrow, .athrow, .iload 5, .aload 0, .getfield 1301, .ishr, .ireturn]
def zv_20 : List (Nat × List Bool) := [(31, [true, false, false, false, false, true])]
/-- 21: java.lang.Math.min (II)I -/
def zc_21 : List Instr := [.iload 0, .iload 1, .if_icmp .gt 5, .iload 0, .goto 6, .iload 1, .ireturn]
def zv_21 : List (Nat × List Bool) := [(5, [false, true]), (6, [false, false])]
/-- 22: java.util.Arrays.copyOf ([BI)[B -/
def zc_22 : List Instr := [.iload 1, .aload 0, .arraylength, .if_icmp .ne 8, .aload 0, .invokevirtual 901, .checkcast 0, .areturn, .iload 1, .newarray .byte, .astore 2, .aload 0, .iconst 0, .aload 2, .iconst 0, .aload 0, .arraylength, .iload 1, .invokestatic 21, .invokestatic 900, .aload 2, .areturn]
def zv_22 : List (Nat × List Bool) := [(8, [true, true, false])]
/-- 23: java.lang.AbstractStringBuilder.ensureCapacityInternal (I)V -/
def zc_23 : List Instr := [.aload 0, .getfield 1300, .arraylength, .aload 0, .getfield 1301, .ishr, .istore 2, .iload 1, .iload 2, .isub, .ifCond .le 22, .aload 0, .aload 0, .getfield 1300, .aload 0, .iload 1, .invokevirtual 20, .aload 0, .getfield 1301, .ishl, .invokestatic 22, .putfield 1300, .return_]
def zv_23 : List (Nat × List Bool) := [(22, [false, false, false])]
/-- 24: java.lang.AbstractStringBuilder.inflateIfNeededFor (Ljava/lang/String;)V -/
def zc_24 : List Instr := [.iconst 1, .ifCond .eq 9, .aload 0, .getfield 1301, .aload 1, .invokevirtual 16, .if_icmp .eq 9, .aload 0, .athrow, .return_]
def zv_24 : List (Nat × List Bool) := [(9, [false, false])]
/-- 25: java.lang.String.getBytes ([BIB)V -/
def zc_25 : List Instr := [.aload 0, .invokevirtual 16, .iload 3, .if_icmp .ne 16, .aload 0, .getfield 1400, .iconst 0, .aload 1, .iload 2, .iload 3, .ishl, .aload 0, .getfield 1400, .arraylength, .invokestatic 900, .goto 25, .aload 0, .getfield 1400, .iconst 0, .aload 1, .iload 2, .aload 0, .getfield 1400, .arraylength, .athrow, .return_]
def zv_25 : List (Nat × List Bool) := [(16, [true, true, true, false]), (25, [false, false, false, false])]
/-- 26: java.lang.AbstractStringBuilder.putStringAt (ILjava/lang/String;)V -/
def zc_26 : List Instr := [.aload 0, .aload 2, .invokevirtual 24, .aload 2, .aload 0, .getfield 1300, .iload 1, .aload 0, .getfield 1301, .invokevirtual 25, .return_]
def zv_26 : List (Nat × List Bool) := []
/-- 27: java.lang.AbstractStringBuilder.append (Ljava/lang/String;)Ljava/lang/AbstractStringBuilder; -/
def zc_27 : List Instr := [.aload 1, .ifnonnull 5, .aload 0, .athrow, .areturn, .aload 1, .invokevirtual 17, .istore 2, .aload 0, .aload 0, .getfield 1303, .iload 2, .iadd, .invokevirtual 23, .aload 0, .aload 0, .getfield 1303, .aload 1, .invokevirtual 26, .aload 0, .dup, .getfield 1303, .iload 2, .iadd, .putfield 1303, .aload 0, .areturn]
def zv_27 : List (Nat × List Bool) := [(5, [true, true, false])]
/-- 28: java.lang.StringBuilder.append (Ljava/lang/String;)Ljava/lang/StringBuilder; -/
def zc_28 : List Instr := [.aload 0, .aload 1, .invokevirtual 27, .pop, .aload 0, .areturn]
def zv_28 : List (Nat × List Bool) := []
/-- 29: java.lang.AbstractStringBuilder.isLatin1 ()Z -/
def zc_29 : List Instr := [.iconst 1, .ifCond .eq 7, .aload 0, .getfield 1301, .ifCond .ne 7, .iconst 1, .goto 8, .iconst 0, .ireturn]
def zv_29 : List (Nat × List Bool) := [(7, [false]), (8, [false])]
/-- 30: java.lang.StringLatin1.canEncode (C)Z -/
def zc_30 : List Instr := [.iload 0, .iconst 255, .if_icmp .gt 5, .iconst 1, .goto 6, .iconst 0, .ireturn]
def zv_30 : List (Nat × List Bool) := [(5, [false]), (6, [false])]
/-- 31: java.lang.AbstractStringBuilder.append (C)Ljava/lang/AbstractStringBuilder; -/
def zc_31 : List Instr := [.aload 0, .aload 0, .getfield 1303, .iconst 1, .iadd, .invokevirtual 23, .aload 0, .invokevirtual 29, .ifCond .eq 25, .iload 1, .invokestatic 30, .ifCond .eq 25, .aload 0, .getfield 1300, .aload 0, .dup, .getfield 1303, .dup_x1, .iconst 1, .iadd, .putfield 1303, .iload 1, .i2b, .bastore, .goto 41, .aload 0, .invokevirtual 29, .ifCond .eq 30, .aload 0, .athrow, .aload 0, .getfield 1300, .aload 0, .dup, .getfield 1303, .dup_x1, .iconst 1, .iadd, .putfield 1303, .iload 1, .athrow, .aload 0, .areturn]
def zv_31 : List (Nat × List Bool) := [(25, [true, true]), (30, [true, true]), (41, [true, false])]
/-- 32: java.lang.StringBuilder.append (C)Ljava/lang/StringBuilder; -/
def zc_32 : List Instr := [.aload 0, .iload 1, .invokevirtual 31, .pop, .aload 0, .areturn]
def zv_32 : List (Nat × List Bool) := []
/-- 33: java.lang.AbstractStringBuilder.getValue ()[B -/
def zc_33 : List Instr := [.aload 0, .getfield 1300, .areturn]
def zv_33 : List (Nat × List Bool) := []
/-- 34: java.lang.AbstractStringBuilder.length ()I -/
def zc_34 : List Instr := [.aload 0, .getfield 1303, .ireturn]
def zv_34 : List (Nat × List Bool) := []
/-- 35: java.lang.StringBuilder.length ()I -/
def zc_35 : List Instr := [.aload 0, .invokevirtual 34, .ireturn]
def zv_35 : List (Nat × List Bool) := []
/-- 36: java.util.Arrays.checkLength (II)V -/
def zc_36 : List Instr := [.iload 1, .iload 0, .if_icmp .ge 17, .athrow, .dup, .athrow, .dup, .athrow, .iload 0, .athrow, .athrow, .athrow, .iload 1, .athrow, .athrow, .athrow, .athrow, .return_]
def zv_36 : List (Nat × List Bool) := [(17, [false, false])]
/-- 37: java.util.Arrays.copyOfRangeByte ([BII)[B -/
def zc_37 : List Instr := [.iload 1, .iload 2, .invokestatic 36, .iload 2, .iload 1, .isub, .istore 3, .iload 3, .newarray .byte, .astore 4, .aload 0, .iload 1, .aload 4, .iconst 0, .aload 0, .arraylength, .iload 1, .isub, .iload 3, .invokestatic 21, .invokestatic 900, .aload 4, .areturn]
def zv_37 : List (Nat × List Bool) := []
/-- 38: java.util.Arrays.copyOfRange ([BII)[B -/
def zc_38 : List Instr := [.iload 1, .ifCond .ne 6, .iload 2, .aload 0, .arraylength, .if_icmp .eq 11, .aload 0, .iload 1, .iload 2, .invokestatic 37, .areturn, .aload 0, .invokevirtual 901, .checkcast 0, .areturn]
def zv_38 : List (Nat × List Bool) := [(6, [true, true, true]), (11, [true, false, false])]
/-- 39: java.lang.String.(new) (Ljava/lang/AbstractStringBuilder;Ljava/lang/Void;)V -/
def zc_39 : List Instr := [.aload 0, .invokespecial 902, .aload 1, .invokevirtual 33, .astore 3, .aload 1, .invokevirtual 35, .istore 4, .aload 1, .invokevirtual 29, .ifCond .eq 21, .aload 0, .iconst 0, .putfield 1401, .aload 0, .aload 3, .iconst 0, .iload 4, .invokestatic 38, .putfield 1400, .goto 50, .iconst 1, .ifCond .eq 39, .aload 1, .getfield 1302, .ifCond .eq 39, .aload 0, .aload 3, .iconst 0, .iload 4, .athrow, .putfield 1400, .aload 0, .aload 0, .getfield 1400, .iload 4, .athrow, .putfield 1401, .return_, .aload 0, .iconst 1, .putfield 1401, .aload 0, .aload 3, .iconst 0, .iload 4, .iconst 1, .ishl, .invokestatic 38, .putfield 1400, .return_]
def zv_39 : List (Nat × List Bool) := [(21, [true, true, false, true, true]), (39, [true, false, false, true, true]), (50, [false, false, false, false, false])]
/-- 40: java.lang.String.(new) (Ljava/lang/StringBuilder;)V -/
def zc_40 : List Instr := [.aload 0, .aload 1, .aconst_null, .invokespecial 39, .return_]
def zv_40 : List (Nat × List Bool) := []
/-- 41: java.lang.StringBuilder.toString ()Ljava/lang/String; -/
def zc_41 : List Instr := [.new 14, .dup, .aload 0, .invokespecial 40, .areturn]
def zv_41 : List (Nat × List Bool) := []
/-- 42: ClauseDeskLaw.name (CI)Ljava/lang/String; -/
def zc_42 : List Instr := [.new 13, .dup, .invokespecial 12, .ldc 101, .invokevirtual 28, .iload 0, .invokevirtual 32, .iconst 97, .iload 1, .iadd, .i2c, .invokevirtual 32, .invokevirtual 41, .areturn]
def zv_42 : List (Nat × List Bool) := []
/-- 43: java.lang.Integer.stringSize (I)I -/
def zc_43 : List Instr := [.iconst 1, .istore 1, .iload 0, .ifCond .lt 9, .iconst 0, .istore 1, .iload 0, .ineg, .istore 0, .iconst (-10), .istore 2, .iconst 1, .istore 3, .iload 3, .iconst 10, .if_icmp .ge 29, .iload 0, .iload 2, .if_icmp .le 23, .iload 3, .iload 1, .iadd, .ireturn, .iconst 10, .iload 2, .imul, .istore 2, .iinc 3 1, .goto 13, .iconst 10, .iload 1, .iadd, .ireturn]
def zv_43 : List (Nat × List Bool) := [(9, [true, true, false, false]), (13, [true, true, true, true]), (23, [true, true, true, true]), (29, [false, true, false, false])]
/-- 44: java.lang.Integer.getChars (II[B)I -/
def zc_44 : List Instr := [.iload 1, .istore 5, .iload 0, .ifCond .ge 6, .iconst 1, .goto 7, .iconst 0, .istore 6, .iload 6, .ifCond .ne 13, .iload 0, .ineg, .istore 0, .iload 0, .iconst (-100), .if_icmp .gt 43, .iload 0, .iconst 100, .idiv, .istore 3, .iload 3, .iconst 100, .imul, .iload 0, .isub, .istore 4, .iload 3, .istore 0, .aload 2, .iinc 5 (-1), .iload 5, .ldc 61, .iload 4, .baload, .bastore, .aload 2, .iinc 5 (-1), .iload 5, .ldc 62, .iload 4, .baload, .bastore, .goto 13, .aload 2, .iinc 5 (-1), .iload 5, .ldc 61, .iload 0, .ineg, .baload, .bastore, .iload 0, .iconst (-9), .if_icmp .ge 62, .aload 2, .iinc 5 (-1), .iload 5, .ldc 62, .iload 0, .ineg, .baload, .bastore, .iload 6, .ifCond .eq 69, .aload 2, .iinc 5 (-1), .iload 5, .iconst 45, .bastore, .iload 5, .ireturn]
def zv_44 : List (Nat × List Bool) := [(6, [true, false, true, false, false, true, false]), (7, [true, false, true, false, false, true, false]), (13, [true, false, true, false, false, true, true]), (43, [true, false, true, false, false, true, true]), (62, [false, false, true, false, false, true, true]), (69, [false, false, false, false, false, true, false])]
/-- 45: java.lang.AbstractStringBuilder.append (I)Ljava/lang/AbstractStringBuilder; -/
def zc_45 : List Instr := [.aload 0, .getfield 1303, .istore 2, .iload 2, .iload 1, .invokestatic 43, .iadd, .istore 3, .aload 0, .iload 3, .invokevirtual 23, .aload 0, .invokevirtual 29, .ifCond .eq 21, .iload 1, .iload 3, .aload 0, .getfield 1300, .invokestatic 44, .pop, .goto 28, .iload 1, .iload 2, .iload 3, .aload 0, .getfield 1300, .athrow, .pop, .aload 0, .iload 3, .putfield 1303, .aload 0, .areturn]
def zv_45 : List (Nat × List Bool) := [(21, [true, true, true, true]), (28, [true, false, false, true])]
/-- 46: java.lang.StringBuilder.append (I)Ljava/lang/StringBuilder; -/
def zc_46 : List Instr := [.aload 0, .iload 1, .invokevirtual 45, .pop, .aload 0, .areturn]
def zv_46 : List (Nat × List Bool) := []
/-- 47: ClauseDeskLaw.row (IIII)[I -/
def zc_47 : List Instr := [.iload 0, .iload 3, .iconst 1, .iadd, .invokestatic 15, .istore 4, .iload 1, .iconst 2, .if_icmp .ge 11, .iconst 0, .goto 12, .iload 4, .newarray .int, .astore 5, .iconst 0, .istore 6, .iload 6, .aload 5, .arraylength, .if_icmp .ge 47, .aload 5, .iload 6, .iload 0, .iconst 2, .iconst 3, .iload 6, .imul, .iadd, .ishr, .iload 1, .invokestatic 15, .iastore, .aload 5, .iload 6, .iaload, .iload 2, .if_icmp .ne 45, .aload 5, .iload 6, .iload 2, .iconst 1, .iadd, .iload 1, .irem, .iastore, .iinc 6 1, .goto 16, .aload 5, .areturn]
def zv_47 : List (Nat × List Bool) := [(11, [true, true, true, false, true, false, false]), (12, [true, true, true, false, false, false, false]), (16, [true, true, true, false, false, true, true]), (45, [true, true, true, false, false, true, true]), (47, [false, false, false, false, false, true, false])]
/-- 48: ClauseDeskLaw$Item.(new) ()V -/
def zc_48 : List Instr := [.aload 0, .invokespecial 902, .return_]
def zv_48 : List (Nat × List Bool) := []
/-- 49: ClauseDeskLaw.block (LClauseDeskLaw$Sim;[III)[LClauseDeskLaw$Item; -/
def zc_49 : List Instr := [.aload 1, .iload 2, .iconst 16, .irem, .invokestatic 14, .iload 2, .iconst 16, .idiv, .ishr, .iload 3, .ifCond .ne 13, .iconst 4, .goto 14, .iconst 3, .invokestatic 15, .istore 4, .iload 4, .anewarray 313, .astore 5, .iconst 0, .istore 6, .iload 6, .iload 4, .if_icmp .ge 153, .aload 1, .iload 2, .iload 6, .iadd, .iconst 16, .irem, .invokestatic 14, .iconst 2, .iload 6, .imul, .ishr, .iconst 13, .iload 2, .imul, .iadd, .iconst 7, .iload 6, .imul, .iadd, .istore 7, .new 15, .dup, .invokespecial 48, .astore 8, .aload 8, .iload 7, .iload 3, .ifCond .ne 54, .iconst 7, .goto 55, .iconst 5, .invokestatic 15, .putfield 1500, .aload 8, .iload 7, .iconst 4, .ishr, .aload 0, .getfield 1200, .invokestatic 15, .putfield 1502, .aload 8, .aload 8, .getfield 1500, .iconst 1, .if_icmp .ne 77, .iload 7, .iconst 3, .ishr, .aload 0, .getfield 1201, .invokestatic 15, .goto 96, .aload 8, .getfield 1500, .iconst 2, .if_icmp .eq 85, .aload 8, .getfield 1500, .iconst 3, .if_icmp .ne 91, .iload 7, .iconst 3, .ishr, .iconst 6, .invokestatic 15, .goto 96, .iload 7, .iconst 5, .ishr, .iconst 20, .invokestatic 15, .putfield 1501, .aload 8, .getfield 1500, .iconst 1, .if_icmp .ne 111, .aload 8, .getfield 1501, .iload 2, .aload 0, .getfield 1201, .irem, .if_icmp .ne 111, .aload 8, .iconst 0, .putfield 1500, .aload 8, .getfield 1500, .iconst 4, .if_icmp .le 147, .aload 8, .aload 0, .aload 1, .iload 2, .iconst 3, .aload 0, .getfield 1201, .imul, .iload 6, .iconst 1, .iadd, .imul, .iadd, .iconst 1, .invokestatic 49, .putfield 1503, .aload 8, .aload 0, .aload 1, .iload 2, .iconst 3, .aload 0, .getfield 1201, .imul, .iload 6, .iconst 4, .iadd, .imul, .iadd, .iconst 1, .invokestatic 49, .putfield 1504, .aload 5, .iload 6, .aload 8, .aastore, .iinc 6 1, .goto 21, .aload 5, .areturn]
def zv_49 : List (Nat × List Bool) := [(13, [true, true, true, true, false, false, false, false, false]), (14, [true, true, true, true, false, false, false, false, false]), (21, [true, true, true, true, true, true, true, false, false]), (54, [true, true, true, true, true, true, true, true, true]), (55, [true, true, true, true, true, true, true, true, true]), (77, [true, true, true, true, true, true, true, true, true]), (85, [true, true, true, true, true, true, true, true, true]), (91, [true, true, true, true, true, true, true, true, true]), (96, [true, true, true, true, true, true, true, false, true]), (111, [true, true, true, true, true, true, true, false, true]), (147, [true, true, true, true, true, true, true, false, true]), (153, [false, false, false, false, false, true, false, false, false])]
/-- 50: ClauseDeskLaw.say (Ljava/lang/StringBuilder;Ljava/lang/String;[I)V -/
def zc_50 : List Instr := [.aload 2, .astore 3, .aload 3, .arraylength, .istore 4, .iconst 0, .istore 5, .iload 5, .iload 4, .if_icmp .ge 28, .aload 3, .iload 5, .iaload, .istore 6, .aload 0, .aload 1, .invokevirtual 28, .iconst 32, .invokevirtual 32, .iconst 99, .iload 6, .invokestatic 42, .invokevirtual 28, .iconst 32, .invokevirtual 32, .pop, .iinc 5 1, .goto 7, .return_]
def zv_50 : List (Nat × List Bool) := [(7, [true, true, false, true, true, true, false]), (28, [false, false, false, false, false, false, false])]
/-- 51: ClauseDeskLaw.say (Ljava/lang/StringBuilder;LClauseDeskLaw$Sim;[LClauseDeskLaw$Item;[I)V -/
def zc_51 : List Instr := [.aload 0, .ldc 111, .invokevirtual 28, .pop, .aload 2, .astore 4, .aload 4, .arraylength, .istore 5, .iconst 0, .istore 6, .iload 6, .iload 5, .if_icmp .ge 185, .aload 4, .iload 6, .aaload, .astore 7, .aload 7, .getfield 1500, .iconst 2, .if_icmp .eq 26, .aload 7, .getfield 1500, .iconst 3, .if_icmp .ne 72, .aload 7, .getfield 1501, .istore 8, .aload 3, .iload 8, .iaload, .ifCond .ge 50, .aload 3, .iload 8, .aload 1, .getfield 1202, .iastore, .aload 1, .getfield 1214, .aload 1, .getfield 1202, .iload 8, .iastore, .aload 1, .dup, .getfield 1202, .iconst 1, .iadd, .putfield 1202, .aload 7, .aload 3, .iload 8, .iaload, .putfield 1501, .aload 0, .aload 7, .getfield 1500, .iconst 2, .if_icmp .ne 62, .ldc 112, .goto 63, .ldc 113, .invokevirtual 28, .iconst 116, .iload 8, .invokestatic 42, .invokevirtual 28, .iconst 32, .invokevirtual 32, .pop, .goto 183, .aload 7, .getfield 1500, .ifCond .ne 85, .aload 0, .ldc 114, .invokevirtual 28, .aload 7, .getfield 1501, .invokevirtual 46, .ldc 115, .invokevirtual 28, .pop, .goto 183, .aload 7, .getfield 1500, .iconst 1, .if_icmp .ne 101, .aload 0, .ldc 116, .invokevirtual 28, .iconst 99, .aload 7, .getfield 1501, .invokestatic 42, .invokevirtual 28, .iconst 32, .invokevirtual 32, .pop, .goto 183, .aload 7, .getfield 1500, .iconst 4, .if_icmp .ne 122, .aload 0, .ldc 117, .invokevirtual 28, .iconst 102, .aload 7, .getfield 1502, .invokestatic 42, .invokevirtual 28, .ldc 118, .invokevirtual 28, .aload 7, .getfield 1501, .invokevirtual 46, .ldc 103, .invokevirtual 28, .pop, .goto 183, .aload 7, .getfield 1500, .iconst 5, .if_icmp .ne 159, .aload 0, .ldc 119, .invokevirtual 28, .iconst 102, .aload 7, .getfield 1502, .invokestatic 42, .invokevirtual 28, .iconst 62, .invokevirtual 32, .aload 7, .getfield 1501, .invokevirtual 46, .iconst 32, .invokevirtual 32, .pop, .aload 0, .aload 1, .aload 7, .getfield 1503, .aload 3, .invokestatic 51, .aload 0, .ldc 120, .invokevirtual 28, .pop, .aload 0, .aload 1, .aload 7, .getfield 1504, .aload 3, .invokestatic 51, .goto 183, .aload 0, .ldc 121, .invokevirtual 28, .pop, .aload 0, .aload 1, .aload 7, .getfield 1503, .aload 3, .invokestatic 51, .aload 0, .ldc 122, .invokevirtual 28, .pop, .aload 0, .aload 1, .aload 7, .getfield 1504, .aload 3, .invokestatic 51, .aload 0, .ldc 123, .invokevirtual 28, .pop, .iinc 6 1, .goto 11, .aload 0, .ldc 123, .invokevirtual 28, .pop, .return_]
def zv_51 : List (Nat × List Bool) := [(11, [true, true, false, true, true, true, true, false, false]), (26, [true, true, false, true, true, true, true, true, false]), (50, [true, true, false, true, true, true, true, true, true]), (62, [true, true, false, true, true, true, true, false, true]), (63, [true, true, false, true, true, true, true, false, true]), (72, [true, true, false, true, true, true, true, true, false]), (85, [true, true, false, true, true, true, true, true, false]), (101, [true, true, false, true, true, true, true, true, false]), (122, [true, true, false, true, true, true, true, true, false]), (159, [true, true, false, true, true, true, true, true, false]), (183, [true, true, false, true, true, true, true, false, false]), (185, [true, false, false, false, false, false, false, false, false])]
/-- 52: ClauseDeskLaw.sim ([IILjava/lang/StringBuilder;)LClauseDeskLaw$Sim; -/
def zc_52 : List Instr := [.new 12, .dup, .invokespecial 13, .astore 3, .aload 3, .iconst 1, .aload 0, .iconst 0, .invokestatic 14, .iconst 3, .invokestatic 15, .iadd, .putfield 1200, .aload 3, .iconst 1, .aload 0, .iconst 1, .invokestatic 14, .iload 1, .invokestatic 15, .iadd, .putfield 1201, .aload 3, .getfield 1201, .istore 4, .aload 3, .aload 3, .getfield 1200, .newarray .int, .putfield 1203, .iconst 0, .istore 5, .iload 5, .aload 3, .getfield 1200, .if_icmp .ge 68, .aload 3, .getfield 1203, .iload 5, .aload 0, .iconst 2, .invokestatic 14, .iconst 4, .iload 5, .imul, .ishr, .iconst 20, .invokestatic 15, .iastore, .aload 2, .ldc 100, .invokevirtual 28, .iconst 102, .iload 5, .invokestatic 42, .invokevirtual 28, .ldc 102, .invokevirtual 28, .aload 3, .getfield 1203, .iload 5, .iaload, .invokevirtual 46, .ldc 103, .invokevirtual 28, .pop, .iinc 5 1, .goto 32, .aload 3, .iload 4, .newarray .int, .putfield 1204, .aload 3, .iload 4, .newarray .int, .putfield 1205, .aload 3, .iload 4, .newarray .boolean, .putfield 1206, .aload 3, .iload 4, .newarray .int, .putfield 1207, .aload 3, .iload 4, .newarray .int, .putfield 1208, .aload 3, .iload 4, .anewarray 314, .putfield 1209, .aload 3, .iload 4, .anewarray 314, .putfield 1210, .aload 3, .iload 4, .anewarray 314, .putfield 1211, .aload 3, .iload 4, .anewarray 315, .putfield 1212, .aload 3, .iload 4, .newarray .int, .putfield 1213, .iconst 6, .newarray .int, .dup, .iconst 0, .iconst (-1), .iastore, .dup, .iconst 1, .iconst (-1), .iastore, .dup, .iconst 2, .iconst (-1), .iastore, .dup, .iconst 3, .iconst (-1), .iastore, .dup, .iconst 4, .iconst (-1), .iastore, .dup, .iconst 5, .iconst (-1), .iastore, .astore 5, .iconst 0, .istore 6, .iload 6, .iload 4, .if_icmp .ge 364, .aload 0, .iconst 3, .iload 6, .iconst 5, .irem, .iadd, .invokestatic 14, .iload 6, .ishr, .iconst 29, .iload 6, .imul, .iadd, .istore 7, .aload 3, .getfield 1213, .iload 6, .iconst (-1), .iastore, .aload 3, .getfield 1204, .iload 6, .iload 7, .iconst 2, .invokestatic 15, .ifCond .ne 168, .iconst (-1), .goto 174, .iload 7, .iconst 2, .ishr, .aload 3, .getfield 1200, .invokestatic 15, .iastore, .aload 3, .getfield 1205, .iload 6, .iload 7, .iconst 4, .ishr, .iconst 20, .invokestatic 15, .iastore, .aload 3, .getfield 1206, .iload 6, .iload 7, .iconst 3, .ishr, .iconst 3, .invokestatic 15, .ifCond .ne 195, .iconst 1, .goto 196, .iconst 0, .castore, .aload 3, .getfield 1207, .iload 6, .iload 7, .iconst 5, .ishr, .iconst 30, .invokestatic 15, .iastore, .aload 3, .getfield 1208, .iload 6, .iload 7, .iconst 6, .ishr, .iconst 30, .invokestatic 15, .iastore, .aload 3, .getfield 1209, .iload 6, .aload 0, .iconst 8, .invokestatic 14, .iload 6, .ishr, .iconst 3, .iload 6, .imul, .iadd, .iload 4, .iload 6, .iconst 2, .invokestatic 47, .aastore, .aload 3, .getfield 1210, .iload 6, .aload 0, .iconst 9, .invokestatic 14, .iload 6, .ishr, .iconst 5, .iload 6, .imul, .iadd, .iload 4, .iload 6, .iconst 1, .invokestatic 47, .aastore, .aload 3, .getfield 1211, .iload 6, .aload 0, .iconst 10, .invokestatic 14, .iload 6, .ishr, .iconst 7, .iload 6, .imul, .iadd, .iload 4, .iload 6, .iconst 2, .invokestatic 47, .aastore, .aload 3, .getfield 1212, .iload 6, .aload 3, .aload 0, .iload 6, .iconst 0, .invokestatic 49, .aastore, .aload 2, .ldc 104, .invokevirtual 28, .iconst 99, .iload 6, .invokestatic 42, .invokevirtual 28, .iconst 32, .invokevirtual 32, .pop, .aload 3, .getfield 1204, .iload 6, .iaload, .ifCond .lt 310, .aload 2, .ldc 105, .invokevirtual 28, .iconst 102, .aload 3, .getfield 1204, .iload 6, .iaload, .invokestatic 42, .invokevirtual 28, .ldc 106, .invokevirtual 28, .aload 3, .getfield 1205, .iload 6, .iaload, .invokevirtual 46, .iconst 32, .invokevirtual 32, .pop, .aload 3, .getfield 1206, .iload 6, .baload, .ifCond .eq 333, .aload 2, .ldc 107, .invokevirtual 28, .aload 3, .getfield 1207, .iload 6, .iaload, .invokevirtual 46, .iconst 32, .invokevirtual 32, .aload 3, .getfield 1208, .iload 6, .iaload, .invokevirtual 46, .iconst 32, .invokevirtual 32, .pop, .aload 2, .ldc 108, .aload 3, .getfield 1209, .iload 6, .aaload, .invokestatic 50, .aload 2, .ldc 109, .aload 3, .getfield 1210, .iload 6, .aaload, .invokestatic 50, .aload 2, .ldc 110, .aload 3, .getfield 1211, .iload 6, .aaload, .invokestatic 50, .aload 2, .aload 3, .aload 3, .getfield 1212, .iload 6, .aaload, .aload 5, .invokestatic 51, .iinc 6 1, .goto 137, .aload 3, .areturn]
def zv_52 : List (Nat × List Bool) := [(32, [true, false, true, true, true, true, false, false]), (68, [true, false, true, true, true, false, false, false]), (137, [true, false, true, true, true, true, true, false]), (168, [true, false, true, true, true, true, true, true]), (174, [true, false, true, true, true, true, true, true]), (195, [true, false, true, true, true, true, true, true]), (196, [true, false, true, true, true, true, true, true]), (310, [true, false, true, true, true, true, true, false]), (333, [true, false, true, true, true, true, true, false]), (364, [false, false, false, true, false, false, false, false])]
/-- 53: jdk.internal.util.Preconditions.checkIndex (IILjava/util/function/BiFunction;)I -/
def zc_53 : List Instr := [.iload 0, .ifCond .lt 5, .iload 0, .iload 1, .if_icmp .lt 10, .aload 2, .iload 0, .iload 1, .athrow, .athrow, .iload 0, .ireturn]
def zv_53 : List (Nat × List Bool) := [(5, [true, true, true]), (10, [true, false, false])]
/-- 54: java.lang.String.checkIndex (II)V -/
def zc_54 : List Instr := [.iload 0, .iload 1, .ldc 70, .invokestatic 53, .pop, .return_]
def zv_54 : List (Nat × List Bool) := []
/-- 55: java.lang.AbstractStringBuilder.charAt (I)C -/
def zc_55 : List Instr := [.aload 0, .getfield 1301, .istore 2, .aload 0, .getfield 1300, .astore 3, .aload 0, .getfield 1303, .aload 3, .arraylength, .iload 2, .ishr, .invokestatic 21, .istore 4, .iload 1, .iload 4, .invokestatic 54, .iload 2, .ifCond .ne 26, .aload 3, .iload 1, .baload, .iconst 255, .iand, .i2c, .ireturn, .aload 3, .iload 1, .athrow, .ireturn]
def zv_55 : List (Nat × List Bool) := [(26, [false, true, false, true, false])]
/-- 56: java.lang.StringBuilder.charAt (I)C -/
def zc_56 : List Instr := [.aload 0, .iload 1, .invokevirtual 55, .ireturn]
def zv_56 : List (Nat × List Bool) := []
/-- 57: ClauseDeskLaw.isShort (Ljava/lang/StringBuilder;)Z -/
def zc_57 : List Instr := [.iconst 0, .istore 1, .iconst 0, .istore 2, .iconst 0, .istore 3, .iload 3, .aload 0, .invokevirtual 35, .if_icmp .ge 107, .aload 0, .iload 3, .invokevirtual 56, .istore 4, .iload 4, .iconst 39, .if_icmp .ne 32, .iload 2, .ifCond .ne 21, .iconst 1, .goto 22, .iconst 0, .istore 2, .iload 1, .iload 2, .ifCond .eq 28, .iconst 1, .goto 29, .iconst 0, .iadd, .istore 1, .goto 105, .iload 2, .ifCond .ne 105, .iload 4, .iconst 32, .if_icmp .ne 38, .goto 105, .iload 4, .iconst 97, .if_icmp .lt 44, .iload 4, .iconst 122, .if_icmp .le 52, .iload 4, .iconst 48, .if_icmp .lt 50, .iload 4, .iconst 57, .if_icmp .le 52, .iconst 1, .goto 53, .iconst 0, .istore 5, .iload 3, .ifCond .le 93, .aload 0, .iload 3, .iconst 1, .isub, .invokevirtual 56, .iconst 32, .if_icmp .eq 93, .aload 0, .iload 3, .iconst 1, .isub, .invokevirtual 56, .iconst 97, .if_icmp .lt 77, .aload 0, .iload 3, .iconst 1, .isub, .invokevirtual 56, .iconst 122, .if_icmp .le 91, .aload 0, .iload 3, .iconst 1, .isub, .invokevirtual 56, .iconst 48, .if_icmp .lt 93, .aload 0, .iload 3, .iconst 1, .isub, .invokevirtual 56, .iconst 57, .if_icmp .gt 93, .iconst 1, .goto 94, .iconst 0, .istore 6, .iload 1, .iload 5, .ifCond .ne 100, .iload 6, .ifCond .ne 102, .iconst 1, .goto 103, .iconst 0, .iadd, .istore 1, .iinc 3 1, .goto 6, .iload 1, .iconst 600, .if_icmp .gt 116, .aload 0, .invokevirtual 35, .iconst 2980, .if_icmp .gt 116, .iconst 1, .goto 117, .iconst 0, .ireturn]
def zv_57 : List (Nat × List Bool) := [(6, [true, true, true, true, false, false, false]), (21, [true, true, false, true, false, false, false]), (22, [true, true, false, true, false, false, false]), (28, [true, false, true, true, false, false, false]), (29, [true, false, true, true, false, false, false]), (32, [true, true, true, true, true, false, false]), (38, [true, true, true, true, true, false, false]), (44, [true, true, true, true, true, false, false]), (50, [true, true, true, true, false, false, false]), (52, [true, true, true, true, false, false, false]), (53, [true, true, true, true, false, false, false]), (77, [true, true, true, true, false, true, false]), (91, [true, true, true, true, false, true, false]), (93, [true, true, true, true, false, true, false]), (94, [true, true, true, true, false, true, false]), (100, [true, false, true, true, false, false, false]), (102, [true, false, true, true, false, false, false]), (103, [true, false, true, true, false, false, false]), (105, [true, true, true, true, false, false, false]), (107, [true, true, false, false, false, false, false]), (116, [false, false, false, false, false, false, false]), (117, [false, false, false, false, false, false, false])]
/-- 58: java.lang.String.isLatin1 ()Z -/
def zc_58 : List Instr := [.iconst 1, .ifCond .eq 7, .aload 0, .getfield 1401, .ifCond .ne 7, .iconst 1, .goto 8, .iconst 0, .ireturn]
def zv_58 : List (Nat × List Bool) := [(7, [false]), (8, [false])]
/-- 59: java.lang.StringLatin1.charAt ([BI)C -/
def zc_59 : List Instr := [.iload 1, .aload 0, .arraylength, .invokestatic 54, .aload 0, .iload 1, .baload, .iconst 255, .iand, .i2c, .ireturn]
def zv_59 : List (Nat × List Bool) := []
/-- 60: java.lang.String.charAt (I)C -/
def zc_60 : List Instr := [.aload 0, .invokevirtual 58, .ifCond .eq 8, .aload 0, .getfield 1400, .iload 1, .invokestatic 59, .ireturn, .aload 0, .getfield 1400, .iload 1, .athrow, .ireturn]
def zv_60 : List (Nat × List Bool) := [(8, [true, true])]
/-- 61: ClauseDesk.append (I)V -/
def zc_61 : List Instr := [.iconst 24, .istore 2, .iload 2, .ifCond .lt 25, .aload 0, .getfield 101, .iconst 3000, .if_icmp .ge 23, .aload 0, .getfield 100, .aload 0, .getfield 101, .iload 1, .iload 2, .ishr, .i2b, .bastore, .aload 0, .dup, .getfield 101, .iconst 1, .iadd, .putfield 101, .iinc 2 (-8), .goto 2, .return_]
def zv_61 : List (Nat × List Bool) := [(2, [true, true, true]), (23, [true, true, true]), (25, [false, false, false])]
/-- 62: ClauseDesk.feed (IIIII)I -/
def zc_62 : List Instr := [.aload 0, .getfield 101, .iconst 20, .iadd, .iconst 3000, .if_icmp .le 10, .athrow, .dup, .athrow, .athrow, .aload 0, .iload 1, .invokevirtual 61, .aload 0, .iload 2, .invokevirtual 61, .aload 0, .iload 3, .invokevirtual 61, .aload 0, .iload 4, .invokevirtual 61, .aload 0, .iload 5, .invokevirtual 61, .aload 0, .getfield 101, .ireturn]
def zv_62 : List (Nat × List Bool) := [(10, [true, true, true, true, true, true])]
/-- 63: ClauseDesk.trim (I)I -/
def zc_63 : List Instr := [.iload 1, .ifCond .lt 6, .iload 1, .aload 0, .getfield 101, .if_icmp .le 10, .athrow, .dup, .athrow, .athrow, .aload 0, .iload 1, .putfield 101, .iload 1, .ireturn]
def zv_63 : List (Nat × List Bool) := [(6, [false, false]), (10, [true, true])]
/-- 64: ClauseDesk$Tokens.signAt (I)I -/
def zc_64 : List Instr := [.iload 1, .ifCond .lt 6, .iload 1, .aload 0, .getfield 401, .if_icmp .lt 8, .iconst (-1), .goto 14, .aload 0, .getfield 400, .iload 1, .baload, .iconst 255, .iand, .ireturn]
def zv_64 : List (Nat × List Bool) := [(6, [false, false]), (8, [true, true]), (14, [false, false])]
/-- 65: ClauseDesk$Tokens.pastBlanks (I)I -/
def zc_65 : List Instr := [.iload 1, .istore 2, .iconst 0, .istore 3, .iload 3, .iconst 3000, .if_icmp .ge 20, .aload 0, .iload 2, .invokevirtual 64, .iconst 32, .if_icmp .eq 17, .aload 0, .iload 2, .invokevirtual 64, .iconst 10, .if_icmp .ne 20, .iinc 2 1, .iinc 3 1, .goto 4, .iload 2, .ireturn]
def zv_65 : List (Nat × List Bool) := [(4, [true, false, true, true]), (17, [true, false, true, true]), (20, [false, false, true, false])]
/-- 66: ClauseDesk$Tokens.isLetter (I)Z -/
def zc_66 : List Instr := [.iload 0, .iconst 97, .if_icmp .lt 8, .iload 0, .iconst 122, .if_icmp .gt 8, .iconst 1, .goto 9, .iconst 0, .ireturn]
def zv_66 : List (Nat × List Bool) := [(8, [false]), (9, [false])]
/-- 67: ClauseDesk$Tokens.isDigit (I)Z -/
def zc_67 : List Instr := [.iload 0, .iconst 48, .if_icmp .lt 8, .iload 0, .iconst 57, .if_icmp .gt 8, .iconst 1, .goto 9, .iconst 0, .ireturn]
def zv_67 : List (Nat × List Bool) := [(8, [false]), (9, [false])]
/-- 68: ClauseDesk$Tokens.wordLength (I)I -/
def zc_68 : List Instr := [.iconst 0, .istore 2, .iconst 0, .istore 3, .iload 3, .iconst 3000, .if_icmp .ge 24, .aload 0, .iload 1, .iload 3, .iadd, .invokevirtual 64, .invokestatic 66, .ifCond .ne 21, .aload 0, .iload 1, .iload 3, .iadd, .invokevirtual 64, .invokestatic 67, .ifCond .eq 24, .iinc 2 1, .iinc 3 1, .goto 4, .iload 2, .ireturn]
def zv_68 : List (Nat × List Bool) := [(4, [true, true, true, true]), (21, [true, true, true, true]), (24, [false, false, true, false])]
/-- 69: ClauseDesk$Tokens.numberLength (I)I -/
def zc_69 : List Instr := [.iconst 0, .istore 2, .iconst 0, .istore 3, .iload 3, .iconst 3000, .if_icmp .ge 17, .aload 0, .iload 1, .iload 3, .iadd, .invokevirtual 64, .invokestatic 67, .ifCond .eq 17, .iinc 2 1, .iinc 3 1, .goto 4, .iload 2, .ireturn]
def zv_69 : List (Nat × List Bool) := [(4, [true, true, true, true]), (17, [false, false, true, false])]
/-- 70: ClauseDesk$Tokens.stringLength (I)I -/
def zc_70 : List Instr := [.iconst 1, .istore 2, .iload 2, .iconst 41, .if_icmp .gt 33, .aload 0, .iload 1, .iload 2, .iadd, .invokevirtual 64, .istore 3, .iload 3, .iconst 39, .if_icmp .ne 23, .iload 2, .iconst 1, .if_icmp .ne 19, .iconst 0, .goto 22, .iload 2, .iconst 1, .iadd, .ireturn, .iload 3, .iconst 32, .if_icmp .lt 29, .iload 3, .iconst 126, .if_icmp .le 31, .iconst 0, .ireturn, .iinc 2 1, .goto 2, .iconst 0, .ireturn]
def zv_70 : List (Nat × List Bool) := [(2, [true, true, true, false]), (19, [false, false, true, false]), (22, [false, false, false, false]), (23, [true, true, true, true]), (29, [false, false, false, false]), (31, [true, true, true, false]), (33, [false, false, false, false])]
/-- 71: ClauseDesk$Tokens.lengthAt (I)I -/
def zc_71 : List Instr := [.aload 0, .iload 1, .invokevirtual 64, .istore 2, .iload 2, .invokestatic 66, .ifCond .eq 11, .aload 0, .iload 1, .invokevirtual 68, .ireturn, .iload 2, .invokestatic 67, .ifCond .eq 18, .aload 0, .iload 1, .invokevirtual 69, .ireturn, .iload 2, .iconst 39, .if_icmp .ne 25, .aload 0, .iload 1, .invokevirtual 70, .ireturn, .iload 2, .iconst 60, .if_icmp .eq 31, .iload 2, .iconst 62, .if_icmp .ne 40, .aload 0, .iload 1, .iconst 1, .iadd, .invokevirtual 64, .iconst 61, .if_icmp .ne 40, .iconst 1, .goto 41, .iconst 0, .istore 3, .iload 3, .ifCond .eq 46, .iconst 2, .goto 47, .iconst 1, .ireturn]
def zv_71 : List (Nat × List Bool) := [(11, [true, true, true, false]), (18, [true, true, true, false]), (25, [true, true, true, false]), (31, [true, true, false, false]), (40, [false, false, false, false]), (41, [false, false, false, false]), (46, [false, false, false, false]), (47, [false, false, false, false])]
/-- 72: ClauseDesk$Tokens.isWritten (Ljava/lang/String;I)Z -/
def zc_72 : List Instr := [.iconst 0, .istore 3, .iload 3, .aload 1, .invokevirtual 17, .if_icmp .ge 19, .aload 1, .iload 3, .invokevirtual 60, .aload 0, .iload 2, .iload 3, .iadd, .invokevirtual 64, .if_icmp .eq 17, .iconst 0, .ireturn, .iinc 3 1, .goto 2, .iconst 1, .ireturn]
def zv_72 : List (Nat × List Bool) := [(2, [true, true, true, true]), (17, [true, true, true, true]), (19, [false, false, false, false])]
/-- 73: ClauseDesk$Tokens.kindWritten (IILClauseDesk$Kind;)LClauseDesk$Kind; -/
def zc_73 : List Instr := [.ldc 44, .astore 4, .aload 4, .arraylength, .istore 5, .iconst 0, .istore 6, .iload 6, .iload 5, .if_icmp .ge 29, .aload 4, .iload 6, .aaload, .astore 7, .aload 7, .getfield 1601, .invokevirtual 17, .iload 2, .if_icmp .ne 27, .aload 0, .aload 7, .getfield 1601, .iload 1, .invokevirtual 72, .ifCond .eq 27, .aload 7, .areturn, .iinc 6 1, .goto 7, .aload 3, .areturn]
def zv_73 : List (Nat × List Bool) := [(7, [true, true, true, true, true, true, true, false]), (27, [true, true, true, true, true, true, true, false]), (29, [false, false, false, true, false, false, false, false])]
/-- 74: ClauseDesk$Tokens.kindOf (II)LClauseDesk$Kind; -/
def zc_74 : List Instr := [.aload 0, .iload 1, .invokevirtual 64, .istore 3, .iload 3, .ifCond .ge 8, .ldc 41, .areturn, .iload 3, .invokestatic 66, .ifCond .eq 22, .iload 2, .iconst 10, .if_icmp .le 16, .ldc 42, .goto 21, .aload 0, .iload 1, .iload 2, .ldc 38, .invokevirtual 73, .areturn, .iload 3, .invokestatic 67, .ifCond .eq 32, .iload 2, .iconst 5, .if_icmp .le 30, .ldc 42, .goto 31, .ldc 39, .areturn, .iload 3, .iconst 39, .if_icmp .ne 41, .iload 2, .ifCond .ne 39, .ldc 42, .goto 40, .ldc 40, .areturn, .aload 0, .iload 1, .iload 2, .ldc 42, .invokevirtual 73, .areturn]
def zv_74 : List (Nat × List Bool) := [(8, [true, true, true, true]), (16, [true, true, true, false]), (21, [false, false, false, false]), (22, [true, true, true, true]), (30, [false, false, false, false]), (31, [false, false, false, false]), (32, [true, true, true, true]), (39, [false, false, false, false]), (40, [false, false, false, false]), (41, [true, true, true, false])]
/-- 75: ClauseDesk$Tokens.valueOf (II)I -/
def zc_75 : List Instr := [.iconst 0, .istore 3, .iconst 0, .istore 4, .iload 4, .iload 2, .if_icmp .ge 24, .iload 4, .iconst 5, .if_icmp .ge 24, .iload 3, .iconst 10, .imul, .aload 0, .iload 1, .iload 4, .iadd, .invokevirtual 64, .iadd, .iconst 48, .isub, .istore 3, .iinc 4 1, .goto 4, .iload 3, .ireturn]
def zv_75 : List (Nat × List Bool) := [(4, [true, true, true, true, true]), (24, [false, false, false, true, false])]
/-- 76: ClauseDesk$Tokens.read ([BI)V -/
def zc_76 : List Instr := [.aload 0, .iconst 0, .iload 2, .aload 1, .arraylength, .iconst 3000, .invokestatic 21, .invokestatic 21, .invokestatic 18, .putfield 401, .aload 1, .iconst 0, .aload 0, .getfield 400, .iconst 0, .aload 0, .getfield 401, .invokestatic 900, .aload 0, .iconst 0, .putfield 406, .iconst 0, .istore 3, .iconst 0, .istore 4, .iconst 0, .istore 5, .iload 5, .iconst 600, .if_icmp .gt 103, .iload 4, .ifCond .ne 103, .aload 0, .iload 3, .invokevirtual 65, .istore 3, .aload 0, .iload 3, .invokevirtual 71, .istore 6, .iload 5, .iconst 600, .if_icmp .ne 49, .iload 3, .aload 0, .getfield 401, .if_icmp .ge 49, .ldc 42, .goto 53, .aload 0, .iload 3, .iload 6, .invokevirtual 74, .astore 7, .aload 0, .getfield 402, .iload 5, .aload 7, .aastore, .aload 0, .getfield 403, .iload 5, .iload 3, .iastore, .aload 0, .getfield 404, .iload 5, .iload 6, .iastore, .aload 0, .getfield 405, .iload 5, .aload 7, .ldc 39, .if_acmp .ne 80, .aload 0, .iload 3, .iload 6, .invokevirtual 75, .goto 81, .iconst 0, .iastore, .aload 0, .iload 5, .iconst 1, .iadd, .putfield 406, .aload 7, .ldc 41, .if_acmp .eq 93, .aload 7, .ldc 42, .if_acmp .ne 95, .iconst 1, .goto 96, .iconst 0, .istore 4, .iload 3, .iload 6, .iadd, .istore 3, .iinc 5 1, .goto 27, .return_]
def zv_76 : List (Nat × List Bool) := [(27, [true, false, false, true, true, true, false, false]), (49, [true, false, false, true, false, true, true, false]), (53, [true, false, false, true, false, true, true, false]), (80, [true, false, false, true, false, true, true, true]), (81, [true, false, false, true, false, true, true, true]), (93, [true, false, false, true, false, true, true, false]), (95, [true, false, false, true, false, true, true, false]), (96, [true, false, false, true, false, true, true, false]), (103, [false, false, false, false, false, false, false, false])]
/-- 77: ClauseDesk$Library.open ([BI)V -/
def zc_77 : List Instr := [.aload 0, .iconst 0, .putfield 207, .aload 0, .iconst 0, .putfield 208, .aload 0, .iconst 0, .putfield 209, .aload 0, .iconst 0, .putfield 210, .aload 0, .iconst 0, .putfield 211, .aload 0, .getfield 201, .aload 1, .iload 2, .invokevirtual 76, .return_]
def zv_77 : List (Nat × List Bool) := []
/-- 78: ClauseDesk$Code.clear ()V -/
def zc_78 : List Instr := [.aload 0, .iconst 0, .putfield 502, .return_]
def zv_78 : List (Nat × List Bool) := []
/-- 79: ClauseDesk$Tokens.kindAt (I)LClauseDesk$Kind; -/
def zc_79 : List Instr := [.iload 1, .ifCond .lt 11, .iload 1, .aload 0, .getfield 406, .if_icmp .ge 11, .aload 0, .getfield 402, .iload 1, .aaload, .ifnonnull 13, .ldc 42, .areturn, .aload 0, .getfield 402, .iload 1, .aaload, .areturn]
def zv_79 : List (Nat × List Bool) := [(11, [false, false]), (13, [true, true])]
/-- 80: ClauseDesk$Grammar.has (LClauseDesk$Kind;)Z -/
def zc_80 : List Instr := [.aload 0, .getfield 300, .aload 0, .getfield 305, .invokevirtual 79, .aload 1, .if_acmp .ne 9, .iconst 1, .goto 10, .iconst 0, .ireturn]
def zv_80 : List (Nat × List Bool) := [(9, [false, false]), (10, [false, false])]
/-- 81: ClauseDesk$Grammar.take (LClauseDesk$Kind;)Z -/
def zc_81 : List Instr := [.aload 0, .getfield 300, .aload 0, .getfield 305, .invokevirtual 79, .aload 1, .if_acmp .eq 9, .iconst 0, .ireturn, .aload 0, .dup, .getfield 305, .iconst 1, .iadd, .putfield 305, .iconst 1, .ireturn]
def zv_81 : List (Nat × List Bool) := [(9, [true, false])]
/-- 82: ClauseDesk$Grammar.tellsFact ()Z -/
def zc_82 : List Instr := [.aload 0, .ldc 1, .invokevirtual 81, .ifCond .eq 22, .aload 0, .ldc 38, .invokevirtual 81, .ifCond .eq 22, .aload 0, .ldc 35, .invokevirtual 81, .ifCond .eq 22, .aload 0, .ldc 39, .invokevirtual 81, .ifCond .eq 22, .aload 0, .ldc 27, .invokevirtual 81, .ifCond .eq 22, .iconst 1, .goto 23, .iconst 0, .ireturn]
def zv_82 : List (Nat × List Bool) := [(22, [false]), (23, [false])]
/-- 83: ClauseDesk$Clause.clear ()V -/
def zc_83 : List Instr := [.aload 0, .iconst 0, .putfield 600, .aload 0, .iconst 0, .putfield 601, .aload 0, .iconst 0, .putfield 602, .aload 0, .iconst 0, .putfield 603, .aload 0, .iconst 0, .putfield 604, .return_]
def zv_83 : List (Nat × List Bool) := []
/-- 84: ClauseDesk$Grammar.enter (LClauseDesk$Kind;I)Z -/
def zc_84 : List Instr := [.iload 2, .iconst 8, .if_icmp .ge 10, .aload 0, .getfield 300, .aload 0, .getfield 305, .invokevirtual 79, .aload 1, .if_acmp .eq 12, .iconst 0, .ireturn, .aload 0, .dup, .getfield 305, .iconst 1, .iadd, .putfield 305, .iconst 1, .ireturn]
def zv_84 : List (Nat × List Bool) := [(10, [false, false, false]), (12, [true, false, false])]
/-- 85: ClauseDesk$Code.add (LClauseDesk$Kind;I)I -/
def zc_85 : List Instr := [.aload 0, .getfield 502, .istore 3, .iload 3, .iconst 600, .if_icmp .ge 22, .aload 0, .getfield 500, .iload 3, .aload 1, .aastore, .aload 0, .getfield 501, .iload 3, .iload 2, .iastore, .aload 0, .dup, .getfield 502, .iconst 1, .iadd, .putfield 502, .iload 3, .ireturn]
def zv_85 : List (Nat × List Bool) := [(22, [false, false, false, true])]
/-- 86: ClauseDesk$Grammar.here ()LClauseDesk$Kind; -/
def zc_86 : List Instr := [.aload 0, .getfield 300, .aload 0, .getfield 305, .invokevirtual 79, .areturn]
def zv_86 : List (Nat × List Bool) := []
/-- 87: java.lang.Enum.ordinal ()I -/
def zc_87 : List Instr := [.aload 0, .getfield 1600, .ireturn]
def zv_87 : List (Nat × List Bool) := []
/-- 88: ClauseDesk$Grammar.ofTwo (LClauseDesk$Kind;I)Z -/
def zc_88 : List Instr := [.aload 0, .ldc 23, .iload 2, .invokevirtual 84, .ifCond .eq 23, .aload 0, .iload 2, .iconst 1, .iadd, .invokevirtual 91, .ifCond .eq 23, .aload 0, .ldc 28, .invokevirtual 81, .ifCond .eq 23, .aload 0, .iload 2, .iconst 1, .iadd, .invokevirtual 91, .ifCond .eq 23, .iconst 1, .goto 24, .iconst 0, .istore 3, .aload 0, .getfield 301, .aload 1, .iconst 0, .invokevirtual 85, .pop, .iload 3, .ifCond .eq 39, .aload 0, .ldc 24, .invokevirtual 81, .ifCond .eq 39, .iconst 1, .goto 40, .iconst 0, .ireturn]
def zv_88 : List (Nat × List Bool) := [(23, [true, true, false, false]), (24, [true, true, false, false]), (39, [false, false, false, false]), (40, [false, false, false, false])]
/-- 89: ClauseDesk$Grammar.value (I)Z -/
def zc_89 : List Instr := [.aload 0, .invokevirtual 86, .astore 2, .ldc 45, .aload 2, .invokevirtual 87, .iaload, .tableswitch 74 8 13 #[8, 8, 19, 42, 61, 61], .aload 0, .getfield 301, .aload 2, .aload 0, .getfield 305, .invokevirtual 85, .pop, .aload 0, .aload 2, .invokevirtual 81, .ireturn, .aload 0, .aload 2, .iload 1, .invokevirtual 84, .ifCond .eq 32, .aload 0, .iload 1, .iconst 1, .iadd, .invokevirtual 89, .ifCond .eq 32, .iconst 1, .goto 33, .iconst 0, .istore 3, .aload 0, .getfield 301, .ldc 43, .iconst 0, .invokevirtual 85, .pop, .iload 3, .ireturn, .aload 0, .aload 2, .iload 1, .invokevirtual 84, .ifCond .eq 59, .aload 0, .iload 1, .iconst 1, .iadd, .invokevirtual 91, .ifCond .eq 59, .aload 0, .ldc 24, .invokevirtual 81, .ifCond .eq 59, .iconst 1, .goto 60, .iconst 0, .ireturn, .aload 0, .aload 2, .invokevirtual 81, .ifCond .eq 72, .aload 0, .aload 2, .iload 1, .invokevirtual 88, .ifCond .eq 72, .iconst 1, .goto 73, .iconst 0, .ireturn, .iconst 0, .ireturn]
def zv_89 : List (Nat × List Bool) := [(8, [true, false, true, false]), (19, [true, true, true, false]), (32, [true, false, false, false]), (33, [true, false, false, false]), (42, [true, true, true, false]), (59, [false, false, false, false]), (60, [false, false, false, false]), (61, [true, true, true, false]), (72, [false, false, false, false]), (73, [false, false, false, false]), (74, [false, false, false, false])]
/-- 90: ClauseDesk$Grammar.product (I)Z -/
def zc_90 : List Instr := [.aload 0, .iload 1, .invokevirtual 89, .istore 2, .iconst 0, .istore 3, .iload 3, .iconst 600, .if_icmp .ge 40, .iload 2, .ifCond .eq 40, .aload 0, .ldc 31, .invokevirtual 80, .ifCond .ne 19, .aload 0, .ldc 32, .invokevirtual 80, .ifCond .eq 40, .aload 0, .invokevirtual 86, .astore 4, .aload 0, .dup, .getfield 305, .iconst 1, .iadd, .putfield 305, .aload 0, .iload 1, .invokevirtual 89, .istore 2, .aload 0, .getfield 301, .aload 4, .iconst 0, .invokevirtual 85, .pop, .iinc 3 1, .goto 6, .iload 2, .ireturn]
def zv_90 : List (Nat × List Bool) := [(6, [true, true, true, true, false]), (19, [true, true, false, true, false]), (40, [false, false, true, false, false])]
/-- 91: ClauseDesk$Grammar.sum (I)Z -/
def zc_91 : List Instr := [.aload 0, .iload 1, .invokevirtual 90, .istore 2, .iconst 0, .istore 3, .iload 3, .iconst 600, .if_icmp .ge 40, .iload 2, .ifCond .eq 40, .aload 0, .ldc 29, .invokevirtual 80, .ifCond .ne 19, .aload 0, .ldc 30, .invokevirtual 80, .ifCond .eq 40, .aload 0, .invokevirtual 86, .astore 4, .aload 0, .dup, .getfield 305, .iconst 1, .iadd, .putfield 305, .aload 0, .iload 1, .invokevirtual 90, .istore 2, .aload 0, .getfield 301, .aload 4, .iconst 0, .invokevirtual 85, .pop, .iinc 3 1, .goto 6, .iload 2, .ireturn]
def zv_91 : List (Nat × List Bool) := [(6, [true, true, true, true, false]), (19, [true, true, false, true, false]), (40, [false, false, true, false, false])]
/-- 92: ClauseDesk$Grammar.compares (LClauseDesk$Kind;)Z -/
def zc_92 : List Instr := [.aload 0, .ldc 33, .if_acmp .eq 15, .aload 0, .ldc 34, .if_acmp .eq 15, .aload 0, .ldc 35, .if_acmp .eq 15, .aload 0, .ldc 36, .if_acmp .eq 15, .aload 0, .ldc 37, .if_acmp .ne 17, .iconst 1, .goto 18, .iconst 0, .ireturn]
def zv_92 : List (Nat × List Bool) := [(15, [false]), (17, [false]), (18, [false])]
/-- 93: ClauseDesk$Grammar.single (I)Z -/
def zc_93 : List Instr := [.aload 0, .ldc 18, .invokevirtual 80, .ifCond .eq 27, .aload 0, .ldc 18, .iload 1, .invokevirtual 84, .ifCond .eq 17, .aload 0, .iload 1, .iconst 1, .iadd, .invokevirtual 93, .ifCond .eq 17, .iconst 1, .goto 18, .iconst 0, .istore 2, .aload 0, .getfield 301, .ldc 18, .iconst 0, .invokevirtual 85, .pop, .iload 2, .ireturn, .aload 0, .ldc 25, .invokevirtual 80, .ifCond .eq 50, .aload 0, .ldc 25, .iload 1, .invokevirtual 84, .ifCond .eq 48, .aload 0, .iload 1, .iconst 1, .iadd, .invokevirtual 95, .ifCond .eq 48, .aload 0, .ldc 26, .invokevirtual 81, .ifCond .eq 48, .iconst 1, .goto 49, .iconst 0, .ireturn, .aload 0, .iload 1, .invokevirtual 91, .ifCond .eq 58, .aload 0, .invokevirtual 86, .invokestatic 92, .ifCond .ne 60, .iconst 0, .ireturn, .aload 0, .invokevirtual 86, .astore 2, .aload 0, .dup, .getfield 305, .iconst 1, .iadd, .putfield 305, .aload 0, .iload 1, .invokevirtual 91, .istore 3, .aload 0, .getfield 301, .aload 2, .iconst 0, .invokevirtual 85, .pop, .iload 3, .ireturn]
def zv_93 : List (Nat × List Bool) := [(17, [true, false, false, false]), (18, [true, false, false, false]), (27, [true, true, false, false]), (48, [false, false, false, false]), (49, [false, false, false, false]), (50, [true, true, false, false]), (58, [false, false, false, false]), (60, [true, true, false, false])]
/-- 94: ClauseDesk$Grammar.both (I)Z -/
def zc_94 : List Instr := [.aload 0, .iload 1, .invokevirtual 93, .istore 2, .iconst 0, .istore 3, .iload 3, .iconst 600, .if_icmp .ge 27, .iload 2, .ifCond .eq 27, .aload 0, .ldc 16, .invokevirtual 81, .ifCond .eq 27, .aload 0, .iload 1, .invokevirtual 93, .istore 2, .aload 0, .getfield 301, .ldc 16, .iconst 0, .invokevirtual 85, .pop, .iinc 3 1, .goto 6, .iload 2, .ireturn]
def zv_94 : List (Nat × List Bool) := [(6, [true, true, true, true]), (27, [false, false, true, false])]
/-- 95: ClauseDesk$Grammar.test (I)Z -/
def zc_95 : List Instr := [.aload 0, .iload 1, .invokevirtual 94, .istore 2, .iconst 0, .istore 3, .iload 3, .iconst 600, .if_icmp .ge 27, .iload 2, .ifCond .eq 27, .aload 0, .ldc 17, .invokevirtual 81, .ifCond .eq 27, .aload 0, .iload 1, .invokevirtual 94, .istore 2, .aload 0, .getfield 301, .ldc 17, .iconst 0, .invokevirtual 85, .pop, .iinc 3 1, .goto 6, .iload 2, .ireturn]
def zv_95 : List (Nat × List Bool) := [(6, [true, true, true, true]), (27, [false, false, true, false])]
/-- 96: ClauseDesk$Grammar.whenPart (LClauseDesk$Clause;)Z -/
def zc_96 : List Instr := [.aload 1, .aload 0, .getfield 301, .getfield 502, .putfield 607, .aload 0, .ldc 3, .invokevirtual 81, .ifCond .eq 13, .aload 0, .iconst 0, .invokevirtual 95, .ifCond .eq 15, .iconst 1, .goto 16, .iconst 0, .istore 2, .aload 1, .aload 0, .getfield 301, .getfield 502, .putfield 608, .iload 2, .ireturn]
def zv_96 : List (Nat × List Bool) := [(13, [true, true, false]), (15, [true, true, false]), (16, [true, true, false])]
/-- 97: ClauseDesk$Tokens.meaningAt (I)I -/
def zc_97 : List Instr := [.iload 1, .ifCond .lt 6, .iload 1, .aload 0, .getfield 406, .if_icmp .lt 8, .iconst 0, .goto 12, .aload 0, .getfield 405, .iload 1, .iaload, .ireturn]
def zv_97 : List (Nat × List Bool) := [(6, [false, false]), (8, [true, true]), (12, [false, false])]
/-- 98: ClauseDesk$Grammar.optionalPart (LClauseDesk$Clause;)Z -/
def zc_98 : List Instr := [.aload 0, .ldc 4, .invokevirtual 81, .ifCond .ne 6, .iconst 1, .ireturn, .aload 0, .getfield 305, .istore 2, .aload 0, .ldc 39, .invokevirtual 81, .ifCond .eq 17, .aload 0, .ldc 39, .invokevirtual 81, .ifCond .ne 19, .iconst 0, .ireturn, .aload 1, .iconst 1, .putfield 600, .aload 1, .aload 0, .getfield 300, .iload 2, .invokevirtual 97, .aload 0, .getfield 300, .iload 2, .iconst 1, .iadd, .invokevirtual 97, .isub, .putfield 601, .iconst 1, .ireturn]
def zv_98 : List (Nat × List Bool) := [(6, [true, true, false]), (17, [false, false, false]), (19, [true, true, true])]
/-- 99: ClauseDesk$Grammar.linkPart ()Z -/
def zc_99 : List Instr := [.iconst 1, .istore 1, .iconst 0, .istore 2, .iload 2, .iconst 600, .if_icmp .ge 33, .iload 1, .ifCond .eq 33, .aload 0, .ldc 5, .invokevirtual 80, .ifCond .ne 21, .aload 0, .ldc 6, .invokevirtual 80, .ifCond .ne 21, .aload 0, .ldc 7, .invokevirtual 80, .ifCond .eq 33, .aload 0, .dup, .getfield 305, .iconst 1, .iadd, .putfield 305, .aload 0, .ldc 38, .invokevirtual 81, .istore 1, .iinc 2 1, .goto 4, .iload 1, .ireturn]
def zv_99 : List (Nat × List Bool) := [(4, [true, true, true]), (21, [true, false, true]), (33, [false, true, false])]
/-- 100: ClauseDesk$Grammar.nameItem ()Z -/
def zc_100 : List Instr := [.aload 0, .invokevirtual 86, .astore 1, .aload 0, .dup, .getfield 305, .iconst 1, .iadd, .putfield 305, .aload 0, .getfield 301, .aload 1, .aload 0, .getfield 305, .invokevirtual 85, .pop, .aload 0, .ldc 38, .invokevirtual 81, .ireturn]
def zv_100 : List (Nat × List Bool) := []
/-- 101: ClauseDesk$Grammar.showItem (I)Z -/
def zc_101 : List Instr := [.aload 0, .ldc 11, .invokevirtual 81, .ifCond .eq 8, .aload 0, .iload 1, .invokevirtual 91, .ifCond .ne 10, .iconst 0, .ireturn, .aload 0, .getfield 301, .ldc 11, .iconst 0, .invokevirtual 85, .pop, .aload 0, .ldc 27, .invokevirtual 81, .ireturn]
def zv_101 : List (Nat × List Bool) := [(8, [false, false]), (10, [true, false])]
/-- 102: ClauseDesk$Code.aimAtEnd (I)V -/
def zc_102 : List Instr := [.iload 1, .ifCond .lt 12, .iload 1, .aload 0, .getfield 502, .if_icmp .ge 12, .aload 0, .getfield 501, .iload 1, .aload 0, .getfield 502, .iastore, .return_]
def zv_102 : List (Nat × List Bool) := [(12, [false, false])]
/-- 103: ClauseDesk$Grammar.ifItem (I)Z -/
def zc_103 : List Instr := [.aload 0, .ldc 12, .invokevirtual 81, .ifCond .eq 8, .aload 0, .iload 1, .invokevirtual 95, .ifCond .ne 10, .iconst 0, .ireturn, .aload 0, .getfield 301, .ldc 12, .iconst 0, .invokevirtual 85, .istore 2, .aload 0, .iload 1, .invokevirtual 106, .ifCond .ne 22, .iconst 0, .ireturn, .aload 0, .ldc 13, .invokevirtual 81, .ifCond .ne 32, .aload 0, .getfield 301, .iload 2, .invokevirtual 102, .iconst 1, .ireturn, .aload 0, .getfield 301, .ldc 13, .iconst 0, .invokevirtual 85, .istore 3, .aload 0, .getfield 301, .iload 2, .invokevirtual 102, .aload 0, .iload 1, .invokevirtual 106, .istore 4, .aload 0, .getfield 301, .iload 3, .invokevirtual 102, .iload 4, .ireturn]
def zv_103 : List (Nat × List Bool) := [(8, [false, false, false, false, false]), (10, [true, true, false, false, false]), (22, [true, true, true, false, false]), (32, [true, true, true, false, false])]
/-- 104: ClauseDesk$Grammar.pointsItem (I)Z -/
def zc_104 : List Instr := [.aload 0, .ldc 14, .invokevirtual 81, .ifCond .eq 11, .aload 0, .ldc 21, .iload 1, .invokevirtual 84, .ifCond .eq 11, .iconst 1, .goto 12, .iconst 0, .istore 2, .iconst 1, .istore 3, .iload 3, .iconst 600, .if_icmp .gt 38, .iload 2, .ifCond .eq 38, .aload 0, .ldc 15, .invokevirtual 81, .ifCond .eq 38, .aload 0, .getfield 301, .ldc 15, .iload 3, .invokevirtual 85, .pop, .aload 0, .iload 1, .iconst 1, .iadd, .invokevirtual 106, .istore 2, .iinc 3 1, .goto 15, .iload 2, .ifCond .eq 46, .aload 0, .ldc 22, .invokevirtual 81, .ifCond .eq 46, .iconst 1, .goto 47, .iconst 0, .ireturn]
def zv_104 : List (Nat × List Bool) := [(11, [true, true, false, false]), (12, [true, true, false, false]), (15, [true, true, true, true]), (38, [true, false, true, false]), (46, [false, false, false, false]), (47, [false, false, false, false])]
/-- 105: ClauseDesk$Grammar.item (I)Z -/
def zc_105 : List Instr := [.ldc 45, .aload 0, .invokevirtual 86, .invokevirtual 87, .iaload, .tableswitch 32 1 7 #[6, 17, 17, 17, 20, 24, 28], .aload 0, .getfield 301, .ldc 40, .aload 0, .getfield 305, .invokevirtual 85, .pop, .aload 0, .ldc 40, .invokevirtual 81, .ireturn, .aload 0, .invokevirtual 100, .ireturn, .aload 0, .iload 1, .invokevirtual 101, .ireturn, .aload 0, .iload 1, .invokevirtual 103, .ireturn, .aload 0, .iload 1, .invokevirtual 104, .ireturn, .iconst 0, .ireturn]
def zv_105 : List (Nat × List Bool) := [(6, [true, false]), (17, [true, false]), (20, [true, true]), (24, [true, true]), (28, [true, true]), (32, [false, false])]
/-- 106: ClauseDesk$Grammar.block (I)Z -/
def zc_106 : List Instr := [.aload 0, .ldc 21, .iload 1, .invokevirtual 84, .istore 2, .iconst 0, .istore 3, .iload 3, .iconst 600, .if_icmp .ge 24, .iload 2, .ifCond .eq 24, .aload 0, .ldc 22, .invokevirtual 80, .ifCond .ne 24, .aload 0, .iload 1, .iconst 1, .iadd, .invokevirtual 105, .istore 2, .iinc 3 1, .goto 7, .iload 2, .ifCond .eq 32, .aload 0, .ldc 22, .invokevirtual 81, .ifCond .eq 32, .iconst 1, .goto 33, .iconst 0, .ireturn]
def zv_106 : List (Nat × List Bool) := [(7, [true, true, true, true]), (24, [true, false, true, false]), (32, [false, false, false, false]), (33, [false, false, false, false])]
/-- 107: ClauseDesk$Grammar.tellsClause ()Z -/
def zc_107 : List Instr := [.aload 0, .getfield 304, .aload 0, .getfield 302, .arraylength, .if_icmp .ge 12, .aload 0, .getfield 302, .aload 0, .getfield 304, .aaload, .goto 14, .aload 0, .getfield 303, .astore 1, .aload 0, .dup, .getfield 304, .iconst 1, .iadd, .putfield 304, .aload 1, .invokevirtual 83, .aload 0, .ldc 2, .invokevirtual 81, .ifCond .eq 31, .aload 0, .ldc 38, .invokevirtual 81, .ifCond .ne 33, .iconst 0, .ireturn, .aload 1, .aload 0, .getfield 305, .putfield 605, .aload 0, .aload 1, .invokevirtual 96, .ifCond .eq 48, .aload 0, .aload 1, .invokevirtual 98, .ifCond .eq 48, .aload 0, .invokevirtual 99, .ifCond .ne 50, .iconst 0, .ireturn, .aload 1, .aload 0, .getfield 305, .putfield 606, .aload 1, .aload 0, .getfield 301, .getfield 502, .putfield 609, .aload 0, .iconst 0, .invokevirtual 106, .istore 2, .aload 1, .aload 0, .getfield 301, .getfield 502, .putfield 610, .iload 2, .ireturn]
def zv_107 : List (Nat × List Bool) := [(12, [true, false, false]), (14, [true, false, false]), (31, [false, false, false]), (33, [true, true, false]), (48, [false, false, false]), (50, [true, true, false])]
/-- 108: ClauseDesk$Grammar.accepts ()Z -/
def zc_108 : List Instr := [.aload 0, .iconst 0, .putfield 305, .aload 0, .iconst 0, .putfield 304, .aload 0, .getfield 301, .invokevirtual 78, .iconst 1, .istore 1, .iconst 0, .istore 2, .iload 2, .iconst 600, .if_icmp .ge 34, .iload 1, .ifCond .eq 34, .aload 0, .ldc 41, .invokevirtual 80, .ifCond .ne 34, .aload 0, .ldc 1, .invokevirtual 80, .ifCond .eq 29, .aload 0, .invokevirtual 82, .goto 31, .aload 0, .invokevirtual 107, .istore 1, .iinc 2 1, .goto 13, .iload 1, .ireturn]
def zv_108 : List (Nat × List Bool) := [(13, [true, true, true]), (29, [true, false, true]), (31, [true, false, true]), (34, [false, true, false])]
/-- 109: ClauseDesk$Tokens.lengthOf (I)I -/
def zc_109 : List Instr := [.iload 1, .ifCond .lt 6, .iload 1, .aload 0, .getfield 406, .if_icmp .lt 8, .iconst 0, .goto 12, .aload 0, .getfield 404, .iload 1, .iaload, .ireturn]
def zv_109 : List (Nat × List Bool) := [(6, [false, false]), (8, [true, true]), (12, [false, false])]
/-- 110: ClauseDesk$Tokens.startAt (I)I -/
def zc_110 : List Instr := [.iload 1, .ifCond .lt 6, .iload 1, .aload 0, .getfield 406, .if_icmp .lt 8, .iconst 0, .goto 12, .aload 0, .getfield 403, .iload 1, .iaload, .ireturn]
def zv_110 : List (Nat × List Bool) := [(6, [false, false]), (8, [true, true]), (12, [false, false])]
/-- 111: ClauseDesk$Tokens.sameWord (II)Z -/
def zc_111 : List Instr := [.aload 0, .iload 1, .invokevirtual 109, .istore 3, .iload 3, .aload 0, .iload 2, .invokevirtual 109, .if_icmp .eq 11, .iconst 0, .ireturn, .iconst 0, .istore 4, .iload 4, .iload 3, .if_icmp .ge 35, .aload 0, .aload 0, .iload 1, .invokevirtual 110, .iload 4, .iadd, .invokevirtual 64, .aload 0, .aload 0, .iload 2, .invokevirtual 110, .iload 4, .iadd, .invokevirtual 64, .if_icmp .eq 33, .iconst 0, .ireturn, .iinc 4 1, .goto 13, .iconst 1, .ireturn]
def zv_111 : List (Nat × List Bool) := [(11, [true, true, true, true, false]), (13, [true, true, true, true, true]), (33, [true, true, true, true, true]), (35, [false, false, false, false, false])]
/-- 112: ClauseDesk$Library.numberOf (I[II)I -/
def zc_112 : List Instr := [.iconst 0, .istore 4, .iload 4, .iload 3, .if_icmp .ge 21, .iload 4, .aload 2, .arraylength, .if_icmp .ge 21, .aload 0, .getfield 201, .aload 2, .iload 4, .iaload, .iload 1, .invokevirtual 111, .ifCond .eq 19, .iload 4, .ireturn, .iinc 4 1, .goto 2, .iconst (-1), .ireturn]
def zv_112 : List (Nat × List Bool) := [(2, [true, true, true, true, true]), (19, [true, true, true, true, true]), (21, [false, false, false, false, false])]
/-- 113: ClauseDesk$Library.addFact (I)I -/
def zc_113 : List Instr := [.aload 0, .iload 1, .aload 0, .getfield 205, .aload 0, .getfield 207, .invokevirtual 112, .ifCond .lt 10, .iconst 2, .ireturn, .aload 0, .getfield 207, .iconst 10, .if_icmp .lt 16, .iconst 6, .ireturn, .aload 0, .getfield 205, .aload 0, .getfield 207, .iload 1, .iastore, .aload 0, .getfield 204, .aload 0, .getfield 207, .aload 0, .getfield 201, .iload 1, .iconst 2, .iadd, .invokevirtual 97, .iastore, .aload 0, .dup, .getfield 207, .iconst 1, .iadd, .putfield 207, .iconst 0, .ireturn]
def zv_113 : List (Nat × List Bool) := [(10, [true, true]), (16, [true, true])]
/-- 114: ClauseDesk$Library.clauseNamed (I)I -/
def zc_114 : List Instr := [.iconst 0, .istore 2, .iconst 0, .istore 3, .iload 3, .aload 0, .getfield 201, .getfield 406, .if_icmp .ge 28, .aload 0, .getfield 201, .iload 3, .invokevirtual 79, .ldc 2, .if_acmp .ne 26, .aload 0, .getfield 201, .iload 3, .iconst 1, .iadd, .iload 1, .invokevirtual 111, .ifCond .eq 25, .iload 2, .ireturn, .iinc 2 1, .iinc 3 1, .goto 4, .iconst (-1), .ireturn]
def zv_114 : List (Nat × List Bool) := [(4, [true, true, true, true]), (25, [true, true, true, true]), (26, [true, true, true, true]), (28, [false, false, false, false])]
/-- 115: java.lang.Integer.bitCount (I)I -/
def zc_115 : List Instr := [.iload 0, .iload 0, .iconst 1, .iushr, .iconst 1431655765, .iand, .isub, .istore 0, .iload 0, .iconst 858993459, .iand, .iload 0, .iconst 2, .iushr, .iconst 858993459, .iand, .iadd, .istore 0, .iload 0, .iload 0, .iconst 4, .iushr, .iadd, .iconst 252645135, .iand, .istore 0, .iload 0, .iload 0, .iconst 8, .iushr, .iadd, .istore 0, .iload 0, .iload 0, .iconst 16, .iushr, .iadd, .istore 0, .iload 0, .iconst 63, .iand, .ireturn]
def zv_115 : List (Nat × List Bool) := []
/-- 116: ClauseDesk$Library.addClause (I)I -/
def zc_116 : List Instr := [.aload 0, .iload 1, .invokevirtual 114, .aload 0, .getfield 208, .if_icmp .ge 8, .iconst 2, .ireturn, .aload 0, .getfield 208, .iconst 16, .if_icmp .lt 14, .iconst 6, .ireturn, .aload 0, .getfield 203, .aload 0, .getfield 208, .aaload, .getfield 600, .ifCond .eq 37, .aload 0, .getfield 210, .invokestatic 115, .iconst 8, .if_icmp .lt 28, .iconst 6, .ireturn, .aload 0, .dup, .getfield 210, .iconst 1, .aload 0, .getfield 208, .ishl, .ior, .putfield 210, .aload 0, .dup, .getfield 208, .iconst 1, .iadd, .putfield 208, .iconst 0, .ireturn]
def zv_116 : List (Nat × List Bool) := [(8, [true, false]), (14, [true, false]), (28, [true, false]), (37, [true, false])]
/-- 117: ClauseDesk$Tokens.setMeaning (II)V -/
def zc_117 : List Instr := [.iload 1, .ifCond .lt 11, .iload 1, .aload 0, .getfield 406, .if_icmp .ge 11, .aload 0, .getfield 405, .iload 1, .iload 2, .iastore, .return_]
def zv_117 : List (Nat × List Bool) := [(11, [false, false, false])]
/-- 118: ClauseDesk$Library.addLink (LClauseDesk$Clause;LClauseDesk$Kind;I)V -/
def zc_118 : List Instr := [.aload 0, .dup, .getfield 602, .aload 1, .ldc 5, .if_acmp .ne 8, .iload 2, .goto 9, .iconst 0, .ior, .putfield 602, .aload 0, .dup, .getfield 603, .aload 1, .ldc 6, .if_acmp .ne 19, .iload 2, .goto 20, .iconst 0, .ior, .putfield 603, .aload 0, .dup, .getfield 604, .aload 1, .ldc 7, .if_acmp .ne 30, .iload 2, .goto 31, .iconst 0, .ior, .putfield 604, .return_]
def zv_118 : List (Nat × List Bool) := [(8, [true, true, true]), (9, [true, true, true]), (19, [true, true, true]), (20, [true, true, true]), (30, [false, false, false]), (31, [false, false, false])]
/-- 119: ClauseDesk$Library.meanClause (ILClauseDesk$Kind;)I -/
def zc_119 : List Instr := [.aload 0, .iload 1, .invokevirtual 114, .istore 3, .iload 3, .ifCond .ge 8, .iconst 3, .ireturn, .iload 3, .aload 0, .getfield 208, .iconst 1, .isub, .if_icmp .ne 16, .iconst 5, .ireturn, .aload 0, .getfield 201, .iload 1, .iload 3, .invokevirtual 117, .aload 0, .getfield 208, .ifCond .le 36, .aload 0, .getfield 203, .aload 0, .getfield 208, .iconst 1, .isub, .aaload, .aload 2, .iconst 1, .iload 3, .ishl, .invokestatic 118, .iconst 0, .ireturn]
def zv_119 : List (Nat × List Bool) := [(8, [true, true, true, true]), (16, [true, true, true, true]), (36, [false, false, false, false])]
/-- 120: ClauseDesk$Library.meanTerm (I)I -/
def zc_120 : List Instr := [.aload 0, .iload 1, .aload 0, .getfield 206, .aload 0, .getfield 209, .invokevirtual 112, .istore 2, .iload 2, .ifCond .ge 30, .aload 0, .getfield 209, .iconst 24, .if_icmp .lt 16, .iconst 6, .ireturn, .aload 0, .getfield 209, .istore 2, .aload 0, .getfield 206, .iload 2, .iload 1, .iastore, .aload 0, .dup, .getfield 209, .iconst 1, .iadd, .putfield 209, .aload 0, .getfield 201, .iload 1, .iload 2, .invokevirtual 117, .iconst 0, .ireturn]
def zv_120 : List (Nat × List Bool) := [(16, [true, true, false]), (30, [true, true, true])]
/-- 121: ClauseDesk$Library.meanFact (I)I -/
def zc_121 : List Instr := [.aload 0, .iload 1, .aload 0, .getfield 205, .aload 0, .getfield 207, .invokevirtual 112, .istore 2, .aload 0, .getfield 201, .iload 1, .iload 2, .invokevirtual 117, .iload 2, .ifCond .ge 17, .iconst 4, .goto 18, .iconst 0, .ireturn]
def zv_121 : List (Nat × List Bool) := [(17, [false, false, false]), (18, [false, false, false])]
/-- 122: ClauseDesk$Library.lookAtName (ILClauseDesk$Kind;)I -/
def zc_122 : List Instr := [.ldc 45, .aload 2, .invokevirtual 87, .iaload, .tableswitch 22 2 18 #[13, 18, 18, 22, 22, 22, 22, 22, 22, 22, 22, 22, 5, 9, 13, 13, 13], .aload 0, .iload 1, .invokevirtual 113, .ireturn, .aload 0, .iload 1, .invokevirtual 116, .ireturn, .aload 0, .iload 1, .aload 2, .invokevirtual 119, .ireturn, .aload 0, .iload 1, .invokevirtual 120, .ireturn, .aload 0, .iload 1, .invokevirtual 121, .ireturn]
def zv_122 : List (Nat × List Bool) := [(5, [true, true, false]), (9, [true, true, false]), (13, [true, true, true]), (18, [true, true, false]), (22, [true, true, false])]
/-- 123: ClauseDesk$Library.lookAtNames ()I -/
def zc_123 : List Instr := [.iconst 0, .istore 1, .iconst 1, .istore 2, .iload 2, .aload 0, .getfield 201, .getfield 406, .if_icmp .ge 32, .iload 1, .ifCond .ne 32, .aload 0, .getfield 201, .iload 2, .invokevirtual 79, .ldc 38, .if_acmp .ne 30, .aload 0, .iload 2, .putfield 211, .aload 0, .iload 2, .aload 0, .getfield 201, .iload 2, .iconst 1, .isub, .invokevirtual 79, .invokevirtual 122, .istore 1, .iinc 2 1, .goto 4, .iload 1, .ireturn]
def zv_123 : List (Nat × List Bool) := [(4, [true, true, true]), (30, [true, true, true]), (32, [false, true, false])]
/-- 124: ClauseDesk$Library.placeOfError (I)I -/
def zc_124 : List Instr := [.iload 1, .ifCond .ne 4, .iconst (-1), .ireturn, .aload 0, .getfield 201, .iload 1, .iconst 1, .if_icmp .ne 13, .aload 0, .getfield 200, .getfield 305, .goto 15, .aload 0, .getfield 211, .invokevirtual 110, .ireturn]
def zv_124 : List (Nat × List Bool) := [(4, [true, true]), (13, [true, false]), (15, [false, false])]
/-- 125: ClauseDesk$Page.clear ()V -/
def zc_125 : List Instr := [.aload 0, .iconst 0, .putfield 1101, .return_]
def zv_125 : List (Nat × List Bool) := []
/-- 126: ClauseDesk$Draft.clear ()V -/
def zc_126 : List Instr := [.aload 0, .iconst 0, .putfield 1000, .aload 0, .iconst 0, .putfield 1001, .iconst 0, .istore 1, .iload 1, .iconst 16, .if_icmp .ge 28, .aload 0, .getfield 1003, .iload 1, .iconst 0, .iastore, .aload 0, .getfield 1004, .iload 1, .iconst 0, .iastore, .aload 0, .getfield 1005, .iload 1, .iconst 0, .iastore, .iinc 1 1, .goto 8, .aload 0, .getfield 1006, .invokevirtual 125, .return_]
def zv_126 : List (Nat × List Bool) := [(8, [true, true]), (28, [true, false])]
/-- 127: ClauseDesk.takeUpSpare ()V -/
def zc_127 : List Instr := [.aload 0, .getfield 103, .astore 1, .aload 0, .aload 0, .getfield 104, .putfield 103, .aload 0, .aload 1, .putfield 104, .iconst 0, .istore 2, .iload 2, .iconst 10, .if_icmp .ge 26, .aload 0, .getfield 105, .iload 2, .aload 0, .getfield 103, .getfield 204, .iload 2, .iaload, .iastore, .iinc 2 1, .goto 12, .aload 0, .iconst 0, .putfield 106, .aload 0, .iconst 0, .putfield 107, .aload 0, .getfield 112, .invokevirtual 126, .return_]
def zv_127 : List (Nat × List Bool) := [(12, [true, false, true]), (26, [true, false, false])]
/-- 128: ClauseDesk$Scribe.open (LClauseDesk$Library;[I[ILClauseDesk$Page;)V -/
def zc_128 : List Instr := [.aload 0, .aload 1, .putfield 900, .aload 0, .aload 2, .putfield 901, .aload 0, .aload 3, .putfield 902, .aload 0, .aload 4, .putfield 903, .aload 0, .iconst 0, .putfield 907, .return_]
def zv_128 : List (Nat × List Bool) := []
/-- 129: ClauseDesk$Code.kindAt (I)LClauseDesk$Kind; -/
def zc_129 : List Instr := [.iload 1, .ifCond .lt 11, .iload 1, .aload 0, .getfield 502, .if_icmp .ge 11, .aload 0, .getfield 500, .iload 1, .aaload, .ifnonnull 13, .ldc 42, .areturn, .aload 0, .getfield 500, .iload 1, .aaload, .areturn]
def zv_129 : List (Nat × List Bool) := [(11, [false, false]), (13, [true, true])]
/-- 130: ClauseDesk$Code.operandAt (I)I -/
def zc_130 : List Instr := [.iload 1, .ifCond .lt 6, .iload 1, .aload 0, .getfield 502, .if_icmp .lt 8, .iconst 0, .goto 12, .aload 0, .getfield 501, .iload 1, .iaload, .ireturn]
def zv_130 : List (Nat × List Bool) := [(6, [false, false]), (8, [true, true]), (12, [false, false])]
/-- 131: ClauseDesk$Scribe.pop ()I -/
def zc_131 : List Instr := [.aload 0, .getfield 905, .ifCond .le 7, .aload 0, .getfield 905, .iconst 64, .if_icmp .le 9, .iconst 0, .ireturn, .aload 0, .dup, .getfield 905, .iconst 1, .isub, .putfield 905, .aload 0, .getfield 904, .aload 0, .getfield 905, .iaload, .ireturn]
def zv_131 : List (Nat × List Bool) := [(7, [false]), (9, [true])]
/-- 132: ClauseDesk$Page.put (I)V -/
def zc_132 : List Instr := [.aload 0, .getfield 1101, .ifCond .lt 16, .aload 0, .getfield 1101, .aload 0, .getfield 1100, .arraylength, .if_icmp .ge 16, .aload 0, .getfield 1100, .aload 0, .getfield 1101, .iload 1, .i2b, .bastore, .aload 0, .dup, .getfield 1101, .iconst 1, .iadd, .putfield 1101, .return_]
def zv_132 : List (Nat × List Bool) := [(16, [true, false])]
/-- 133: ClauseDesk$Scribe.writeWord (II)V -/
def zc_133 : List Instr := [.iconst 0, .istore 3, .iload 3, .iload 2, .if_icmp .ge 17, .aload 0, .getfield 903, .aload 0, .getfield 900, .getfield 201, .iload 1, .iload 3, .iadd, .invokevirtual 64, .invokevirtual 132, .iinc 3 1, .goto 2, .return_]
def zv_133 : List (Nat × List Bool) := [(2, [true, true, true, true]), (17, [false, false, false, false])]
/-- 134: ClauseDesk$Page.putNumber (I)V -/
def zc_134 : List Instr := [.iload 1, .i2l, .lstore 2, .lload 2, .ldc2_w 0, .lcmp, .ifCond .ge 13, .aload 0, .iconst 45, .invokevirtual 132, .lload 2, .lneg, .lstore 2, .iconst 0, .istore 4, .ldc2_w 1000000000, .lstore 5, .lload 5, .ldc2_w 0, .lcmp, .ifCond .le 52, .iload 4, .ifCond .ne 31, .lload 2, .lload 5, .lcmp, .ifCond .ge 31, .lload 5, .ldc2_w 1, .lcmp, .ifCond .ne 33, .iconst 1, .goto 34, .iconst 0, .istore 4, .iload 4, .ifCond .eq 47, .aload 0, .ldc2_w 48, .lload 2, .lload 5, .ldiv, .ldc2_w 10, .lrem, .ladd, .l2i, .invokevirtual 132, .lload 5, .ldc2_w 10, .ldiv, .lstore 5, .goto 17, .return_]
def zv_134 : List (Nat × List Bool) := [(13, [true, false, true, false, false, false, false]), (17, [true, false, true, false, true, true, false]), (31, [true, false, true, false, false, true, false]), (33, [true, false, true, false, false, true, false]), (34, [true, false, true, false, false, true, false]), (47, [true, false, true, false, true, true, false]), (52, [false, false, false, false, false, false, false])]
/-- 135: ClauseDesk$Scribe.note (I)V -/
def zc_135 : List Instr := [.aload 0, .getfield 907, .iconst 600, .if_icmp .ge 16, .aload 0, .getfield 906, .aload 0, .getfield 907, .iload 1, .iastore, .aload 0, .dup, .getfield 907, .iconst 1, .iadd, .putfield 907, .return_]
def zv_135 : List (Nat × List Bool) := [(16, [false, false])]
/-- 136: ClauseDesk$Scribe.placeOf (I)I -/
def zc_136 : List Instr := [.iload 1, .ifCond .lt 7, .iload 1, .aload 0, .getfield 902, .arraylength, .if_icmp .lt 9, .iconst 0, .goto 13, .aload 0, .getfield 902, .iload 1, .iaload, .ireturn]
def zv_136 : List (Nat × List Bool) := [(7, [false, false]), (9, [true, true]), (13, [false, false])]
/-- 137: ClauseDesk$Scribe.push (I)V -/
def zc_137 : List Instr := [.aload 0, .getfield 905, .ifCond .lt 19, .aload 0, .getfield 905, .iconst 64, .if_icmp .ge 19, .aload 0, .getfield 904, .aload 0, .getfield 905, .iload 1, .iastore, .aload 0, .dup, .getfield 905, .iconst 1, .iadd, .putfield 905, .return_]
def zv_137 : List (Nat × List Bool) := [(19, [false, false])]
/-- 138: ClauseDesk$Scribe.ofTwo (LClauseDesk$Kind;II)I -/
def zc_138 : List Instr := [.ldc 45, .aload 0, .invokevirtual 87, .iaload, .tableswitch 76 10 29 #[9, 76, 25, 29, 76, 76, 76, 76, 76, 76, 5, 13, 17, 33, 40, 47, 54, 61, 68, 72], .iload 1, .iload 2, .iadd, .ireturn, .iload 1, .iload 2, .isub, .ireturn, .iload 1, .iload 2, .imul, .ireturn, .iload 2, .ifCond .ne 21, .iconst 0, .goto 24, .iload 1, .iload 2, .idiv, .ireturn, .iload 1, .iload 2, .invokestatic 21, .ireturn, .iload 1, .iload 2, .invokestatic 18, .ireturn, .iload 1, .iload 2, .if_icmp .ge 38, .iconst 1, .goto 39, .iconst 0, .ireturn, .iload 1, .iload 2, .if_icmp .le 45, .iconst 1, .goto 46, .iconst 0, .ireturn, .iload 1, .iload 2, .if_icmp .ne 52, .iconst 1, .goto 53, .iconst 0, .ireturn, .iload 1, .iload 2, .if_icmp .gt 59, .iconst 1, .goto 60, .iconst 0, .ireturn, .iload 1, .iload 2, .if_icmp .lt 66, .iconst 1, .goto 67, .iconst 0, .ireturn, .iload 1, .iload 2, .iand, .ireturn, .iload 1, .iload 2, .ior, .ireturn, .iconst 0, .ireturn]
def zv_138 : List (Nat × List Bool) := [(5, [false, true, true]), (9, [false, true, true]), (13, [false, true, true]), (17, [false, true, true]), (21, [false, true, true]), (24, [false, false, false]), (25, [false, true, true]), (29, [false, true, true]), (33, [false, true, true]), (38, [false, false, false]), (39, [false, false, false]), (40, [false, true, true]), (45, [false, false, false]), (46, [false, false, false]), (47, [false, true, true]), (52, [false, false, false]), (53, [false, false, false]), (54, [false, true, true]), (59, [false, false, false]), (60, [false, false, false]), (61, [false, true, true]), (66, [false, false, false]), (67, [false, false, false]), (68, [false, true, true]), (72, [false, true, true]), (76, [false, false, false])]
/-- 139: ClauseDesk$Scribe.reckon (LClauseDesk$Kind;I)V -/
def zc_139 : List Instr := [.aload 1, .ldc 39, .if_acmp .ne 11, .aload 0, .aload 0, .getfield 900, .getfield 201, .iload 2, .invokevirtual 97, .invokevirtual 137, .goto 69, .aload 1, .ldc 38, .if_acmp .ne 36, .aload 0, .getfield 900, .getfield 201, .iload 2, .invokevirtual 97, .istore 3, .aload 0, .iload 3, .ifCond .lt 28, .iload 3, .aload 0, .getfield 901, .arraylength, .if_icmp .lt 30, .iconst 0, .goto 34, .aload 0, .getfield 901, .iload 3, .iaload, .invokevirtual 137, .goto 69, .aload 1, .ldc 43, .if_acmp .ne 45, .aload 0, .aload 0, .invokevirtual 131, .ineg, .invokevirtual 137, .goto 69, .aload 1, .ldc 18, .if_acmp .ne 57, .aload 0, .aload 0, .invokevirtual 131, .ifCond .ne 54, .iconst 1, .goto 55, .iconst 0, .invokevirtual 137, .goto 69, .aload 0, .invokevirtual 131, .istore 3, .aload 0, .invokevirtual 131, .istore 4, .aload 0, .aload 1, .iload 4, .iload 3, .invokestatic 138, .invokevirtual 137, .return_]
def zv_139 : List (Nat × List Bool) := [(11, [true, true, true, false, false]), (28, [false, false, false, false, false]), (30, [true, false, false, true, false]), (34, [false, false, false, false, false]), (36, [true, true, false, false, false]), (45, [true, true, false, false, false]), (54, [false, false, false, false, false]), (55, [false, false, false, false, false]), (57, [true, true, false, false, false]), (69, [false, false, false, false, false])]
/-- 140: ClauseDesk$Scribe.act (LClauseDesk$Kind;II)V -/
def zc_140 : List Instr := [.ldc 45, .aload 1, .invokevirtual 87, .iaload, .tableswitch 133 1 19 #[6, 50, 73, 97, 23, 5, 133, 133, 133, 133, 133, 133, 133, 133, 133, 133, 133, 133, 29], .goto 137, .aload 0, .aload 0, .getfield 900, .getfield 201, .iload 2, .invokevirtual 110, .iconst 1, .iadd, .aload 0, .getfield 900, .getfield 201, .iload 2, .invokevirtual 109, .iconst 2, .isub, .invokevirtual 133, .goto 137, .aload 0, .getfield 903, .aload 0, .invokevirtual 131, .invokevirtual 134, .goto 137, .aload 0, .getfield 903, .iconst 32, .invokevirtual 132, .aload 0, .getfield 903, .iconst 40, .invokevirtual 132, .aload 0, .getfield 903, .iload 2, .invokevirtual 134, .aload 0, .getfield 903, .iconst 41, .invokevirtual 132, .aload 0, .getfield 903, .iconst 32, .invokevirtual 132, .goto 137, .aload 0, .iload 3, .invokevirtual 135, .aload 0, .aload 0, .getfield 900, .getfield 201, .iload 2, .invokevirtual 97, .invokevirtual 136, .istore 4, .iload 4, .ifCond .le 68, .aload 0, .getfield 903, .iload 4, .invokevirtual 134, .goto 137, .aload 0, .getfield 903, .iconst 63, .invokevirtual 132, .goto 137, .aload 0, .iload 3, .invokevirtual 135, .aload 0, .getfield 903, .iconst 34, .invokevirtual 132, .aload 0, .aload 0, .getfield 900, .getfield 201, .iload 2, .invokevirtual 110, .aload 0, .getfield 900, .getfield 201, .iload 2, .invokevirtual 109, .invokevirtual 133, .aload 0, .getfield 903, .iconst 34, .invokevirtual 132, .goto 137, .aload 0, .iload 3, .invokevirtual 135, .aload 0, .getfield 903, .aload 0, .getfield 900, .getfield 201, .aload 0, .getfield 900, .getfield 201, .iload 2, .invokevirtual 110, .invokevirtual 64, .iconst 97, .isub, .iconst 65, .iadd, .invokevirtual 132, .aload 0, .aload 0, .getfield 900, .getfield 201, .iload 2, .invokevirtual 110, .iconst 1, .iadd, .aload 0, .getfield 900, .getfield 201, .iload 2, .invokevirtual 109, .iconst 1, .isub, .invokevirtual 133, .goto 137, .aload 0, .aload 1, .iload 2, .invokevirtual 139, .return_]
def zv_140 : List (Nat × List Bool) := [(5, [false, false, false, false, false]), (6, [true, false, true, false, false]), (23, [true, false, false, false, false]), (29, [true, false, true, false, false]), (50, [true, false, true, true, false]), (68, [true, false, false, false, false]), (73, [true, false, true, true, false]), (97, [true, false, true, true, false]), (133, [true, true, true, false, false]), (137, [false, false, false, false, false])]
/-- 141: ClauseDesk$Scribe.follow (II)V -/
def zc_141 : List Instr := [.aload 0, .getfield 900, .ifnull 12, .aload 0, .getfield 901, .ifnull 12, .aload 0, .getfield 902, .ifnull 12, .aload 0, .getfield 903, .ifnonnull 13, .return_, .aload 0, .iconst 0, .putfield 905, .iload 1, .istore 3, .iconst 0, .istore 4, .iload 4, .iconst 600, .if_icmp .ge 68, .iload 3, .iload 2, .if_icmp .ge 68, .aload 0, .getfield 900, .getfield 202, .iload 3, .invokevirtual 129, .astore 5, .aload 0, .getfield 900, .getfield 202, .iload 3, .invokevirtual 130, .istore 6, .aload 5, .ldc 13, .if_acmp .eq 47, .aload 5, .ldc 12, .if_acmp .ne 49, .aload 0, .invokevirtual 131, .ifCond .ne 49, .iconst 1, .goto 50, .iconst 0, .istore 7, .iload 7, .ifCond .ne 58, .aload 0, .aload 5, .iload 6, .iload 3, .invokevirtual 140, .iload 7, .ifCond .eq 62, .iload 6, .goto 65, .iload 3, .iconst 1, .iadd, .istore 3, .iinc 4 1, .goto 20, .return_]
def zv_141 : List (Nat × List Bool) := [(12, [false, false, false, false, false, false, false, false]), (13, [true, true, true, false, false, false, false, false]), (20, [true, false, true, true, true, false, false, false]), (47, [true, false, true, true, true, true, true, false]), (49, [true, false, true, true, true, true, true, false]), (50, [true, false, true, true, true, true, true, false]), (58, [true, false, true, true, true, false, true, true]), (62, [true, false, true, true, true, false, false, false]), (65, [true, false, true, false, true, false, false, false]), (68, [false, false, false, false, false, false, false, false])]
/-- 142: ClauseDesk$Scribe.holds ()Z -/
def zc_142 : List Instr := [.aload 0, .invokevirtual 131, .ifCond .eq 5, .iconst 1, .goto 6, .iconst 0, .ireturn]
def zv_142 : List (Nat × List Bool) := [(5, [false]), (6, [false])]
/-- 143: ClauseDesk.withBit (IIZ)I -/
def zc_143 : List Instr := [.iconst 1, .iload 1, .ishl, .istore 3, .iload 2, .ifCond .eq 10, .iload 0, .iload 3, .ior, .goto 15, .iload 0, .iload 3, .iconst (-1), .ixor, .iand, .ireturn]
def zv_143 : List (Nat × List Bool) := [(10, [true, false, false, true]), (15, [false, false, false, false])]
/-- 144: ClauseDesk.hasBit (II)Z -/
def zc_144 : List Instr := [.iload 0, .iload 1, .ishr, .iconst 1, .iand, .ifCond .eq 8, .iconst 1, .goto 9, .iconst 0, .ireturn]
def zv_144 : List (Nat × List Bool) := [(8, [false, false]), (9, [false, false])]
/-- 145: ClauseDesk$Library.closure (II)I -/
def zc_145 : List Instr := [.iload 1, .istore 3, .iconst 0, .istore 4, .iload 4, .iconst 16, .if_icmp .ge 33, .iconst 0, .istore 5, .iload 5, .aload 0, .getfield 208, .if_icmp .ge 31, .iload 3, .iload 5, .invokestatic 144, .ifCond .eq 29, .iload 3, .aload 0, .getfield 203, .iload 5, .aaload, .getfield 602, .iload 2, .iconst (-1), .ixor, .iand, .ior, .istore 3, .iinc 5 1, .goto 9, .iinc 4 1, .goto 4, .iload 3, .ireturn]
def zv_145 : List (Nat × List Bool) := [(4, [true, false, true, true, true, false]), (9, [true, false, true, true, true, true]), (29, [true, false, true, true, true, true]), (31, [true, false, true, true, true, false]), (33, [false, false, false, true, false, false])]
/-- 146: ClauseDesk$Draft.nextOf (LClauseDesk$Library;I)I -/
def zc_146 : List Instr := [.iconst 0, .istore 2, .iconst 15, .istore 3, .iload 3, .ifCond .lt 14, .iload 1, .iload 3, .invokestatic 144, .ifCond .eq 12, .iload 3, .istore 2, .iinc 3 (-1), .goto 4, .iload 2, .istore 3, .iload 3, .iconst 16, .if_icmp .ge 35, .iload 1, .iload 3, .invokestatic 144, .ifCond .eq 33, .aload 0, .getfield 203, .iload 3, .aaload, .getfield 604, .iload 1, .iand, .ifCond .ne 33, .iload 3, .ireturn, .iinc 3 1, .goto 16, .iload 2, .ireturn]
def zv_146 : List (Nat × List Bool) := [(4, [true, true, true, true]), (12, [true, true, true, true]), (14, [true, true, true, false]), (16, [true, true, true, true]), (33, [true, true, true, true]), (35, [false, false, true, false])]
/-- 147: ClauseDesk$Draft.arrange (LClauseDesk$Library;I)V -/
def zc_147 : List Instr := [.aload 0, .invokevirtual 126, .aload 0, .iload 2, .putfield 1000, .iload 2, .istore 3, .iconst 0, .istore 4, .iload 4, .iconst 16, .if_icmp .ge 41, .iload 3, .ifCond .eq 41, .aload 1, .iload 3, .invokestatic 146, .istore 5, .aload 0, .getfield 1002, .iload 4, .iload 5, .iastore, .aload 0, .iload 4, .iconst 1, .iadd, .putfield 1001, .aload 0, .getfield 1003, .iload 5, .aload 0, .getfield 1001, .iastore, .iload 3, .iload 5, .iconst 0, .invokestatic 143, .istore 3, .iinc 4 1, .goto 9, .return_]
def zv_147 : List (Nat × List Bool) := [(9, [true, true, false, true, true, false]), (41, [false, false, false, false, false, false])]
/-- 148: ClauseDesk$Contract.gather (LClauseDesk$Library;[III)V -/
def zc_148 : List Instr := [.aload 0, .getfield 702, .aload 1, .aload 2, .aload 0, .getfield 700, .getfield 1003, .aload 0, .getfield 700, .getfield 1006, .invokevirtual 128, .aload 0, .iconst 0, .putfield 703, .iconst 0, .istore 5, .iload 5, .aload 1, .getfield 208, .if_icmp .ge 52, .aload 1, .getfield 203, .iload 5, .aaload, .astore 6, .aload 0, .getfield 702, .aload 6, .getfield 607, .aload 6, .getfield 608, .invokevirtual 141, .aload 0, .aload 0, .getfield 703, .iload 5, .aload 6, .getfield 607, .aload 6, .getfield 608, .if_icmp .eq 45, .aload 0, .getfield 702, .invokevirtual 142, .ifCond .eq 47, .iconst 1, .goto 48, .iconst 0, .invokestatic 143, .putfield 703, .iinc 5 1, .goto 16, .aload 0, .iload 3, .aload 0, .getfield 703, .iload 4, .iconst (-1), .ixor, .iand, .aload 1, .getfield 210, .iconst (-1), .ixor, .iand, .ior, .putfield 704, .aload 0, .getfield 700, .aload 1, .aload 1, .aload 0, .getfield 704, .iload 4, .invokevirtual 145, .invokevirtual 147, .return_]
def zv_148 : List (Nat × List Bool) := [(16, [true, true, false, true, true, true, false]), (45, [true, true, false, true, true, true, false]), (47, [true, true, false, true, true, true, false]), (48, [true, true, false, true, true, true, false]), (52, [true, true, false, true, true, false, false])]
/-- 149: ClauseDesk$Contract.write (LClauseDesk$Library;)V -/
def zc_149 : List Instr := [.aload 0, .getfield 700, .getfield 1006, .astore 2, .iconst 0, .istore 3, .iload 3, .aload 0, .getfield 700, .getfield 1001, .if_icmp .ge 67, .aload 0, .getfield 700, .getfield 1002, .iload 3, .iaload, .istore 4, .aload 2, .iload 3, .iconst 1, .iadd, .invokevirtual 134, .aload 2, .iconst 46, .invokevirtual 132, .aload 2, .iconst 32, .invokevirtual 132, .aload 0, .getfield 700, .getfield 1004, .iload 4, .aload 2, .getfield 1101, .iastore, .aload 0, .getfield 702, .aload 1, .getfield 203, .iload 4, .aaload, .getfield 609, .aload 1, .getfield 203, .iload 4, .aaload, .getfield 610, .invokevirtual 141, .aload 0, .getfield 700, .getfield 1005, .iload 4, .aload 2, .getfield 1101, .iastore, .aload 2, .iconst 10, .invokevirtual 132, .aload 0, .getfield 705, .iload 3, .aload 0, .getfield 702, .getfield 907, .iastore, .iinc 3 1, .goto 6, .return_]
def zv_149 : List (Nat × List Bool) := [(6, [true, true, true, true, false]), (67, [false, false, false, false, false])]
/-- 150: ClauseDesk$Contract.meaningOf (LClauseDesk$Library;I)I -/
def zc_150 : List Instr := [.iconst 0, .aload 0, .getfield 201, .aload 0, .getfield 202, .iload 1, .invokevirtual 130, .invokevirtual 97, .invokestatic 18, .ireturn]
def zv_150 : List (Nat × List Bool) := []
/-- 151: ClauseDesk$Contract.tallyItem (LClauseDesk$Library;II)V -/
def zc_151 : List Instr := [.aload 1, .getfield 202, .iload 2, .invokevirtual 129, .astore 4, .aload 1, .iload 2, .invokestatic 150, .istore 5, .aload 4, .ldc 8, .if_acmp .eq 15, .iload 5, .iconst 24, .if_icmp .lt 16, .return_, .aload 4, .ldc 10, .if_acmp .ne 28, .aload 0, .getfield 707, .iload 5, .dup2, .iaload, .iconst 1, .iadd, .iastore, .return_, .aload 0, .getfield 706, .iload 5, .dup2, .iaload, .iconst 1, .iadd, .iastore, .aload 0, .getfield 708, .iload 5, .iaload, .ifCond .ge 46, .aload 0, .getfield 708, .iload 5, .iload 3, .iastore, .return_]
def zv_151 : List (Nat × List Bool) := [(15, [false, false, false, false, false, false]), (16, [true, false, false, true, true, true]), (28, [true, false, false, true, false, true]), (46, [false, false, false, false, false, false])]
/-- 152: ClauseDesk$Contract.tally (LClauseDesk$Library;)V -/
def zc_152 : List Instr := [.iconst 0, .istore 2, .iload 2, .iconst 24, .if_icmp .ge 27, .aload 0, .getfield 706, .iload 2, .iconst 0, .iastore, .aload 0, .getfield 707, .iload 2, .iconst 0, .iastore, .aload 0, .getfield 708, .iload 2, .iconst (-1), .iastore, .aload 0, .getfield 709, .iload 2, .iconst 0, .iastore, .iinc 2 1, .goto 2, .iconst 0, .istore 2, .iconst 0, .istore 3, .iload 3, .aload 0, .getfield 700, .getfield 1001, .if_icmp .ge 59, .iload 2, .aload 0, .getfield 705, .iload 3, .iaload, .if_icmp .ge 57, .aload 0, .aload 1, .aload 0, .getfield 702, .getfield 906, .iload 2, .iaload, .aload 0, .getfield 700, .getfield 1002, .iload 3, .iaload, .invokevirtual 151, .iinc 2 1, .goto 36, .iinc 3 1, .goto 31, .return_]
def zv_152 : List (Nat × List Bool) := [(2, [true, true, true, false]), (27, [true, true, false, false]), (31, [true, true, true, true]), (36, [true, true, true, true]), (57, [true, true, true, true]), (59, [false, false, false, false])]
/-- 153: ClauseDesk$Conflicts.clear ()V -/
def zc_153 : List Instr := [.aload 0, .iconst 0, .putfield 803, .return_]
def zv_153 : List (Nat × List Bool) := []
/-- 154: ClauseDesk$Contract.placeOf (I)I -/
def zc_154 : List Instr := [.iload 1, .ifCond .lt 5, .iload 1, .iconst 16, .if_icmp .lt 7, .iconst 0, .goto 12, .aload 0, .getfield 700, .getfield 1003, .iload 1, .iaload, .ireturn]
def zv_154 : List (Nat × List Bool) := [(5, [false, false]), (7, [true, true]), (12, [false, false])]
/-- 155: ClauseDesk$Contract.isConflict (III)Z -/
def zc_155 : List Instr := [.iload 0, .iconst 1, .if_icmp .ne 9, .iload 2, .ifCond .le 7, .iconst 1, .goto 8, .iconst 0, .ireturn, .iload 0, .iconst 2, .if_icmp .ne 18, .iload 2, .ifCond .ne 16, .iconst 1, .goto 24, .iconst 0, .goto 24, .iload 2, .iload 1, .if_icmp .le 23, .iconst 1, .goto 24, .iconst 0, .ireturn]
def zv_155 : List (Nat × List Bool) := [(7, [false, false, false]), (8, [false, false, false]), (9, [true, true, true]), (16, [false, false, false]), (18, [false, true, true]), (23, [false, false, false]), (24, [false, false, false])]
/-- 156: ClauseDesk$Conflicts.add (III)V -/
def zc_156 : List Instr := [.aload 0, .getfield 803, .iconst 60, .if_icmp .ge 28, .aload 0, .getfield 800, .aload 0, .getfield 803, .iload 1, .iastore, .aload 0, .getfield 801, .aload 0, .getfield 803, .iload 2, .iastore, .aload 0, .getfield 802, .aload 0, .getfield 803, .iload 3, .iastore, .aload 0, .dup, .getfield 803, .iconst 1, .iadd, .putfield 803, .return_]
def zv_156 : List (Nat × List Bool) := [(28, [false, false, false, false])]
/-- 157: ClauseDesk$Contract.judgeLinks (LClauseDesk$Library;IILClauseDesk$Kind;)V -/
def zc_157 : List Instr := [.aload 1, .getfield 203, .iload 2, .aaload, .getfield 606, .istore 5, .aload 1, .getfield 203, .iload 2, .aaload, .getfield 605, .istore 6, .iload 6, .iload 5, .if_icmp .ge 45, .aload 1, .getfield 201, .iload 6, .invokevirtual 79, .aload 4, .if_acmp .ne 43, .aload 1, .getfield 201, .iload 6, .iconst 1, .iadd, .invokevirtual 97, .istore 7, .iload 3, .aload 0, .iload 2, .invokevirtual 154, .aload 0, .iload 7, .invokevirtual 154, .invokestatic 155, .ifCond .eq 43, .aload 0, .getfield 701, .iload 3, .iload 2, .iload 7, .invokevirtual 156, .iinc 6 1, .goto 12, .return_]
def zv_157 : List (Nat × List Bool) := [(12, [true, true, true, true, true, true, true, false]), (43, [true, true, true, true, true, true, true, false]), (45, [false, false, false, false, false, false, false, false])]
/-- 158: ClauseDesk$Contract.judgeTerm (LClauseDesk$Kind;II)V -/
def zc_158 : List Instr := [.aload 1, .ldc 9, .if_acmp .ne 23, .aload 0, .getfield 709, .iload 2, .iaload, .ifCond .le 14, .aload 0, .getfield 701, .iconst 5, .iload 3, .iload 2, .invokevirtual 156, .aload 0, .getfield 709, .iload 2, .dup2, .iaload, .iconst 1, .iadd, .iastore, .goto 46, .aload 0, .getfield 706, .iload 2, .iaload, .ifCond .ne 35, .aload 0, .getfield 701, .iconst 6, .iload 3, .iload 2, .invokevirtual 156, .goto 46, .aload 0, .getfield 709, .iload 2, .iaload, .ifCond .ne 46, .aload 0, .getfield 701, .iconst 7, .iload 3, .iload 2, .invokevirtual 156, .return_]
def zv_158 : List (Nat × List Bool) := [(14, [true, false, true, false]), (23, [true, false, true, true]), (35, [true, false, true, true]), (46, [false, false, false, false])]
/-- 159: ClauseDesk$Contract.judgeItem (LClauseDesk$Library;II)V -/
def zc_159 : List Instr := [.aload 1, .getfield 202, .iload 2, .invokevirtual 129, .astore 4, .aload 1, .iload 2, .invokestatic 150, .istore 5, .aload 4, .ldc 8, .if_acmp .ne 23, .aload 0, .iload 5, .invokevirtual 154, .ifCond .ne 31, .aload 0, .getfield 701, .iconst 4, .iload 3, .iload 5, .invokevirtual 156, .goto 31, .iload 5, .iconst 24, .if_icmp .ge 31, .aload 0, .aload 4, .iload 5, .iload 3, .invokevirtual 158, .return_]
def zv_159 : List (Nat × List Bool) := [(23, [true, false, false, true, true, true]), (31, [false, false, false, false, false, false])]
/-- 160: ClauseDesk$Contract.judge (LClauseDesk$Library;)V -/
def zc_160 : List Instr := [.aload 0, .getfield 701, .invokevirtual 153, .iconst 0, .istore 2, .iconst 0, .istore 3, .iload 3, .aload 0, .getfield 700, .getfield 1001, .if_icmp .ge 55, .aload 0, .getfield 700, .getfield 1002, .iload 3, .iaload, .istore 4, .aload 0, .aload 1, .iload 4, .iconst 1, .ldc 6, .invokevirtual 157, .aload 0, .aload 1, .iload 4, .iconst 2, .ldc 5, .invokevirtual 157, .aload 0, .aload 1, .iload 4, .iconst 3, .ldc 7, .invokevirtual 157, .iload 2, .aload 0, .getfield 705, .iload 3, .iaload, .if_icmp .ge 53, .aload 0, .aload 1, .aload 0, .getfield 702, .getfield 906, .iload 2, .iaload, .iload 4, .invokevirtual 159, .iinc 2 1, .goto 36, .iinc 3 1, .goto 7, .iconst 0, .istore 3, .iload 3, .aload 1, .getfield 209, .if_icmp .ge 82, .aload 0, .getfield 706, .iload 3, .iaload, .ifCond .le 80, .aload 0, .getfield 707, .iload 3, .iaload, .ifCond .ne 80, .aload 0, .getfield 701, .iconst 8, .aload 0, .getfield 708, .iload 3, .iaload, .iload 3, .invokevirtual 156, .iinc 3 1, .goto 57, .return_]
def zv_160 : List (Nat × List Bool) := [(7, [true, true, true, true, false]), (36, [true, true, true, true, true]), (53, [true, true, true, true, false]), (55, [true, true, false, false, false]), (57, [true, true, false, true, false]), (80, [true, true, false, true, false]), (82, [false, false, false, false, false])]
/-- 161: ClauseDesk$Contract.draw (LClauseDesk$Library;[III)V -/
def zc_161 : List Instr := [.aload 0, .aload 1, .aload 2, .iload 3, .iload 4, .invokevirtual 148, .aload 0, .aload 1, .invokevirtual 149, .aload 0, .aload 1, .invokevirtual 152, .aload 0, .aload 1, .invokevirtual 160, .return_]
def zv_161 : List (Nat × List Bool) := []
/-- 162: ClauseDesk.teach ()I -/
def zc_162 : List Instr := [.aload 0, .getfield 104, .aload 0, .getfield 100, .aload 0, .getfield 101, .invokevirtual 77, .aload 0, .iconst 0, .putfield 101, .aload 0, .getfield 104, .getfield 200, .invokevirtual 108, .ifCond .eq 19, .aload 0, .getfield 104, .invokevirtual 123, .goto 20, .iconst 1, .istore 1, .aload 0, .aload 0, .getfield 104, .iload 1, .invokevirtual 124, .putfield 102, .iload 1, .ifCond .ne 42, .aload 0, .invokevirtual 127, .aload 0, .getfield 108, .aload 0, .getfield 103, .aload 0, .getfield 105, .aload 0, .getfield 106, .aload 0, .getfield 107, .invokevirtual 161, .iload 1, .ireturn]
def zv_162 : List (Nat × List Bool) := [(19, [true, false]), (20, [true, false]), (42, [false, true])]
/-- 163: ClauseDeskLaw.tell (LClauseDesk;Ljava/lang/String;)I -/
def zc_163 : List Instr := [.iconst 0, .istore 2, .iload 2, .aload 1, .invokevirtual 17, .if_icmp .ge 62, .iconst 5, .newarray .int, .astore 3, .iconst 0, .istore 4, .iload 4, .iconst 20, .if_icmp .ge 42, .aload 3, .iload 4, .iconst 4, .idiv, .aload 3, .iload 4, .iconst 4, .idiv, .iaload, .iconst 8, .ishl, .iload 2, .iload 4, .iadd, .aload 1, .invokevirtual 17, .if_icmp .ge 37, .aload 1, .iload 2, .iload 4, .iadd, .invokevirtual 60, .goto 38, .iconst 32, .ior, .iastore, .iinc 4 1, .goto 11, .aload 0, .aload 3, .iconst 0, .iaload, .aload 3, .iconst 1, .iaload, .aload 3, .iconst 2, .iaload, .aload 3, .iconst 3, .iaload, .aload 3, .iconst 4, .iaload, .invokevirtual 62, .pop, .iinc 2 20, .goto 2, .aload 0, .aload 1, .invokevirtual 17, .invokevirtual 63, .pop, .aload 0, .invokevirtual 162, .ireturn]
def zv_163 : List (Nat × List Bool) := [(2, [true, true, true, false, false]), (11, [true, true, true, true, true]), (37, [true, true, true, true, true]), (38, [true, true, true, true, true]), (42, [true, true, true, true, false]), (62, [true, true, false, false, false])]
/-- 164: ClauseDesk.isFact (I)Z -/
def zc_164 : List Instr := [.iload 1, .ifCond .lt 9, .iload 1, .aload 0, .getfield 103, .getfield 207, .if_icmp .ge 9, .iconst 1, .goto 10, .iconst 0, .ireturn]
def zv_164 : List (Nat × List Bool) := [(9, [false, false]), (10, [false, false])]
/-- 165: ClauseDesk.setFact (II)I -/
def zc_165 : List Instr := [.aload 0, .iload 1, .invokevirtual 164, .ifCond .ne 8, .athrow, .dup, .athrow, .athrow, .iload 2, .iconst (-99999), .if_icmp .lt 14, .iload 2, .iconst 99999, .if_icmp .le 18, .athrow, .dup, .athrow, .athrow, .aload 0, .getfield 105, .iload 1, .iaload, .istore 3, .aload 0, .getfield 105, .iload 1, .iload 2, .iastore, .aload 0, .getfield 108, .aload 0, .getfield 103, .aload 0, .getfield 105, .aload 0, .getfield 106, .aload 0, .getfield 107, .invokevirtual 161, .iload 3, .ireturn]
def zv_165 : List (Nat × List Bool) := [(8, [true, true, true, false]), (14, [false, false, false, false]), (18, [true, true, true, false])]
/-- 166: ClauseDesk.isClause (I)Z -/
def zc_166 : List Instr := [.iload 1, .ifCond .lt 9, .iload 1, .aload 0, .getfield 103, .getfield 208, .if_icmp .ge 9, .iconst 1, .goto 10, .iconst 0, .ireturn]
def zv_166 : List (Nat × List Bool) := [(9, [false, false]), (10, [false, false])]
/-- 167: ClauseDesk.choiceOf (I)I -/
def zc_167 : List Instr := [.aload 0, .getfield 106, .iload 1, .invokestatic 144, .ifCond .eq 7, .iconst 1, .ireturn, .aload 0, .getfield 107, .iload 1, .invokestatic 144, .ifCond .eq 14, .iconst 0, .goto 15, .iconst (-1), .ireturn]
def zv_167 : List (Nat × List Bool) := [(7, [true, true]), (14, [false, false]), (15, [false, false])]
/-- 168: ClauseDesk.choose (II)I -/
def zc_168 : List Instr := [.aload 0, .iload 1, .invokevirtual 166, .ifCond .ne 8, .athrow, .dup, .athrow, .athrow, .iload 2, .iconst (-1), .if_icmp .lt 14, .iload 2, .iconst 1, .if_icmp .le 18, .athrow, .dup, .athrow, .athrow, .aload 0, .iload 1, .invokevirtual 167, .istore 3, .aload 0, .aload 0, .getfield 106, .iload 1, .iload 2, .iconst 1, .if_icmp .ne 31, .iconst 1, .goto 32, .iconst 0, .invokestatic 143, .putfield 106, .aload 0, .aload 0, .getfield 107, .iload 1, .iload 2, .ifCond .ne 42, .iconst 1, .goto 43, .iconst 0, .invokestatic 143, .putfield 107, .aload 0, .getfield 108, .aload 0, .getfield 103, .aload 0, .getfield 105, .aload 0, .getfield 106, .aload 0, .getfield 107, .invokevirtual 161, .iload 3, .ireturn]
def zv_168 : List (Nat × List Bool) := [(8, [true, true, true, false]), (14, [false, false, false, false]), (18, [true, true, true, false]), (31, [true, true, true, true]), (32, [true, true, true, true]), (42, [true, false, false, true]), (43, [true, false, false, true])]
/-- 169: ClauseDesk.itemBytes (LClauseDesk$Clause;)I -/
def zc_169 : List Instr := [.aload 0, .getfield 111, .invokevirtual 125, .aload 0, .getfield 110, .aload 0, .getfield 103, .aload 0, .getfield 105, .aload 0, .getfield 108, .getfield 700, .getfield 1003, .aload 0, .getfield 111, .invokevirtual 128, .aload 0, .getfield 110, .aload 1, .getfield 609, .aload 1, .getfield 610, .invokevirtual 141, .aload 0, .getfield 111, .getfield 1101, .ireturn]
def zv_169 : List (Nat × List Bool) := []
/-- 170: ClauseDesk.toldOfClause (II)I -/
def zc_170 : List Instr := [.aload 0, .getfield 103, .getfield 203, .iload 1, .aaload, .astore 3, .iload 2, .tableswitch 56 0 7 #[8, 12, 22, 33, 40, 47, 50, 53], .aload 0, .iload 1, .invokevirtual 167, .ireturn, .aload 0, .getfield 108, .getfield 703, .iload 1, .invokestatic 144, .ifCond .eq 20, .iconst 1, .goto 21, .iconst 0, .ireturn, .aload 0, .getfield 108, .getfield 700, .getfield 1000, .iload 1, .invokestatic 144, .ifCond .eq 31, .iconst 1, .goto 32, .iconst 0, .ireturn, .aload 0, .getfield 108, .getfield 700, .getfield 1003, .iload 1, .iaload, .ireturn, .aload 3, .getfield 600, .ifCond .eq 45, .iconst 1, .goto 46, .iconst 0, .ireturn, .aload 3, .getfield 602, .ireturn, .aload 3, .getfield 603, .ireturn, .aload 3, .getfield 604, .ireturn, .aload 0, .aload 3, .invokevirtual 169, .ireturn]
def zv_170 : List (Nat × List Bool) := [(8, [true, true, false, false]), (12, [true, true, false, false]), (20, [false, false, false, false]), (21, [false, false, false, false]), (22, [true, true, false, false]), (31, [false, false, false, false]), (32, [false, false, false, false]), (33, [true, true, false, false]), (40, [false, false, false, true]), (45, [false, false, false, false]), (46, [false, false, false, false]), (47, [false, false, false, true]), (50, [false, false, false, true]), (53, [false, false, false, true]), (56, [true, false, false, true])]
/-- 171: ClauseDesk.clause (II)I -/
def zc_171 : List Instr := [.aload 0, .iload 1, .invokevirtual 166, .ifCond .eq 9, .iload 2, .ifCond .lt 9, .iload 2, .iconst 9, .if_icmp .lt 13, .athrow, .dup, .athrow, .athrow, .aload 0, .iload 1, .iload 2, .invokevirtual 170, .ireturn]
def zv_171 : List (Nat × List Bool) := [(9, [false, false, false]), (13, [true, true, true])]
/-- 172: ClauseDesk$Contract.bytes ()I -/
def zc_172 : List Instr := [.aload 0, .getfield 700, .getfield 1006, .getfield 1101, .iconst 6000, .invokestatic 21, .ireturn]
def zv_172 : List (Nat × List Bool) := []
/-- 173: ClauseDesk$Library.worthOf (I)I -/
def zc_173 : List Instr := [.iconst 0, .istore 2, .iconst 0, .istore 3, .iload 3, .aload 0, .getfield 208, .if_icmp .ge 27, .iload 2, .iload 1, .aload 0, .getfield 210, .iand, .iload 3, .invokestatic 144, .ifCond .eq 22, .aload 0, .getfield 203, .iload 3, .aaload, .getfield 601, .goto 23, .iconst 0, .iadd, .istore 2, .iinc 3 1, .goto 4, .iload 2, .ireturn]
def zv_173 : List (Nat × List Bool) := [(4, [true, true, true, true]), (22, [true, true, false, true]), (23, [true, true, false, true]), (27, [false, false, true, false])]
/-- 174: ClauseDesk.counted (I)I -/
def zc_174 : List Instr := [.iload 1, .tableswitch 44 0 8 #[2, 6, 10, 14, 19, 22, 27, 32, 36], .aload 0, .getfield 103, .getfield 207, .ireturn, .aload 0, .getfield 103, .getfield 208, .ireturn, .aload 0, .getfield 103, .getfield 209, .ireturn, .aload 0, .getfield 103, .getfield 210, .invokestatic 115, .ireturn, .aload 0, .getfield 101, .ireturn, .aload 0, .getfield 108, .getfield 700, .getfield 1001, .ireturn, .aload 0, .getfield 108, .getfield 701, .getfield 803, .ireturn, .aload 0, .getfield 108, .invokevirtual 172, .ireturn, .aload 0, .getfield 103, .aload 0, .getfield 108, .getfield 700, .getfield 1000, .invokevirtual 173, .ireturn, .aload 0, .getfield 112, .getfield 1001, .ireturn]
def zv_174 : List (Nat × List Bool) := [(2, [true, false]), (6, [true, false]), (10, [true, false]), (14, [true, false]), (19, [true, false]), (22, [true, false]), (27, [true, false]), (32, [true, false]), (36, [true, false]), (44, [true, false])]
/-- 175: ClauseDesk.count (I)I -/
def zc_175 : List Instr := [.iload 1, .ifCond .lt 5, .iload 1, .iconst 10, .if_icmp .lt 9, .athrow, .dup, .athrow, .athrow, .aload 0, .iload 1, .invokevirtual 174, .ireturn]
def zv_175 : List (Nat × List Bool) := [(5, [false, false]), (9, [true, true])]
/-- 176: ClauseDesk$Conflicts.told (II)I -/
def zc_176 : List Instr := [.iload 1, .ifCond .lt 6, .iload 1, .aload 0, .getfield 803, .if_icmp .lt 8, .iconst 0, .ireturn, .iload 2, .ifCond .ne 15, .aload 0, .getfield 800, .iload 1, .iaload, .ireturn, .iload 2, .iconst 1, .if_icmp .ne 23, .aload 0, .getfield 801, .iload 1, .iaload, .goto 27, .aload 0, .getfield 802, .iload 1, .iaload, .ireturn]
def zv_176 : List (Nat × List Bool) := [(6, [false, false, false]), (8, [true, true, true]), (15, [true, true, true]), (23, [true, true, false]), (27, [false, false, false])]
/-- 177: ClauseDesk.conflict (II)I -/
def zc_177 : List Instr := [.iload 1, .ifCond .lt 13, .iload 1, .aload 0, .getfield 108, .getfield 701, .getfield 803, .if_icmp .ge 13, .iload 2, .ifCond .lt 13, .iload 2, .iconst 3, .if_icmp .lt 17, .athrow, .dup, .athrow, .athrow, .aload 0, .getfield 108, .getfield 701, .iload 1, .iload 2, .invokevirtual 176, .ireturn]
def zv_177 : List (Nat × List Bool) := [(13, [false, false, false]), (17, [true, true, true])]
/-- 178: ClauseDesk.clauseAt (I)I -/
def zc_178 : List Instr := [.iload 1, .iconst 1, .if_icmp .lt 9, .iload 1, .aload 0, .getfield 108, .getfield 700, .getfield 1001, .if_icmp .le 13, .athrow, .dup, .athrow, .athrow, .aload 0, .getfield 108, .getfield 700, .getfield 1002, .iload 1, .iconst 1, .isub, .iaload, .ireturn]
def zv_178 : List (Nat × List Bool) := [(9, [false, false]), (13, [true, true])]
/-- 179: ClauseDesk$Contract.toldOfTerm (II)I -/
def zc_179 : List Instr := [.iload 1, .ifCond .lt 5, .iload 1, .iconst 24, .if_icmp .lt 7, .iconst 0, .ireturn, .iload 2, .ifCond .ne 14, .aload 0, .getfield 706, .iload 1, .iaload, .ireturn, .iload 2, .iconst 1, .if_icmp .ne 22, .aload 0, .getfield 707, .iload 1, .iaload, .goto 26, .aload 0, .getfield 708, .iload 1, .iaload, .ireturn]
def zv_179 : List (Nat × List Bool) := [(5, [false, false, false]), (7, [true, true, true]), (14, [true, true, true]), (22, [true, true, false]), (26, [false, false, false])]
/-- 180: ClauseDesk.term (II)I -/
def zc_180 : List Instr := [.iload 1, .ifCond .lt 12, .iload 1, .aload 0, .getfield 103, .getfield 209, .if_icmp .ge 12, .iload 2, .ifCond .lt 12, .iload 2, .iconst 3, .if_icmp .lt 16, .athrow, .dup, .athrow, .athrow, .aload 0, .getfield 108, .iload 1, .iload 2, .invokevirtual 179, .ireturn]
def zv_180 : List (Nat × List Bool) := [(12, [false, false, false]), (16, [true, true, true])]
/-- 181: ClauseDesk$Conflicts.ofKind (I)I -/
def zc_181 : List Instr := [.iconst 0, .istore 2, .iconst 0, .istore 3, .iload 3, .aload 0, .getfield 803, .if_icmp .ge 22, .iload 2, .aload 0, .getfield 800, .iload 3, .iaload, .iload 1, .if_icmp .ne 17, .iconst 1, .goto 18, .iconst 0, .iadd, .istore 2, .iinc 3 1, .goto 4, .iload 2, .ireturn]
def zv_181 : List (Nat × List Bool) := [(4, [true, true, true, true]), (17, [true, true, false, true]), (18, [true, true, false, true]), (22, [false, false, true, false])]
/-- 182: ClauseDesk.conflicts (I)I -/
def zc_182 : List Instr := [.iload 1, .iconst 1, .if_icmp .lt 6, .iload 1, .iconst 8, .if_icmp .le 10, .athrow, .dup, .athrow, .athrow, .aload 0, .getfield 108, .getfield 701, .iload 1, .invokevirtual 181, .ireturn]
def zv_182 : List (Nat × List Bool) := [(6, [false, false]), (10, [true, true])]
/-- 183: ClauseDesk.friction ()D -/
def zc_183 : List Instr := [.aload 0, .getfield 108, .getfield 700, .getfield 1001, .istore 1, .iload 1, .ifCond .ne 9, .dconst 0, .goto 17, .aload 0, .getfield 108, .getfield 701, .getfield 803, .i2d, .iload 1, .i2d, .ddiv, .dreturn]
def zv_183 : List (Nat × List Bool) := [(9, [true, true]), (17, [false, false])]
/-- 184: ClauseDesk.would (III)I -/
def zc_184 : List Instr := [.aload 0, .iload 1, .invokevirtual 166, .ifCond .eq 9, .iload 3, .ifCond .lt 9, .iload 3, .iconst 4, .if_icmp .lt 13, .athrow, .dup, .athrow, .athrow, .iload 2, .iconst (-1), .if_icmp .lt 19, .iload 2, .iconst 1, .if_icmp .le 23, .athrow, .dup, .athrow, .athrow, .aload 0, .getfield 109, .aload 0, .getfield 103, .aload 0, .getfield 105, .aload 0, .getfield 106, .iload 1, .iload 2, .iconst 1, .if_icmp .ne 37, .iconst 1, .goto 38, .iconst 0, .invokestatic 143, .aload 0, .getfield 107, .iload 1, .iload 2, .ifCond .ne 46, .iconst 1, .goto 47, .iconst 0, .invokestatic 143, .invokevirtual 161, .iload 3, .tableswitch 69 0 2 #[51, 56, 61], .aload 0, .getfield 109, .getfield 700, .getfield 1001, .ireturn, .aload 0, .getfield 109, .getfield 701, .getfield 803, .ireturn, .aload 0, .getfield 103, .aload 0, .getfield 109, .getfield 700, .getfield 1000, .invokevirtual 173, .ireturn, .aload 0, .getfield 109, .invokevirtual 172, .ireturn]
def zv_184 : List (Nat × List Bool) := [(9, [false, false, false, false]), (13, [true, true, true, true]), (19, [false, false, false, false]), (23, [true, true, true, true]), (37, [true, true, true, true]), (38, [true, true, true, true]), (46, [true, false, false, true]), (47, [true, false, false, true]), (51, [true, false, false, false]), (56, [true, false, false, false]), (61, [true, false, false, false]), (69, [true, false, false, false])]
/-- 185: ClauseDesk$Library.barringOrBarred (I)I -/
def zc_185 : List Instr := [.iconst 0, .istore 2, .iconst 0, .istore 3, .iload 3, .aload 0, .getfield 208, .if_icmp .ge 34, .iload 1, .iload 3, .invokestatic 144, .ifCond .eq 20, .aload 0, .getfield 203, .iload 3, .aaload, .getfield 603, .iload 1, .iand, .goto 21, .iconst 0, .istore 4, .iload 4, .ifCond .eq 32, .iload 2, .iload 4, .iconst 1, .iload 3, .ishl, .ior, .ior, .istore 2, .iinc 3 1, .goto 4, .iload 2, .ireturn]
def zv_185 : List (Nat × List Bool) := [(4, [true, true, true, true, false]), (20, [true, true, true, true, false]), (21, [true, true, true, true, false]), (32, [true, true, true, true, false]), (34, [false, false, true, false, false])]
/-- 186: ClauseDesk$Library.isPeaceful (I)Z -/
def zc_186 : List Instr := [.iconst 0, .istore 2, .iconst 0, .istore 3, .iload 3, .aload 0, .getfield 208, .if_icmp .ge 24, .iload 2, .iload 1, .iload 3, .invokestatic 144, .ifCond .eq 19, .aload 0, .getfield 203, .iload 3, .aaload, .getfield 602, .goto 20, .iconst 0, .ior, .istore 2, .iinc 3 1, .goto 4, .iload 2, .iload 1, .iconst (-1), .ixor, .iand, .ifCond .ne 36, .aload 0, .iload 1, .invokevirtual 185, .ifCond .ne 36, .iconst 1, .goto 37, .iconst 0, .ireturn]
def zv_186 : List (Nat × List Bool) := [(4, [true, true, true, true]), (19, [true, true, false, true]), (20, [true, true, false, true]), (24, [true, true, true, false]), (36, [false, false, false, false]), (37, [false, false, false, false])]
/-- 187: ClauseDesk.advise ()I -/
def zc_187 : List Instr := [.aload 0, .getfield 103, .getfield 210, .aload 0, .getfield 106, .iconst (-1), .ixor, .iand, .aload 0, .getfield 107, .iconst (-1), .ixor, .iand, .istore 1, .iconst (-1), .istore 2, .iconst 0, .istore 3, .iconst 0, .istore 4, .iload 4, .iload 1, .if_icmp .gt 61, .iload 4, .iload 1, .iconst (-1), .ixor, .iand, .ifCond .ne 59, .aload 0, .getfield 103, .aload 0, .getfield 108, .getfield 704, .iload 4, .ior, .aload 0, .getfield 107, .invokevirtual 145, .istore 5, .aload 0, .getfield 103, .iload 5, .invokevirtual 173, .istore 6, .aload 0, .getfield 103, .iload 5, .invokevirtual 186, .ifCond .eq 59, .iload 2, .ifCond .lt 55, .iload 6, .iload 3, .if_icmp .le 59, .iload 4, .istore 2, .iload 6, .istore 3, .iinc 4 1, .goto 20, .iload 2, .ireturn]
def zv_187 : List (Nat × List Bool) := [(20, [true, true, true, true, true, false, false]), (55, [true, true, false, false, true, false, true]), (59, [true, true, true, true, true, false, false]), (61, [false, false, true, false, false, false, false])]
/-- 188: ClauseDesk.fewest ()I -/
def zc_188 : List Instr := [.aload 0, .getfield 108, .getfield 700, .getfield 1000, .istore 1, .aload 0, .getfield 103, .iload 1, .invokevirtual 185, .istore 2, .iload 2, .istore 3, .iconst 0, .istore 4, .iload 4, .iload 3, .if_icmp .gt 47, .iload 4, .iload 3, .iconst (-1), .ixor, .iand, .ifCond .ne 30, .iload 4, .invokestatic 115, .iload 2, .invokestatic 115, .if_icmp .ge 30, .iconst 1, .goto 31, .iconst 0, .istore 5, .iload 5, .ifCond .eq 45, .aload 0, .getfield 103, .iload 1, .iload 4, .iconst (-1), .ixor, .iand, .invokevirtual 185, .ifCond .ne 45, .iload 4, .istore 2, .iinc 4 1, .goto 14, .iload 2, .ireturn]
def zv_188 : List (Nat × List Bool) := [(14, [true, true, true, true, true, false]), (30, [true, true, true, true, true, false]), (31, [true, true, true, true, true, false]), (45, [true, true, true, true, true, false]), (47, [false, false, true, false, false, false])]
/-- 189: ClauseDeskLaw.law ([I)Z -/
def zc_189 : List Instr := [.new 1, .dup, .invokespecial 10, .astore 1, .new 13, .dup, .invokespecial 12, .astore 2, .aload 0, .iconst 7, .aload 2, .invokestatic 52, .astore 3, .aload 2, .invokestatic 57, .ifCond .ne 18, .iconst 1, .ireturn, .aload 1, .aload 2, .invokevirtual 41, .invokestatic 163, .ifCond .eq 25, .iconst 0, .ireturn, .aload 3, .getfield 1201, .istore 4, .iconst 0, .istore 5, .iload 5, .iconst 14, .if_icmp .ge 675, .aload 0, .iload 5, .invokestatic 14, .iconst 17, .iload 5, .imul, .iadd, .istore 6, .aload 1, .iload 6, .aload 3, .getfield 1200, .invokestatic 15, .iload 6, .iconst 3, .ishr, .iconst 24, .invokestatic 15, .iconst 2, .isub, .invokevirtual 165, .pop, .aload 1, .iload 6, .iconst 2, .ishr, .iload 4, .invokestatic 15, .iload 6, .iconst 5, .ishr, .iconst 3, .invokestatic 15, .iconst 1, .isub, .invokevirtual 168, .pop, .iconst 0, .istore 7, .iconst 0, .istore 8, .iconst 0, .istore 9, .iconst 0, .istore 10, .iload 10, .iload 4, .if_icmp .ge 124, .iload 7, .aload 1, .iload 10, .iconst 2, .invokevirtual 171, .iload 10, .ishl, .ior, .istore 7, .iload 8, .aload 1, .iload 10, .iconst 2, .invokevirtual 171, .iadd, .istore 8, .iload 9, .aload 1, .iload 10, .iconst 2, .invokevirtual 171, .iconst 1, .if_icmp .ne 119, .aload 3, .getfield 1206, .iload 10, .baload, .ifCond .eq 119, .aload 3, .getfield 1207, .iload 10, .iaload, .aload 3, .getfield 1208, .iload 10, .iaload, .isub, .goto 120, .iconst 0, .iadd, .istore 9, .iinc 10 1, .goto 78, .aload 1, .iconst 5, .invokevirtual 175, .iload 8, .if_icmp .ne 147, .aload 1, .iconst 8, .invokevirtual 175, .iload 9, .if_icmp .ne 147, .aload 1, .iconst 0, .iconst 4, .invokevirtual 171, .aload 3, .getfield 1206, .iconst 0, .baload, .ifCond .eq 145, .iconst 1, .goto 146, .iconst 0, .if_icmp .eq 149, .iconst 0, .ireturn, .iconst 9, .newarray .int, .astore 10, .iconst 0, .istore 11, .iload 11, .aload 1, .iconst 6, .invokevirtual 175, .if_icmp .ge 171, .aload 10, .aload 1, .iload 11, .iconst 0, .invokevirtual 177, .dup2, .iaload, .iconst 1, .iadd, .iastore, .iinc 11 1, .goto 154, .iconst 0, .istore 11, .iconst 0, .istore 12, .iconst 0, .istore 13, .iconst 0, .istore 14, .iconst 0, .istore 15, .iload 15, .iload 4, .if_icmp .ge 408, .iload 7, .iload 15, .ishr, .iconst 1, .iand, .iconst 1, .if_icmp .ne 193, .iconst 1, .goto 194, .iconst 0, .istore 16, .aload 1, .iload 15, .iconst 0, .invokevirtual 171, .istore 17, .iload 17, .iconst 1, .if_icmp .eq 216, .iload 17, .ifCond .ge 218, .aload 3, .getfield 1206, .iload 15, .baload, .ifCond .ne 218, .aload 1, .iload 15, .iconst 1, .invokevirtual 171, .iconst 1, .if_icmp .ne 218, .iconst 1, .goto 219, .iconst 0, .istore 18, .iconst 0, .istore 19, .iconst 0, .istore 20, .iload 20, .iload 4, .if_icmp .ge 255, .iload 19, .ifCond .ne 249, .iload 20, .iload 15, .if_icmp .eq 251, .iload 7, .iload 20, .ishr, .iconst 1, .iand, .iconst 1, .if_icmp .ne 251, .aload 1, .iload 20, .iconst 5, .invokevirtual 171, .iload 15, .ishr, .iconst 1, .iand, .iconst 1, .if_icmp .ne 251, .iconst 1, .goto 252, .iconst 0, .istore 19, .iinc 20 1, .goto 224, .iload 16, .iload 18, .ifCond .ne 264, .iload 16, .ifCond .eq 266, .iload 19, .ifCond .eq 266, .iload 17, .ifCond .eq 266, .iconst 1, .goto 267, .iconst 0, .if_icmp .ne 274, .iload 16, .ifCond .ne 276, .iload 19, .ifCond .eq 276, .iload 17, .ifCond .eq 276, .iconst 0, .ireturn, .aload 1, .iload 15, .iconst 3, .invokevirtual 171, .istore 20, .iload 16, .iload 20, .ifCond .le 286, .iconst 1, .goto 287, .iconst 0, .if_icmp .ne 298, .iload 20, .iload 8, .if_icmp .gt 298, .iload 16, .ifCond .eq 300, .aload 1, .iload 20, .invokevirtual 178, .iload 15, .if_icmp .eq 300, .iconst 0, .ireturn, .iload 16, .ifCond .ne 303, .goto 406, .iload 14, .aload 1, .iload 15, .iconst 8, .invokevirtual 171, .iconst 3, .iadd, .iload 20, .iconst 9, .if_icmp .le 315, .iconst 2, .goto 316, .iconst 1, .iadd, .iadd, .istore 14, .aload 3, .getfield 1210, .iload 15, .aaload, .astore 21, .aload 21, .arraylength, .istore 22, .iconst 0, .istore 23, .iload 23, .iload 22, .if_icmp .ge 346, .aload 21, .iload 23, .iaload, .istore 24, .iload 11, .iload 7, .iload 24, .ishr, .iconst 1, .iand, .iadd, .istore 11, .iinc 23 1, .goto 329, .aload 3, .getfield 1209, .iload 15, .aaload, .astore 21, .aload 21, .arraylength, .istore 22, .iconst 0, .istore 23, .iload 23, .iload 22, .if_icmp .ge 375, .aload 21, .iload 23, .iaload, .istore 24, .iload 12, .iconst 1, .iload 7, .iload 24, .ishr, .iconst 1, .iand, .isub, .iadd, .istore 12, .iinc 23 1, .goto 356, .aload 3, .getfield 1211, .iload 15, .aaload, .astore 21, .aload 21, .arraylength, .istore 22, .iconst 0, .istore 23, .iload 23, .iload 22, .if_icmp .ge 406, .aload 21, .iload 23, .iaload, .istore 24, .iload 13, .aload 1, .iload 24, .iconst 3, .invokevirtual 171, .iload 20, .if_icmp .le 401, .iconst 1, .goto 402, .iconst 0, .iadd, .istore 13, .iinc 23 1, .goto 385, .iinc 15 1, .goto 181, .aload 1, .iconst 7, .invokevirtual 175, .iconst 6000, .iload 14, .invokestatic 21, .if_icmp .ne 435, .aload 1, .iconst 6, .invokevirtual 175, .iconst 60, .if_icmp .ge 437, .aload 10, .iconst 1, .iaload, .iload 11, .if_icmp .ne 435, .aload 10, .iconst 2, .iaload, .iload 12, .if_icmp .ne 435, .aload 10, .iconst 3, .iaload, .iload 13, .if_icmp .eq 437, .iconst 0, .ireturn, .iconst 0, .istore 15, .iconst 0, .istore 16, .iconst 0, .istore 17, .iload 17, .aload 3, .getfield 1202, .if_icmp .ge 508, .aload 1, .iload 17, .iconst 0, .invokevirtual 180, .istore 18, .aload 1, .iload 17, .iconst 1, .invokevirtual 180, .istore 19, .iload 18, .ifCond .lt 486, .iload 19, .ifCond .lt 486, .iload 18, .ifCond .ne 465, .iconst 1, .goto 466, .iconst 0, .aload 1, .iload 17, .iconst 2, .invokevirtual 180, .ifCond .ge 473, .iconst 1, .goto 474, .iconst 0, .if_icmp .ne 486, .iload 18, .ifCond .le 488, .iload 7, .aload 1, .iload 17, .iconst 2, .invokevirtual 180, .ishr, .iconst 1, .iand, .ifCond .ne 488, .iconst 0, .ireturn, .iload 15, .iload 18, .ifCond .ne 493, .iload 19, .goto 494, .iconst 0, .iadd, .istore 15, .iload 16, .iload 18, .ifCond .le 503, .iload 19, .ifCond .ne 503, .iconst 1, .goto 504, .iconst 0, .iadd, .istore 16, .iinc 17 1, .goto 443, .aload 1, .iconst 6, .invokevirtual 175, .iconst 60, .if_icmp .ge 525, .aload 10, .iconst 6, .iaload, .iload 15, .if_icmp .ne 523, .aload 10, .iconst 8, .iaload, .iload 16, .if_icmp .eq 525, .iconst 0, .ireturn, .iconst 0, .istore 17, .iconst 1, .istore 18, .iload 18, .iconst 9, .if_icmp .ge 549, .aload 1, .iload 18, .invokevirtual 182, .aload 10, .iload 18, .iaload, .if_icmp .eq 541, .iconst 0, .ireturn, .iload 17, .aload 10, .iload 18, .iaload, .iadd, .istore 17, .iinc 18 1, .goto 529, .iload 17, .aload 1, .iconst 6, .invokevirtual 175, .if_icmp .ne 567, .aload 1, .invokevirtual 183, .iload 8, .ifCond .ne 560, .dconst 0, .goto 565, .iload 17, .i2d, .iload 8, .i2d, .ddiv, .dcmp .l, .ifCond .eq 569, .iconst 0, .ireturn, .iload 6, .iconst 4, .ishr, .iload 4, .invokestatic 15, .istore 18, .aload 1, .iload 18, .aload 1, .iload 18, .iconst 0, .invokevirtual 171, .iconst 0, .invokevirtual 184, .iload 8, .if_icmp .ne 612, .aload 1, .iload 18, .aload 1, .iload 18, .iconst 0, .invokevirtual 171, .iconst 1, .invokevirtual 184, .iload 17, .if_icmp .ne 612, .aload 1, .iload 18, .aload 1, .iload 18, .iconst 0, .invokevirtual 171, .iconst 2, .invokevirtual 184, .iload 9, .if_icmp .ne 612, .aload 1, .iload 18, .iconst 1, .iconst 0, .invokevirtual 184, .iconst 1, .if_icmp .ge 614, .iconst 0, .ireturn, .aload 1, .invokevirtual 187, .istore 19, .aload 1, .invokevirtual 188, .istore 20, .iload 19, .ifCond .ge 626, .iload 11, .iload 12, .iadd, .ifCond .eq 643, .iload 20, .iload 7, .iconst (-1), .ixor, .iand, .ifCond .ne 643, .iload 20, .ifCond .ne 636, .iconst 1, .goto 637, .iconst 0, .iload 11, .ifCond .ne 641, .iconst 1, .goto 642, .iconst 0, .if_icmp .eq 645, .iconst 0, .ireturn, .iconst 0, .istore 21, .iload 21, .iload 4, .if_icmp .ge 673, .iload 19, .ifCond .le 673, .iload 19, .iload 21, .ishr, .iconst 1, .iand, .iconst 1, .if_icmp .ne 671, .aload 3, .getfield 1206, .iload 21, .baload, .ifCond .eq 669, .aload 1, .iload 21, .iconst 0, .invokevirtual 171, .ifCond .lt 671, .iconst 0, .ireturn, .iinc 21 1, .goto 647, .iinc 5 1, .goto 30, .iconst 1, .ireturn]
def zv_189 : List (Nat × List Bool) := [(18, [true, true, true, true, false, false, false, false, false, false, false, false, false, false, false, false, false, false, false, false, false, false, false, false, false]), (25, [true, true, false, true, false, false, false, false, false, false, false, false, false, false, false, false, false, false, false, false, false, false, false, false, false]), (30, [true, true, false, true, true, true, false, false, false, false, false, false, false, false, false, false, false, false, false, false, false, false, false, false, false]), (78, [true, true, false, true, true, true, true, true, true, true, true, false, false, false, false, false, false, false, false, false, false, false, false, false, false]), (119, [true, true, false, true, true, true, true, true, true, false, true, false, false, false, false, false, false, false, false, false, false, false, false, false, false]), (120, [true, true, false, true, true, true, true, true, true, false, true, false, false, false, false, false, false, false, false, false, false, false, false, false, false]), (124, [true, true, false, true, true, true, true, true, true, true, false, false, false, false, false, false, false, false, false, false, false, false, false, false, false]), (145, [true, true, false, true, true, true, true, true, true, true, false, false, false, false, false, false, false, false, false, false, false, false, false, false, false]), (146, [true, true, false, true, true, true, true, true, true, true, false, false, false, false, false, false, false, false, false, false, false, false, false, false, false]), (147, [false, false, false, false, false, false, false, false, false, false, false, false, false, false, false, false, false, false, false, false, false, false, false, false, false]), (149, [true, true, false, true, true, true, true, true, true, true, false, false, false, false, false, false, false, false, false, false, false, false, false, false, false]), (154, [true, true, false, true, true, true, true, true, true, true, true, true, false, false, false, false, false, false, false, false, false, false, false, false, false]), (171, [true, true, false, true, true, true, true, true, true, true, true, false, false, false, false, false, false, false, false, false, false, false, false, false, false]), (181, [true, true, false, true, true, true, true, true, true, true, true, true, true, true, true, true, false, false, false, false, false, false, false, false, false]), (193, [true, true, false, true, true, true, true, true, true, true, true, true, true, true, true, true, false, false, false, false, false, false, false, false, false]), (194, [true, true, false, true, true, true, true, true, true, true, true, true, true, true, true, true, false, false, false, false, false, false, false, false, false]), (216, [true, true, false, true, true, true, true, true, true, true, true, true, true, true, true, true, true, true, false, false, false, false, false, false, false]), (218, [true, true, false, true, true, true, true, true, true, true, true, true, true, true, true, true, true, true, false, false, false, false, false, false, false]), (219, [true, true, false, true, true, true, true, true, true, true, true, true, true, true, true, true, true, true, false, false, false, false, false, false, false]), (224, [true, true, false, true, true, true, true, true, true, true, true, true, true, true, true, true, true, true, true, true, true, false, false, false, false]), (249, [true, true, false, true, true, true, true, true, true, true, true, true, true, true, true, true, true, true, true, false, true, false, false, false, false]), (251, [true, true, false, true, true, true, true, true, true, true, true, true, true, true, true, true, true, true, true, false, true, false, false, false, false]), (252, [true, true, false, true, true, true, true, true, true, true, true, true, true, true, true, true, true, true, true, false, true, false, false, false, false]), (255, [true, true, false, true, true, true, true, true, true, true, true, true, true, true, true, true, true, true, true, true, false, false, false, false, false]), (264, [true, true, false, true, true, true, true, true, true, true, true, true, true, true, true, true, true, true, false, true, false, false, false, false, false]), (266, [true, true, false, true, true, true, true, true, true, true, true, true, true, true, true, true, true, true, false, true, false, false, false, false, false]), (267, [true, true, false, true, true, true, true, true, true, true, true, true, true, true, true, true, true, true, false, true, false, false, false, false, false]), (274, [false, false, false, false, false, false, false, false, false, false, false, false, false, false, false, false, false, false, false, false, false, false, false, false, false]), (276, [true, true, false, true, true, true, true, true, true, true, true, true, true, true, true, true, true, false, false, false, false, false, false, false, false]), (286, [true, true, false, true, true, true, true, true, true, true, true, true, true, true, true, true, true, false, false, false, true, false, false, false, false]), (287, [true, true, false, true, true, true, true, true, true, true, true, true, true, true, true, true, true, false, false, false, true, false, false, false, false]), (298, [false, false, false, false, false, false, false, false, false, false, false, false, false, false, false, false, false, false, false, false, false, false, false, false, false]), (300, [true, true, false, true, true, true, true, true, true, true, true, true, true, true, true, true, true, false, false, false, true, false, false, false, false]), (303, [true, true, false, true, true, true, true, true, true, true, true, true, true, true, true, true, false, false, false, false, true, false, false, false, false]), (315, [true, true, false, true, true, true, true, true, true, true, true, true, true, true, false, true, false, false, false, false, true, false, false, false, false]), (316, [true, true, false, true, true, true, true, true, true, true, true, true, true, true, false, true, false, false, false, false, true, false, false, false, false]), (329, [true, true, false, true, true, true, true, true, true, true, true, true, true, true, true, true, false, false, false, false, true, true, true, true, false]), (346, [true, true, false, true, true, true, true, true, true, true, true, true, true, true, true, true, false, false, false, false, true, false, false, false, false]), (356, [true, true, false, true, true, true, true, true, true, true, true, true, true, true, true, true, false, false, false, false, true, true, true, true, false]), (375, [true, true, false, true, true, true, true, true, true, true, true, true, true, true, true, true, false, false, false, false, true, false, false, false, false]), (385, [true, true, false, true, true, true, true, true, true, true, true, true, true, true, true, true, false, false, false, false, true, true, true, true, false]), (401, [true, true, false, true, true, true, true, true, true, true, true, true, true, false, true, true, false, false, false, false, true, true, true, true, false]), (402, [true, true, false, true, true, true, true, true, true, true, true, true, true, false, true, true, false, false, false, false, true, true, true, true, false]), (406, [true, true, false, true, true, true, true, true, true, true, true, true, true, true, true, true, false, false, false, false, false, false, false, false, false]), (408, [true, true, false, true, true, true, true, true, true, true, true, true, true, true, true, false, false, false, false, false, false, false, false, false, false]), (435, [false, false, false, false, false, false, false, false, false, false, false, false, false, false, false, false, false, false, false, false, false, false, false, false, false]), (437, [true, true, false, true, true, true, true, true, true, true, true, true, true, false, false, false, false, false, false, false, false, false, false, false, false]), (443, [true, true, false, true, true, true, true, true, true, true, true, true, true, false, false, true, true, true, false, false, false, false, false, false, false]), (465, [true, true, false, true, true, true, true, true, true, true, true, true, true, false, false, true, true, true, true, true, false, false, false, false, false]), (466, [true, true, false, true, true, true, true, true, true, true, true, true, true, false, false, true, true, true, true, true, false, false, false, false, false]), (473, [true, true, false, true, true, true, true, true, true, true, true, true, true, false, false, true, true, true, true, true, false, false, false, false, false]), (474, [true, true, false, true, true, true, true, true, true, true, true, true, true, false, false, true, true, true, true, true, false, false, false, false, false]), (486, [false, false, false, false, false, false, false, false, false, false, false, false, false, false, false, false, false, false, false, false, false, false, false, false, false]), (488, [true, true, false, true, true, true, true, true, true, true, true, true, true, false, false, true, true, true, true, true, false, false, false, false, false]), (493, [true, true, false, true, true, true, true, true, true, true, true, true, true, false, false, false, true, true, true, true, false, false, false, false, false]), (494, [true, true, false, true, true, true, true, true, true, true, true, true, true, false, false, false, true, true, true, true, false, false, false, false, false]), (503, [true, true, false, true, true, true, true, true, true, true, true, true, true, false, false, true, false, true, false, false, false, false, false, false, false]), (504, [true, true, false, true, true, true, true, true, true, true, true, true, true, false, false, true, false, true, false, false, false, false, false, false, false]), (508, [true, true, false, true, true, true, true, true, true, true, true, true, true, false, false, true, true, false, false, false, false, false, false, false, false]), (523, [false, false, false, false, false, false, false, false, false, false, false, false, false, false, false, false, false, false, false, false, false, false, false, false, false]), (525, [true, true, false, true, true, true, true, true, true, true, true, true, true, false, false, false, false, false, false, false, false, false, false, false, false]), (529, [true, true, false, true, true, true, true, true, true, true, true, true, true, false, false, false, false, true, true, false, false, false, false, false, false]), (541, [true, true, false, true, true, true, true, true, true, true, true, true, true, false, false, false, false, true, true, false, false, false, false, false, false]), (549, [true, true, false, true, true, true, true, true, true, true, false, true, true, false, false, false, false, true, false, false, false, false, false, false, false]), (560, [true, true, false, true, true, true, true, true, true, true, false, true, true, false, false, false, false, true, false, false, false, false, false, false, false]), (565, [true, true, false, true, true, true, true, true, true, true, false, true, true, false, false, false, false, true, false, false, false, false, false, false, false]), (567, [false, false, false, false, false, false, false, false, false, false, false, false, false, false, false, false, false, false, false, false, false, false, false, false, false]), (569, [true, true, false, true, true, true, true, true, true, true, false, true, true, false, false, false, false, true, false, false, false, false, false, false, false]), (612, [false, false, false, false, false, false, false, false, false, false, false, false, false, false, false, false, false, false, false, false, false, false, false, false, false]), (614, [true, true, false, true, true, true, false, true, false, false, false, true, true, false, false, false, false, false, false, false, false, false, false, false, false]), (626, [true, true, false, true, true, true, false, true, false, false, false, true, false, false, false, false, false, false, false, true, true, false, false, false, false]), (636, [true, true, false, true, true, true, false, false, false, false, false, true, false, false, false, false, false, false, false, true, false, false, false, false, false]), (637, [true, true, false, true, true, true, false, false, false, false, false, true, false, false, false, false, false, false, false, true, false, false, false, false, false]), (641, [true, true, false, true, true, true, false, false, false, false, false, false, false, false, false, false, false, false, false, true, false, false, false, false, false]), (642, [true, true, false, true, true, true, false, false, false, false, false, false, false, false, false, false, false, false, false, true, false, false, false, false, false]), (643, [false, false, false, false, false, false, false, false, false, false, false, false, false, false, false, false, false, false, false, false, false, false, false, false, false]), (645, [true, true, false, true, true, true, false, false, false, false, false, false, false, false, false, false, false, false, false, true, false, false, false, false, false]), (647, [true, true, false, true, true, true, false, false, false, false, false, false, false, false, false, false, false, false, false, true, false, true, false, false, false]), (669, [false, false, false, false, false, false, false, false, false, false, false, false, false, false, false, false, false, false, false, false, false, false, false, false, false]), (671, [true, true, false, true, true, true, false, false, false, false, false, false, false, false, false, false, false, false, false, true, false, true, false, false, false]), (673, [true, true, false, true, true, true, false, false, false, false, false, false, false, false, false, false, false, false, false, false, false, false, false, false, false]), (675, [false, false, false, false, false, false, false, false, false, false, false, false, false, false, false, false, false, false, false, false, false, false, false, false, false])]
def z_codes : List (List Instr) := [zc_0, zc_1, zc_2, zc_3, zc_4, zc_5, zc_6, zc_7, zc_8, zc_9, zc_10, zc_11, zc_12, zc_13, zc_14, zc_15, zc_16, zc_17, zc_18, zc_19, zc_20, zc_21, zc_22, zc_23, zc_24, zc_25, zc_26, zc_27, zc_28, zc_29, zc_30, zc_31, zc_32, zc_33, zc_34, zc_35, zc_36, zc_37, zc_38, zc_39, zc_40, zc_41, zc_42, zc_43, zc_44, zc_45, zc_46, zc_47, zc_48, zc_49, zc_50, zc_51, zc_52, zc_53, zc_54, zc_55, zc_56, zc_57, zc_58, zc_59, zc_60, zc_61, zc_62, zc_63, zc_64, zc_65, zc_66, zc_67, zc_68, zc_69, zc_70, zc_71, zc_72, zc_73, zc_74, zc_75, zc_76, zc_77, zc_78, zc_79, zc_80, zc_81, zc_82, zc_83, zc_84, zc_85, zc_86, zc_87, zc_88, zc_89, zc_90, zc_91, zc_92, zc_93, zc_94, zc_95, zc_96, zc_97, zc_98, zc_99, zc_100, zc_101, zc_102, zc_103, zc_104, zc_105, zc_106, zc_107, zc_108, zc_109, zc_110, zc_111, zc_112, zc_113, zc_114, zc_115, zc_116, zc_117, zc_118, zc_119, zc_120, zc_121, zc_122, zc_123, zc_124, zc_125, zc_126, zc_127, zc_128, zc_129, zc_130, zc_131, zc_132, zc_133, zc_134, zc_135, zc_136, zc_137, zc_138, zc_139, zc_140, zc_141, zc_142, zc_143, zc_144, zc_145, zc_146, zc_147, zc_148, zc_149, zc_150, zc_151, zc_152, zc_153, zc_154, zc_155, zc_156, zc_157, zc_158, zc_159, zc_160, zc_161, zc_162, zc_163, zc_164, zc_165, zc_166, zc_167, zc_168, zc_169, zc_170, zc_171, zc_172, zc_173, zc_174, zc_175, zc_176, zc_177, zc_178, zc_179, zc_180, zc_181, zc_182, zc_183, zc_184, zc_185, zc_186, zc_187, zc_188, zc_189]
def z_lives : List (List (Nat × List Bool)) := [zv_0, zv_1, zv_2, zv_3, zv_4, zv_5, zv_6, zv_7, zv_8, zv_9, zv_10, zv_11, zv_12, zv_13, zv_14, zv_15, zv_16, zv_17, zv_18, zv_19, zv_20, zv_21, zv_22, zv_23, zv_24, zv_25, zv_26, zv_27, zv_28, zv_29, zv_30, zv_31, zv_32, zv_33, zv_34, zv_35, zv_36, zv_37, zv_38, zv_39, zv_40, zv_41, zv_42, zv_43, zv_44, zv_45, zv_46, zv_47, zv_48, zv_49, zv_50, zv_51, zv_52, zv_53, zv_54, zv_55, zv_56, zv_57, zv_58, zv_59, zv_60, zv_61, zv_62, zv_63, zv_64, zv_65, zv_66, zv_67, zv_68, zv_69, zv_70, zv_71, zv_72, zv_73, zv_74, zv_75, zv_76, zv_77, zv_78, zv_79, zv_80, zv_81, zv_82, zv_83, zv_84, zv_85, zv_86, zv_87, zv_88, zv_89, zv_90, zv_91, zv_92, zv_93, zv_94, zv_95, zv_96, zv_97, zv_98, zv_99, zv_100, zv_101, zv_102, zv_103, zv_104, zv_105, zv_106, zv_107, zv_108, zv_109, zv_110, zv_111, zv_112, zv_113, zv_114, zv_115, zv_116, zv_117, zv_118, zv_119, zv_120, zv_121, zv_122, zv_123, zv_124, zv_125, zv_126, zv_127, zv_128, zv_129, zv_130, zv_131, zv_132, zv_133, zv_134, zv_135, zv_136, zv_137, zv_138, zv_139, zv_140, zv_141, zv_142, zv_143, zv_144, zv_145, zv_146, zv_147, zv_148, zv_149, zv_150, zv_151, zv_152, zv_153, zv_154, zv_155, zv_156, zv_157, zv_158, zv_159, zv_160, zv_161, zv_162, zv_163, zv_164, zv_165, zv_166, zv_167, zv_168, zv_169, zv_170, zv_171, zv_172, zv_173, zv_174, zv_175, zv_176, zv_177, zv_178, zv_179, zv_180, zv_181, zv_182, zv_183, zv_184, zv_185, zv_186, zv_187, zv_188, zv_189]
def z_code (k : Nat) : List Instr := z_codes.getD k []
def z_lv (k : Nat) : List (Nat × List Bool) := z_lives.getD k []
def z_ml (k : Nat) : Nat := [1, 1, 1, 2, 1, 1, 1, 2, 2, 2, 1, 2, 1, 1, 2, 2, 1, 1, 2, 4, 6, 2, 3, 3, 2, 4, 3, 3, 2, 1, 1, 2, 2, 1, 1, 1, 2, 5, 3, 5, 2, 1, 2, 4, 7, 4, 2, 7, 1, 9, 7, 9, 8, 3, 2, 5, 2, 7, 1, 2, 2, 3, 6, 2, 2, 4, 1, 1, 4, 4, 4, 4, 4, 8, 4, 5, 8, 3, 1, 2, 2, 2, 1, 1, 3, 4, 1, 1, 4, 4, 5, 5, 1, 4, 4, 4, 3, 2, 3, 3, 2, 2, 2, 5, 4, 2, 4, 3, 3, 2, 2, 5, 5, 2, 4, 1, 2, 3, 3, 4, 3, 3, 3, 3, 2, 1, 2, 3, 5, 2, 2, 1, 2, 4, 7, 2, 2, 2, 3, 5, 5, 8, 1, 4, 2, 6, 4, 6, 7, 5, 2, 6, 4, 1, 2, 3, 4, 8, 4, 6, 5, 5, 2, 5, 2, 4, 2, 2, 4, 2, 4, 3, 1, 4, 2, 2, 3, 3, 2, 3, 3, 4, 2, 2, 4, 5, 4, 7, 6, 25].getD k 0
/-- how many arguments (the one called among them) -/
def z_na (k : Nat) : Nat := [1, 1, 1, 1, 1, 1, 1, 2, 2, 2, 1, 2, 1, 1, 2, 2, 1, 1, 2, 3, 2, 2, 2, 2, 2, 4, 3, 2, 2, 1, 1, 2, 2, 1, 1, 1, 2, 3, 3, 3, 2, 1, 2, 1, 3, 2, 2, 4, 1, 4, 3, 4, 3, 3, 2, 2, 2, 1, 1, 2, 2, 2, 6, 2, 2, 2, 1, 1, 2, 2, 2, 2, 3, 4, 3, 3, 3, 3, 1, 2, 2, 2, 1, 1, 3, 3, 1, 1, 3, 2, 2, 2, 1, 2, 2, 2, 2, 2, 2, 1, 1, 2, 2, 2, 2, 2, 2, 1, 1, 2, 2, 3, 4, 2, 2, 1, 2, 3, 3, 3, 2, 2, 3, 1, 2, 1, 1, 1, 5, 2, 2, 1, 2, 3, 2, 2, 2, 2, 3, 3, 4, 3, 1, 3, 2, 3, 2, 3, 5, 2, 2, 4, 2, 1, 2, 3, 4, 5, 4, 4, 2, 5, 1, 2, 2, 3, 2, 2, 3, 2, 3, 3, 1, 2, 2, 2, 3, 3, 2, 3, 3, 2, 2, 1, 4, 2, 2, 1, 1, 1].getD k 0
/-- what is answered: 0 nothing, 1 a number, 2 a reference, 3 a double -/
def z_rt (k : Nat) : Nat := [0, 0, 0, 0, 0, 0, 0, 0, 0, 0, 0, 0, 0, 0, 1, 1, 1, 1, 1, 1, 1, 1, 2, 0, 0, 0, 0, 2, 2, 1, 1, 2, 2, 2, 1, 1, 0, 2, 2, 0, 0, 2, 2, 1, 1, 2, 2, 2, 0, 2, 0, 0, 2, 1, 0, 1, 1, 1, 1, 1, 1, 0, 1, 1, 1, 1, 1, 1, 1, 1, 1, 1, 1, 2, 2, 1, 0, 0, 0, 2, 1, 1, 1, 0, 1, 1, 2, 1, 1, 1, 1, 1, 1, 1, 1, 1, 1, 1, 1, 1, 1, 1, 0, 1, 1, 1, 1, 1, 1, 1, 1, 1, 1, 1, 1, 1, 1, 0, 0, 1, 1, 1, 1, 1, 1, 0, 0, 0, 0, 2, 1, 1, 0, 0, 0, 0, 1, 0, 1, 0, 0, 0, 1, 1, 1, 1, 1, 0, 0, 0, 1, 0, 0, 0, 1, 1, 0, 0, 0, 0, 0, 0, 1, 1, 1, 1, 1, 1, 1, 1, 1, 1, 1, 1, 1, 1, 1, 1, 1, 1, 1, 1, 1, 3, 1, 1, 1, 1, 1, 1].getD k 0
/-- the kind of the one called -/
def z_rk (k : Nat) : Nat := [4, 5, 6, 3, 2, 8, 9, 11, 10, 7, 1, 13, 13, 12, 0, 0, 14, 14, 0, 0, 13, 0, 0, 13, 13, 14, 13, 13, 13, 13, 0, 13, 13, 13, 13, 13, 0, 0, 0, 14, 14, 13, 0, 0, 0, 13, 13, 0, 15, 0, 0, 0, 0, 0, 0, 13, 13, 0, 14, 0, 14, 1, 1, 1, 4, 4, 0, 0, 4, 4, 4, 4, 4, 4, 4, 4, 4, 2, 5, 4, 3, 3, 3, 6, 3, 5, 3, 16, 3, 3, 3, 3, 0, 3, 3, 3, 3, 4, 3, 3, 3, 3, 5, 3, 3, 3, 3, 3, 3, 4, 4, 4, 2, 2, 2, 0, 2, 4, 0, 2, 2, 2, 2, 2, 2, 11, 10, 1, 9, 5, 5, 9, 11, 9, 11, 9, 9, 9, 0, 9, 9, 9, 9, 0, 0, 2, 0, 10, 7, 7, 0, 7, 7, 8, 7, 0, 8, 7, 7, 7, 7, 7, 1, 0, 1, 1, 1, 1, 1, 1, 1, 1, 7, 2, 1, 1, 8, 1, 1, 7, 1, 8, 1, 1, 1, 2, 2, 1, 1, 0].getD k 0
/-- what a number that is answered must be: 1 zero or one, 2 a sign, 3 a byte -/
def z_nr (k : Nat) : Nat := [0, 0, 0, 0, 0, 0, 0, 0, 0, 0, 0, 0, 0, 0, 0, 0, 3, 0, 0, 0, 0, 0, 0, 0, 0, 0, 0, 0, 0, 1, 1, 0, 0, 0, 0, 0, 0, 0, 0, 0, 0, 0, 0, 0, 0, 0, 0, 0, 0, 0, 0, 0, 0, 0, 0, 2, 2, 1, 1, 2, 2, 0, 0, 0, 0, 0, 1, 1, 0, 0, 0, 0, 1, 0, 0, 0, 0, 0, 0, 0, 1, 1, 1, 0, 1, 0, 0, 0, 1, 1, 1, 1, 1, 1, 1, 1, 1, 0, 1, 1, 1, 1, 0, 1, 1, 1, 1, 1, 1, 0, 0, 1, 0, 0, 0, 0, 0, 0, 0, 0, 0, 0, 0, 0, 0, 0, 0, 0, 0, 0, 0, 0, 0, 0, 0, 0, 0, 0, 0, 0, 0, 0, 1, 0, 1, 0, 0, 0, 0, 0, 0, 0, 0, 0, 0, 1, 0, 0, 0, 0, 0, 0, 0, 0, 1, 0, 1, 0, 0, 0, 0, 0, 0, 0, 0, 0, 0, 0, 0, 0, 0, 0, 0, 0, 0, 0, 1, 0, 0, 1].getD k 0
/-- how many elements an object of a class costs -/
def z_sl (k : Nat) : Nat := [0, 14, 12, 6, 7, 3, 11, 10, 4, 8, 7, 2, 28, 4, 4, 5, 0].getD k 0
/-- what a field holds: 0 a reference, 1 a number, 2 zero or one -/
def z_ft (n : Nat) : Nat := bif [100, 103, 104, 105, 108, 109, 110, 111, 112, 113, 200, 201, 202, 203, 204, 205, 206, 300, 301, 302, 303, 400, 402, 403, 404, 405, 500, 501, 700, 701, 702, 705, 706, 707, 708, 709, 800, 801, 802, 900, 901, 902, 903, 904, 906, 1002, 1003, 1004, 1005, 1006, 1100, 1203, 1204, 1205, 1206, 1207, 1208, 1209, 1210, 1211, 1212, 1213, 1214, 1215, 1216, 1217, 1218, 1219, 1220, 1223, 1224, 1225, 1226, 1300, 1400, 1503, 1504, 1601].elem n then 0 else bif [600, 1301, 1302, 1401].elem n then 2 else 1
end
section
/-! A PICTURE OF THE HEAP, and what a run of linked code asks of it (no machine here).
Addresses: 0 is null; below 1000 constants (never written); from 1000 on what the run makes, in the order of making.
A picture: (next address, elements used, kind of each, length of each, numbers, references). Kind 0: nothing is known. -/
abbrev PH : Type := Nat × Nat × (Nat → Nat) × (Nat → Nat) × (Nat → Nat → Int32) × (Nat → Nat → Nat)
def p_nx (h : PH) : Nat := h.1
def p_us (h : PH) : Nat := h.2.1
def p_kd (h : PH) : Nat → Nat := h.2.2.1
def p_ln (h : PH) : Nat → Nat := h.2.2.2.1
def p_im (h : PH) : Nat → Nat → Int32 := h.2.2.2.2.1
def p_rm (h : PH) : Nat → Nat → Nat := h.2.2.2.2.2
/-- a number is written -/
def p_wi (h : PH) (a i : Nat) (v : Int32) : PH := (p_nx h, p_us h, p_kd h, p_ln h, (fun x j => if x = a ∧ j = i then v else p_im h x j), p_rm h)
/-- a reference is written -/
def p_wr (h : PH) (a i : Nat) (v : Nat) : PH := (p_nx h, p_us h, p_kd h, p_ln h, p_im h, (fun x j => if x = a ∧ j = i then v else p_rm h x j))
/-- something is made: its kind, its length, how many elements it costs -/
def p_new (h : PH) (k n u : Nat) : PH := (p_nx h + 1, p_us h + u, (fun x => if x = p_nx h then k else p_kd h x), (fun x => if x = p_nx h then n else p_ln h x), (fun x j => if x = p_nx h then 0 else p_im h x j), (fun x j => if x = p_nx h then 0 else p_rm h x j))
/-- bytes are copied -/
def p_cp (h : PH) (s sp d dp n : Nat) : PH := (p_nx h, p_us h, p_kd h, p_ln h, (fun x j => if x = d ∧ dp ≤ j ∧ j < dp + n then p_im h s (sp + (j - dp)) else p_im h x j), p_rm h)
/-- a row of numbers is as another one -/
def p_cl (h : PH) (d s : Nat) : PH := (p_nx h, p_us h, p_kd h, p_ln h, (fun x j => if x = d then p_im h s j else p_im h x j), p_rm h)
/-- the room of the whole run -/
def p_CN : Nat := 601086
def p_CS : Nat := 7301442
/-- the kinds of rows: of numbers, of bytes, of truth values, of references -/
def p_kI (k : Nat) : Bool := Nat.ble 100 k && Nat.ble k 119
def p_kB (k : Nat) : Bool := Nat.ble 120 k && Nat.ble k 299
def p_kZ (k : Nat) : Bool := Nat.beq k 300
def p_kR (k : Nat) : Bool := Nat.ble 310 k && Nat.ble k 329
/-- the kind of what a row of references holds -/
def p_el (k : Nat) : Nat := match k with
  | 310 => 16
  | 311 => 16
  | 312 => 6
  | 313 => 15
  | 314 => 100
  | 315 => 313
  | _ => 0
def p_in (j : Int32) (n : Nat) : Prop := 0 ≤ j.toInt ∧ j.toNatClampNeg < n
def onI (v : Option Value) (f : Int32 → Prop) : Prop := match v with
  | some (.int x) => f x
  | _ => False
def onR (v : Option Value) (f : Nat → Prop) : Prop := match v with
  | some (.ref x) => f x
  | _ => False
def onD (v : Option Value) (f : UInt64 → Prop) : Prop := match v with
  | some (.double x) => f x
  | _ => False
def onV (v : Option Value) (f : Prop) : Prop := match v with
  | none => f
  | _ => False
def t_I (st : List Value) (f : Int32 → List Value → Prop) : Prop := match st with
  | .int x :: r => f x r
  | _ => False
def t_II (st : List Value) (f : Int32 → Int32 → List Value → Prop) : Prop := match st with
  | .int y :: .int x :: r => f x y r
  | _ => False
def t_L (st : List Value) (f : Int64 → List Value → Prop) : Prop := match st with
  | .long x :: r => f x r
  | _ => False
def t_LL (st : List Value) (f : Int64 → Int64 → List Value → Prop) : Prop := match st with
  | .long y :: .long x :: r => f x y r
  | _ => False
def t_D (st : List Value) (f : UInt64 → List Value → Prop) : Prop := match st with
  | .double x :: r => f x r
  | _ => False
def t_DD (st : List Value) (f : UInt64 → UInt64 → List Value → Prop) : Prop := match st with
  | .double y :: .double x :: r => f x y r
  | _ => False
def t_R (st : List Value) (f : Nat → List Value → Prop) : Prop := match st with
  | .ref x :: r => f x r
  | _ => False
def t_RR (st : List Value) (f : Nat → Nat → List Value → Prop) : Prop := match st with
  | .ref y :: .ref x :: r => f x y r
  | _ => False
def t_RI (st : List Value) (f : Nat → Int32 → List Value → Prop) : Prop := match st with
  | .int j :: .ref a :: r => f a j r
  | _ => False
def t_RII (st : List Value) (f : Nat → Int32 → Int32 → List Value → Prop) : Prop := match st with
  | .int v :: .int j :: .ref a :: r => f a j v r
  | _ => False
def t_RIR (st : List Value) (f : Nat → Int32 → Nat → List Value → Prop) : Prop := match st with
  | .ref v :: .int j :: .ref a :: r => f a j v r
  | _ => False
def t_V1 (st : List Value) (f : Value → List Value → Prop) : Prop := match st with
  | .int v :: r => f (.int v) r
  | .ref v :: r => f (.ref v) r
  | _ => False
def t_cp (st : List Value) (f : Nat → Int32 → Nat → Int32 → Int32 → List Value → Prop) : Prop := match st with
  | .int n :: .int dp :: .ref d :: .int sp :: .ref s :: r => f s sp d dp n r
  | _ => False
def l_I (ls : List Slot) (k : Nat) (f : Int32 → Prop) : Prop := match ls[k]? with
  | some (.val (.int x)) => f x
  | _ => False
def l_L (ls : List Slot) (k : Nat) (f : Int64 → Prop) : Prop := match ls[k]? with
  | some (.val (.long x)) => f x
  | _ => False
def l_D (ls : List Slot) (k : Nat) (f : UInt64 → Prop) : Prop := match ls[k]? with
  | some (.val (.double x)) => f x
  | _ => False
def l_R (ls : List Slot) (k : Nat) (f : Nat → Prop) : Prop := match ls[k]? with
  | some (.val (.ref x)) => f x
  | _ => False
/-- the place ahead of k holds nothing of two places -/
def l_1 (ls : List Slot) : Nat → Bool
  | 0 => true
  | k + 1 => match ls[k]? with
    | some (.val (.long _)) => false
    | some (.val (.double _)) => false
    | some .second => false
    | _ => true
/-- what a look at the code shows -/
def l_ok (b : Bool) (P : Prop) : Prop := match b with
  | true => P
  | false => False
def l_if (b : Bool) (P Q : Prop) : Prop := match b with
  | true => P
  | false => Q
/-- one place is written -/
def l_s1 (ls : List Slot) (k : Nat) (v : Value) : List Slot := ls.set k (.val v)
/-- two places are written -/
def l_s2 (ls : List Slot) (k : Nat) (v : Value) : List Slot := (ls.set k (.val v)).set (k + 1) .unset
/-- a branch -/
def b_if (c : Jvm.ClassFile.Cond) (x : Int32) (A B : Prop) : Prop := match c with
  | .eq => if x = 0 then A else B
  | .ne => if x = 0 then B else A
  | .lt => if x < 0 then A else B
  | .ge => if x < 0 then B else A
  | .gt => if 0 < x then A else B
  | .le => if 0 < x then B else A
def b_ic (c : Jvm.ClassFile.Cond) (x y : Int32) (A B : Prop) : Prop := match c with
  | .eq => if x = y then A else B
  | .ne => if x = y then B else A
  | .lt => if x < y then A else B
  | .ge => if x < y then B else A
  | .gt => if y < x then A else B
  | .le => if y < x then B else A
def b_ac (c : Jvm.ClassFile.ACond) (x y : Nat) (A B : Prop) : Prop := match c with
  | .eq => if x = y then A else B
  | .ne => if x = y then B else A
/-- a switch -/
def b_sw (x : Int32) (K : Nat → Prop) (dflt : Nat) : Int → List Int → Prop
  | _, [] => K dflt
  | lo, o :: r => if x = Int32.ofInt lo then K o.toNat else b_sw x K dflt (lo + 1) r
/-- what is known of the places behind a jump: those that are read there -/
def l_keep : List Bool → List Slot → List Slot
  | true :: m, x :: l => x :: l_keep m l
  | false :: m, _ :: l => .unset :: l_keep m l
  | _, _ => []
def l_look (k : Nat) : List (Nat × List Bool) → List Slot → List Slot
  | [], ls => ls
  | (a, m) :: r, ls => bif Nat.beq a k then l_keep m ls else l_look k r ls
/-- the places at a method's entry -/
def l_ent (n : Nat) (as : List Value) : List Slot := as.map Slot.val ++ List.replicate (n - as.length) .unset
/-- what a method answers, on the stack -/
def r_on (t : Nat) (v : Option Value) (st : List Value) (K : List Value → Prop) : Prop := match t with
  | 0 => onV v (K st)
  | 1 => onI v (fun x => K (.int x :: st))
  | 2 => onR v (fun x => K (.ref x :: st))
  | _ => onD v (fun x => K (.double x :: st))
/-- how many places a stack takes -/
def c_sum (st : List Value) : Nat := (st.map fun v => v.category).sum
/-- a call: the arguments are taken from the stack -/
def c_do (k : Nat) (st : List Value) (Cl : Nat → List Value → (Option Value → PH → Prop) → Prop) (K : List Value → PH → Prop) : Prop :=
  l_ok (Nat.ble (z_na k) st.length && Nat.ble (c_sum (st.drop (z_na k))) 8 && (st.take (z_na k)).all (fun v => Nat.beq v.category 1)) (Cl k (st.take (z_na k)).reverse (fun v h1 => r_on (z_rt k) v (st.drop (z_na k)) (fun st1 => K st1 h1)))
/-- the one that is called: an object of the method's own kind -/
def c_rcv (k : Nat) (st : List Value) (h : PH) : Prop := match (st.take (z_na k)).reverse with
  | .ref a :: _ => p_kd h a = z_rk k ∧ ¬ a = 0
  | _ => False
/-- the one that is made: no null -/
def c_ini (k : Nat) (st : List Value) : Prop := match (st.take (z_na k)).reverse with
  | .ref a :: _ => 1000 ≤ a
  | _ => False
/-- a field is read, by what it holds -/
def f_get (t : Nat) (h : PH) (x j : Nat) : Value := match t with
  | 0 => .ref (p_rm h x j)
  | _ => .int (p_im h x j)
/-- a field is written -/
def f_put (t n : Nat) (st : List Value) (h : PH) (K : List Value → PH → Prop) : Prop := match t with
  | 0 => t_RR st (fun x v r => (p_kd h x = n / 100 ∧ 1000 ≤ x) ∧ K r (p_wr h x (n % 100) v))
  | 1 => t_RI st (fun x v r => (p_kd h x = n / 100 ∧ 1000 ≤ x) ∧ K r (p_wi h x (n % 100) v))
  | _ => t_RI st (fun x v r => ((p_kd h x = n / 100 ∧ 1000 ≤ x) ∧ (v = 0 ∨ v = 1)) ∧ K r (p_wi h x (n % 100) v))
/-- the kind of a row that is made -/
def a_new (t : Jvm.ClassFile.ArrayType) (K : Nat → Prop) : Prop := match t with
  | .int => K 100
  | .byte => K 120
  | .boolean => K 300
  | _ => False
/-- one instruction (jumps to places in the list of instructions; fields, methods, constants by the numbers of the tables) -/
def sm (i : Instr) (pc : Nat) (ls : List Slot) (st : List Value) (h : PH) (K : Nat → List Slot → List Value → PH → Prop) (Rt : Option Value → PH → Prop) (Cl : Nat → List Value → PH → (Option Value → PH → Prop) → Prop) : Prop := match i with
  | .nop => K (pc + 1) ls st h
  | .iconst n => K (pc + 1) ls (.int (Int32.ofInt n) :: st) h
  | .ldc2_w n => K (pc + 1) ls (.long (Int64.ofNat n) :: st) h
  | .dconst _ => K (pc + 1) ls (.double 0 :: st) h
  | .aconst_null => K (pc + 1) ls (.ref 0 :: st) h
  | .ldc a => K (pc + 1) ls (.ref a :: st) h
  | .iload k => l_I ls k (fun x => K (pc + 1) ls (.int x :: st) h)
  | .lload k => l_L ls k (fun x => K (pc + 1) ls (.long x :: st) h)
  | .dload k => l_D ls k (fun x => K (pc + 1) ls (.double x :: st) h)
  | .aload k => l_R ls k (fun x => K (pc + 1) ls (.ref x :: st) h)
  | .istore k => t_I st (fun x r => l_ok (Nat.blt k ls.length && l_1 ls k) (K (pc + 1) (l_s1 ls k (.int x)) r h))
  | .astore k => t_R st (fun x r => l_ok (Nat.blt k ls.length && l_1 ls k) (K (pc + 1) (l_s1 ls k (.ref x)) r h))
  | .lstore k => t_L st (fun x r => l_ok (Nat.blt (k + 1) ls.length && l_1 ls k) (K (pc + 1) (l_s2 ls k (.long x)) r h))
  | .dstore k => t_D st (fun x r => l_ok (Nat.blt (k + 1) ls.length && l_1 ls k) (K (pc + 1) (l_s2 ls k (.double x)) r h))
  | .iinc k n => l_I ls k (fun x => l_ok (l_1 ls k) (K (pc + 1) (l_s1 ls k (.int (x + Int32.ofInt n))) st h))
  | .iadd => t_II st (fun x y r => K (pc + 1) ls (.int (x + y) :: r) h)
  | .isub => t_II st (fun x y r => K (pc + 1) ls (.int (x - y) :: r) h)
  | .imul => t_II st (fun x y r => K (pc + 1) ls (.int (x * y) :: r) h)
  | .iand => t_II st (fun x y r => K (pc + 1) ls (.int (x &&& y) :: r) h)
  | .ior => t_II st (fun x y r => K (pc + 1) ls (.int (x ||| y) :: r) h)
  | .ixor => t_II st (fun x y r => K (pc + 1) ls (.int (x ^^^ y) :: r) h)
  | .ishl => t_II st (fun x y r => K (pc + 1) ls (.int (x <<< (y &&& 31)) :: r) h)
  | .ishr => t_II st (fun x y r => K (pc + 1) ls (.int (x >>> (y &&& 31)) :: r) h)
  | .iushr => t_II st (fun x y r => K (pc + 1) ls (.int ((x.toUInt32 >>> (y.toUInt32 &&& Int32.toUInt32 31)).toInt32) :: r) h)
  | .idiv => t_II st (fun x y r => (¬ y = 0) ∧ K (pc + 1) ls (.int (x / y) :: r) h)
  | .irem => t_II st (fun x y r => (¬ y = 0) ∧ K (pc + 1) ls (.int (x - x / y * y) :: r) h)
  | .ineg => t_I st (fun x r => K (pc + 1) ls (.int (-x) :: r) h)
  | .i2b => t_I st (fun x r => K (pc + 1) ls (.int x.toInt8.toInt32 :: r) h)
  | .i2c => t_I st (fun x r => K (pc + 1) ls (.int (x.toUInt32 % 65536).toInt32 :: r) h)
  | .i2l => t_I st (fun x r => K (pc + 1) ls (.long x.toInt64 :: r) h)
  | .i2d => t_I st (fun x r => K (pc + 1) ls (.double (FP.i2d x) :: r) h)
  | .l2i => t_L st (fun x r => K (pc + 1) ls (.int x.toInt32 :: r) h)
  | .lneg => t_L st (fun x r => K (pc + 1) ls (.long (-x) :: r) h)
  | .ladd => t_LL st (fun x y r => K (pc + 1) ls (.long (x + y) :: r) h)
  | .ldiv => t_LL st (fun x y r => (¬ y = 0) ∧ K (pc + 1) ls (.long (x / y) :: r) h)
  | .lrem => t_LL st (fun x y r => (¬ y = 0) ∧ K (pc + 1) ls (.long (x - x / y * y) :: r) h)
  | .lcmp => t_LL st (fun x y r => K (pc + 1) ls (.int (lg_cmp x y) :: r) h)
  | .ddiv => t_DD st (fun x y r => vf_n64 (FP.ddiv x y) ∧ K (pc + 1) ls (.double (FP.ddiv x y) :: r) h)
  | .dcmp op => t_DD st (fun x y r => K (pc + 1) ls (.int (Op.cmpValue (FP.dcmp x y) op) :: r) h)
  | .dup => t_V1 st (fun v r => K (pc + 1) ls (v :: v :: r) h)
  | .pop => t_V1 st (fun _ r => K (pc + 1) ls r h)
  | .dup_x1 => t_V1 st (fun v r => t_V1 r (fun w r2 => K (pc + 1) ls (v :: w :: v :: r2) h))
  | .dup2 => t_V1 st (fun v r => t_V1 r (fun w r2 => K (pc + 1) ls (v :: w :: v :: w :: r2) h))
  | .ifCond c t => t_I st (fun x r => b_if c x (K t.toNat ls r h) (K (pc + 1) ls r h))
  | .if_icmp c t => t_II st (fun x y r => b_ic c x y (K t.toNat ls r h) (K (pc + 1) ls r h))
  | .if_acmp c t => t_RR st (fun x y r => ((x = 0 ∨ p_kd h x = 16) ∧ (y = 0 ∨ p_kd h y = 16)) ∧ b_ac c x y (K t.toNat ls r h) (K (pc + 1) ls r h))
  | .ifnull t => t_R st (fun x r => (x = 0 ∨ ¬ p_kd h x = 0) ∧ if x = 0 then K t.toNat ls r h else K (pc + 1) ls r h)
  | .ifnonnull t => t_R st (fun x r => (x = 0 ∨ ¬ p_kd h x = 0) ∧ if x = 0 then K (pc + 1) ls r h else K t.toNat ls r h)
  | .goto t => K t.toNat ls st h
  | .tableswitch dflt lo _ offs => t_I st (fun x r => b_sw x (fun t => K t ls r h) dflt.toNat lo offs.toList)
  | .getfield n => t_R st (fun x r => (p_kd h x = n / 100 ∧ ¬ x = 0) ∧ K (pc + 1) ls (f_get (z_ft n) h x (n % 100) :: r) h)
  | .putfield n => f_put (z_ft n) n st h (fun r h1 => K (pc + 1) ls r h1)
  | .new k => (p_nx h + 1 ≤ p_CN ∧ p_us h + z_sl k ≤ p_CS) ∧ K (pc + 1) ls (.ref (p_nx h) :: st) (p_new h k 0 (z_sl k))
  | .newarray t => t_I st (fun n r => (¬ n < 0 ∧ p_nx h + 1 ≤ p_CN ∧ p_us h + n.toNatClampNeg ≤ p_CS) ∧ a_new t (fun k => K (pc + 1) ls (.ref (p_nx h) :: r) (p_new h k n.toNatClampNeg n.toNatClampNeg)))
  | .anewarray k => t_I st (fun n r => (¬ n < 0 ∧ p_nx h + 1 ≤ p_CN ∧ p_us h + n.toNatClampNeg ≤ p_CS) ∧ K (pc + 1) ls (.ref (p_nx h) :: r) (p_new h k n.toNatClampNeg n.toNatClampNeg))
  | .iaload => t_RI st (fun a j r => ((p_kI (p_kd h a) = true ∧ ¬ a = 0) ∧ p_in j (p_ln h a)) ∧ K (pc + 1) ls (.int (p_im h a j.toNatClampNeg) :: r) h)
  | .baload => t_RI st (fun a j r => (((p_kB (p_kd h a) = true ∨ p_kZ (p_kd h a) = true) ∧ ¬ a = 0) ∧ p_in j (p_ln h a)) ∧ K (pc + 1) ls (.int (p_im h a j.toNatClampNeg) :: r) h)
  | .aaload => t_RI st (fun a j r => ((p_kR (p_kd h a) = true ∧ ¬ a = 0) ∧ p_in j (p_ln h a)) ∧ K (pc + 1) ls (.ref (p_rm h a j.toNatClampNeg) :: r) h)
  | .iastore => t_RII st (fun a j v r => ((p_kd h a = 100 ∧ 1000 ≤ a) ∧ p_in j (p_ln h a)) ∧ K (pc + 1) ls r (p_wi h a j.toNatClampNeg v))
  | .bastore => t_RII st (fun a j v r => ((p_kd h a = 120 ∧ 1000 ≤ a) ∧ p_in j (p_ln h a)) ∧ K (pc + 1) ls r (p_wi h a j.toNatClampNeg v.toInt8.toInt32))
  | .castore => t_RII st (fun a j v r => (((p_kd h a = 300 ∧ 1000 ≤ a) ∧ (v = 0 ∨ v = 1)) ∧ p_in j (p_ln h a)) ∧ K (pc + 1) ls r (p_wi h a j.toNatClampNeg v))
  | .aastore => t_RIR st (fun a j v r => (((p_kR (p_kd h a) = true ∧ 1000 ≤ a) ∧ (p_kd h v = p_el (p_kd h a) ∧ ¬ v = 0)) ∧ p_in j (p_ln h a)) ∧ K (pc + 1) ls r (p_wr h a j.toNatClampNeg v))
  | .arraylength => t_R st (fun a r => (Nat.ble 100 (p_kd h a) = true ∧ ¬ a = 0) ∧ K (pc + 1) ls (.int (Int32.ofNat (p_ln h a)) :: r) h)
  | .checkcast _ => t_R st (fun a r => (p_kd h a = 120 ∧ 1000 ≤ a) ∧ K (pc + 1) ls (.ref a :: r) h)
  | .invokestatic k => l_if (Nat.beq k 900) (t_cp st (fun s sp d dp n r => l_ok (Nat.ble (c_sum r) 8) ((((p_kB (p_kd h s) = true ∧ ¬ s = 0) ∧ (p_kd h d = 120 ∧ 1000 ≤ d)) ∧ (0 ≤ sp.toInt ∧ 0 ≤ dp.toInt ∧ 0 ≤ n.toInt) ∧ sp.toNatClampNeg + n.toNatClampNeg ≤ p_ln h s ∧ dp.toNatClampNeg + n.toNatClampNeg ≤ p_ln h d) ∧ K (pc + 1) ls r (p_cp h s sp.toNatClampNeg d dp.toNatClampNeg n.toNatClampNeg)))) (c_do k st (fun k a Kc => Cl k a h Kc) (fun st1 h1 => K (pc + 1) ls st1 h1))
  | .invokevirtual k => l_if (Nat.beq k 901) (t_R st (fun a r => l_ok (Nat.ble (c_sum r) 8) (((p_kd h a = 120 ∧ 1000 ≤ a) ∧ p_nx h + 1 ≤ p_CN ∧ p_us h + p_ln h a ≤ p_CS) ∧ K (pc + 1) ls (.ref (p_nx h) :: r) (p_cl (p_new h 120 (p_ln h a) (p_ln h a)) (p_nx h) a)))) (c_rcv k st h ∧ c_do k st (fun k a Kc => Cl k a h Kc) (fun st1 h1 => K (pc + 1) ls st1 h1))
  | .invokespecial k => l_if (Nat.beq k 902) (t_R st (fun a r => l_ok (Nat.ble (c_sum r) 8) (1000 ≤ a ∧ K (pc + 1) ls r h))) (c_ini k st ∧ c_do k st (fun k a Kc => Cl k a h Kc) (fun st1 h1 => K (pc + 1) ls st1 h1))
  | .ireturn => t_I st (fun x r => l_ok r.isEmpty (Rt (some (.int x)) h))
  | .areturn => t_R st (fun x r => l_ok r.isEmpty (Rt (some (.ref x)) h))
  | .dreturn => t_D st (fun x r => l_ok r.isEmpty (Rt (some (.double x)) h))
  | .return_ => l_ok st.isEmpty (Rt none h)
  | _ => False
/-- what is known at a place of a method's code -/
def l_kl (k pc : Nat) (ls : List Slot) : List Slot := l_look pc (z_lv k) ls
/-- what is answered fits its type -/
def r_ok (t : Nat) (v : Option Value) (P : Prop) : Prop := match t with
  | 0 => P
  | 1 => onI v (fun x => (x = 0 ∨ x = 1) ∧ P)
  | 2 => onI v (fun x => (x.toUInt32 % 65536).toInt32 = x ∧ P)
  | _ => onI v (fun x => x.toInt8.toInt32 = x ∧ P)
theorem l_ok_mono {b : Bool} {P Q : Prop} (h : P → Q) : l_ok b P → l_ok b Q := by cases b; exact id; exact h
theorem l_if_mono {b : Bool} {P Q P1 Q1 : Prop} (h : P → P1) (h1 : Q → Q1) : l_if b P Q → l_if b P1 Q1 := by cases b; exact h1; exact h
theorem and_mono {A P Q : Prop} (h : P → Q) : A ∧ P → A ∧ Q := fun q => ⟨q.1, h q.2⟩
theorem t_I_mono {st : List Value} {f g : Int32 → List Value → Prop} (h : ∀ x r, f x r → g x r) : t_I st f → t_I st g := by unfold t_I; split; exact h _ _; exact id
theorem t_II_mono {st : List Value} {f g : Int32 → Int32 → List Value → Prop} (h : ∀ x y r, f x y r → g x y r) : t_II st f → t_II st g := by unfold t_II; split; exact h _ _ _; exact id
theorem t_L_mono {st : List Value} {f g : Int64 → List Value → Prop} (h : ∀ x r, f x r → g x r) : t_L st f → t_L st g := by unfold t_L; split; exact h _ _; exact id
theorem t_LL_mono {st : List Value} {f g : Int64 → Int64 → List Value → Prop} (h : ∀ x y r, f x y r → g x y r) : t_LL st f → t_LL st g := by unfold t_LL; split; exact h _ _ _; exact id
theorem t_D_mono {st : List Value} {f g : UInt64 → List Value → Prop} (h : ∀ x r, f x r → g x r) : t_D st f → t_D st g := by unfold t_D; split; exact h _ _; exact id
theorem t_DD_mono {st : List Value} {f g : UInt64 → UInt64 → List Value → Prop} (h : ∀ x y r, f x y r → g x y r) : t_DD st f → t_DD st g := by unfold t_DD; split; exact h _ _ _; exact id
theorem t_R_mono {st : List Value} {f g : Nat → List Value → Prop} (h : ∀ x r, f x r → g x r) : t_R st f → t_R st g := by unfold t_R; split; exact h _ _; exact id
theorem t_RR_mono {st : List Value} {f g : Nat → Nat → List Value → Prop} (h : ∀ x y r, f x y r → g x y r) : t_RR st f → t_RR st g := by unfold t_RR; split; exact h _ _ _; exact id
theorem t_RI_mono {st : List Value} {f g : Nat → Int32 → List Value → Prop} (h : ∀ x y r, f x y r → g x y r) : t_RI st f → t_RI st g := by unfold t_RI; split; exact h _ _ _; exact id
theorem t_RII_mono {st : List Value} {f g : Nat → Int32 → Int32 → List Value → Prop} (h : ∀ x y z r, f x y z r → g x y z r) : t_RII st f → t_RII st g := by unfold t_RII; split; exact h _ _ _ _; exact id
theorem t_RIR_mono {st : List Value} {f g : Nat → Int32 → Nat → List Value → Prop} (h : ∀ x y z r, f x y z r → g x y z r) : t_RIR st f → t_RIR st g := by unfold t_RIR; split; exact h _ _ _ _; exact id
theorem t_V1_mono {st : List Value} {f g : Value → List Value → Prop} (h : ∀ x r, f x r → g x r) : t_V1 st f → t_V1 st g := by unfold t_V1; split; exact h _ _; exact h _ _; exact id
theorem t_cp_mono {st : List Value} {f g : Nat → Int32 → Nat → Int32 → Int32 → List Value → Prop} (h : ∀ a b c e i r, f a b c e i r → g a b c e i r) : t_cp st f → t_cp st g := by unfold t_cp; split; exact h _ _ _ _ _ _; exact id
theorem l_I_mono {ls : List Slot} {k : Nat} {f g : Int32 → Prop} (h : ∀ x, f x → g x) : l_I ls k f → l_I ls k g := by unfold l_I; split; exact h _; exact id
theorem l_L_mono {ls : List Slot} {k : Nat} {f g : Int64 → Prop} (h : ∀ x, f x → g x) : l_L ls k f → l_L ls k g := by unfold l_L; split; exact h _; exact id
theorem l_D_mono {ls : List Slot} {k : Nat} {f g : UInt64 → Prop} (h : ∀ x, f x → g x) : l_D ls k f → l_D ls k g := by unfold l_D; split; exact h _; exact id
theorem l_R_mono {ls : List Slot} {k : Nat} {f g : Nat → Prop} (h : ∀ x, f x → g x) : l_R ls k f → l_R ls k g := by unfold l_R; split; exact h _; exact id
theorem ite_mono {c : Prop} [Decidable c] {A B A1 B1 : Prop} (h : A → A1) (h1 : B → B1) : (if c then A else B) → (if c then A1 else B1) := by split; exact h; exact h1
theorem b_if_mono {c : Jvm.ClassFile.Cond} {x : Int32} {A B A1 B1 : Prop} (h : A → A1) (h1 : B → B1) : b_if c x A B → b_if c x A1 B1 := by cases c <;> first | exact ite_mono h h1 | exact ite_mono h1 h
theorem b_ic_mono {c : Jvm.ClassFile.Cond} {x y : Int32} {A B A1 B1 : Prop} (h : A → A1) (h1 : B → B1) : b_ic c x y A B → b_ic c x y A1 B1 := by cases c <;> first | exact ite_mono h h1 | exact ite_mono h1 h
theorem b_ac_mono {c : Jvm.ClassFile.ACond} {x y : Nat} {A B A1 B1 : Prop} (h : A → A1) (h1 : B → B1) : b_ac c x y A B → b_ac c x y A1 B1 := by cases c <;> first | exact ite_mono h h1 | exact ite_mono h1 h
theorem b_sw_mono {x : Int32} {K K1 : Nat → Prop} {dflt : Nat} (h : ∀ t, K t → K1 t) : ∀ {lo : Int} {l : List Int}, b_sw x K dflt lo l → b_sw x K1 dflt lo l
  | _, [] => h _
  | _, _ :: _ => ite_mono (h _) (b_sw_mono h)
theorem onI_mono {v : Option Value} {f g : Int32 → Prop} (h : ∀ x, f x → g x) : onI v f → onI v g := by unfold onI; split; exact h _; exact id
theorem onR_mono {v : Option Value} {f g : Nat → Prop} (h : ∀ x, f x → g x) : onR v f → onR v g := by unfold onR; split; exact h _; exact id
theorem onD_mono {v : Option Value} {f g : UInt64 → Prop} (h : ∀ x, f x → g x) : onD v f → onD v g := by unfold onD; split; exact h _; exact id
theorem onV_mono {v : Option Value} {f g : Prop} (h : f → g) : onV v f → onV v g := by unfold onV; split; exact h; exact id
theorem r_on_mono {t : Nat} {v : Option Value} {st : List Value} {K K1 : List Value → Prop} (h : ∀ s, K s → K1 s) : r_on t v st K → r_on t v st K1 := by
  unfold r_on
  split
  · exact onV_mono (h _)
  · exact onI_mono (fun _ => h _)
  · exact onR_mono (fun _ => h _)
  · exact onD_mono (fun _ => h _)
theorem c_do_mono {k : Nat} {st : List Value} {Cl Cl1 : Nat → List Value → (Option Value → PH → Prop) → Prop} {K K1 : List Value → PH → Prop} (hC : ∀ k a Kc Kc1, (∀ v h, Kc v h → Kc1 v h) → Cl k a Kc → Cl1 k a Kc1) (h : ∀ s h1, K s h1 → K1 s h1) : c_do k st Cl K → c_do k st Cl1 K1 :=
  l_ok_mono (hC _ _ _ _ (fun _ _ => r_on_mono (fun _ => h _ _)))
theorem f_put_mono {t n : Nat} {st : List Value} {h : PH} {K K1 : List Value → PH → Prop} (hK : ∀ r h1, K r h1 → K1 r h1) : f_put t n st h K → f_put t n st h K1 := by
  unfold f_put
  split
  · exact t_RR_mono (fun _ _ _ => and_mono (hK _ _))
  · exact t_RI_mono (fun _ _ _ => and_mono (hK _ _))
  · exact t_RI_mono (fun _ _ _ => and_mono (hK _ _))
theorem a_new_mono {t : Jvm.ClassFile.ArrayType} {K K1 : Nat → Prop} (h : ∀ k, K k → K1 k) : a_new t K → a_new t K1 := by cases t <;> first | exact h _ | exact id
theorem r_ok_mono {t : Nat} {v : Option Value} {P P1 : Prop} (h : P → P1) : r_ok t v P → r_ok t v P1 := by
  unfold r_ok
  split
  · exact h
  · exact onI_mono (fun _ => and_mono h)
  · exact onI_mono (fun _ => and_mono h)
  · exact onI_mono (fun _ => and_mono h)
set_option maxHeartbeats 4000000 in
theorem sm_mono {i : Instr} {pc : Nat} {ls : List Slot} {st : List Value} {h : PH} {K K1 : Nat → List Slot → List Value → PH → Prop} {Rt Rt1 : Option Value → PH → Prop} {Cl Cl1 : Nat → List Value → PH → (Option Value → PH → Prop) → Prop}
    (hK : ∀ a b c e, K a b c e → K1 a b c e) (hR : ∀ v h, Rt v h → Rt1 v h) (hC : ∀ k a h1 Kc Kc1, (∀ v h, Kc v h → Kc1 v h) → Cl k a h1 Kc → Cl1 k a h1 Kc1) (H : sm i pc ls st h K Rt Cl) : sm i pc ls st h K1 Rt1 Cl1 := by
  have hD : ∀ {k : Nat}, c_do k st (fun k a Kc => Cl k a h Kc) (fun st1 h1 => K (pc + 1) ls st1 h1) → c_do k st (fun k a Kc => Cl1 k a h Kc) (fun st1 h1 => K1 (pc + 1) ls st1 h1) := fun q => c_do_mono (fun _ _ _ _ => hC _ _ _ _ _) (fun _ _ => hK _ _ _ _) q
  cases i <;> first
    | exact (show False from H).elim
    | exact hK _ _ _ _ H
    | exact l_I_mono (fun _ => hK _ _ _ _) H
    | exact l_L_mono (fun _ => hK _ _ _ _) H
    | exact l_D_mono (fun _ => hK _ _ _ _) H
    | exact l_R_mono (fun _ => hK _ _ _ _) H
    | exact l_I_mono (fun _ => l_ok_mono (hK _ _ _ _)) H
    | exact t_I_mono (fun _ _ => hK _ _ _ _) H
    | exact t_II_mono (fun _ _ _ => hK _ _ _ _) H
    | exact t_II_mono (fun _ _ _ => and_mono (hK _ _ _ _)) H
    | exact t_I_mono (fun _ _ => l_ok_mono (hK _ _ _ _)) H
    | exact t_R_mono (fun _ _ => l_ok_mono (hK _ _ _ _)) H
    | exact t_L_mono (fun _ _ => l_ok_mono (hK _ _ _ _)) H
    | exact t_D_mono (fun _ _ => l_ok_mono (hK _ _ _ _)) H
    | exact t_L_mono (fun _ _ => hK _ _ _ _) H
    | exact t_LL_mono (fun _ _ _ => hK _ _ _ _) H
    | exact t_LL_mono (fun _ _ _ => and_mono (hK _ _ _ _)) H
    | exact t_DD_mono (fun _ _ _ => hK _ _ _ _) H
    | exact t_DD_mono (fun _ _ _ => and_mono (hK _ _ _ _)) H
    | exact t_V1_mono (st := st) (f := fun v r => K (pc + 1) ls (v :: v :: r) h) (g := fun v r => K1 (pc + 1) ls (v :: v :: r) h) (fun _ _ => hK _ _ _ _) H
    | exact t_V1_mono (st := st) (f := fun _ r => K (pc + 1) ls r h) (g := fun _ r => K1 (pc + 1) ls r h) (fun _ _ => hK _ _ _ _) H
    | exact t_V1_mono (st := st) (f := fun v r => t_V1 r (fun w r2 => K (pc + 1) ls (v :: w :: v :: r2) h)) (g := fun v r => t_V1 r (fun w r2 => K1 (pc + 1) ls (v :: w :: v :: r2) h)) (fun _ _ => t_V1_mono (fun _ _ => hK _ _ _ _)) H
    | exact t_V1_mono (st := st) (f := fun v r => t_V1 r (fun w r2 => K (pc + 1) ls (v :: w :: v :: w :: r2) h)) (g := fun v r => t_V1 r (fun w r2 => K1 (pc + 1) ls (v :: w :: v :: w :: r2) h)) (fun _ _ => t_V1_mono (fun _ _ => hK _ _ _ _)) H
    | exact t_I_mono (fun _ _ => b_if_mono (hK _ _ _ _) (hK _ _ _ _)) H
    | exact t_II_mono (fun _ _ _ => b_ic_mono (hK _ _ _ _) (hK _ _ _ _)) H
    | exact t_RR_mono (fun _ _ _ => and_mono (b_ac_mono (hK _ _ _ _) (hK _ _ _ _))) H
    | exact t_R_mono (fun _ _ => and_mono (ite_mono (hK _ _ _ _) (hK _ _ _ _))) H
    | exact t_I_mono (fun _ _ => b_sw_mono (fun _ => hK _ _ _ _)) H
    | exact t_R_mono (fun _ _ => and_mono (hK _ _ _ _)) H
    | exact f_put_mono (fun _ _ => hK _ _ _ _) H
    | exact and_mono (hK _ _ _ _) H
    | exact t_I_mono (fun _ _ => and_mono (a_new_mono (fun _ => hK _ _ _ _))) H
    | exact t_I_mono (fun _ _ => and_mono (hK _ _ _ _)) H
    | exact t_RI_mono (fun _ _ _ => and_mono (hK _ _ _ _)) H
    | exact t_RII_mono (fun _ _ _ _ => and_mono (hK _ _ _ _)) H
    | exact t_RIR_mono (fun _ _ _ _ => and_mono (hK _ _ _ _)) H
    | exact l_if_mono (t_cp_mono (fun _ _ _ _ _ _ => l_ok_mono (and_mono (hK _ _ _ _)))) hD H
    | exact l_if_mono (t_R_mono (fun _ _ => l_ok_mono (and_mono (hK _ _ _ _)))) (and_mono hD) H
    | exact hR _ _ H
    | exact t_I_mono (fun _ _ => l_ok_mono (hR _ _)) H
    | exact t_R_mono (fun _ _ => l_ok_mono (hR _ _)) H
    | exact t_D_mono (fun _ _ => l_ok_mono (hR _ _)) H
    | exact l_ok_mono (hR _ _) H
abbrev Wp : Type := Nat → Nat → Nat → List Slot → List Value → PH → (Option Value → PH → Prop) → Prop
/-- a step, with P for what is asked of every state that comes; d: how deep calls may go -/
def Sem (P : Wp) : Wp := fun d k pc ls st h Q => sm ((z_code k).getD pc .athrow) pc ls st h (fun pc1 ls1 st1 h1 => P d k pc1 (l_kl k pc1 ls1) st1 h1 Q) (fun v h1 => r_ok (z_nr k) v (Q v h1))
  (fun k1 a h1 Kc => match d with
    | 0 => False
    | d1 + 1 => ∃ R : Option Value → PH → Prop, P d1 k1 0 (l_ent (z_ml k1) a) [] h1 R ∧ ∀ v h2, R v h2 → Kc v h2)
/-- the run from here ends, with Q -/
def wp : Wp := fun d k pc ls st h Q => ∀ P : Wp, (∀ d k pc ls st h Q, Sem P d k pc ls st h Q → P d k pc ls st h Q) → P d k pc ls st h Q
/-- a call's run -/
def wpc (d k : Nat) (a : List Value) (h : PH) (Q : Option Value → PH → Prop) : Prop := match d with
  | 0 => False
  | d1 + 1 => wp d1 k 0 (l_ent (z_ml k) a) [] h Q
theorem wp_fold {d k pc : Nat} {ls : List Slot} {st : List Value} {h : PH} {Q : Option Value → PH → Prop} (H : Sem wp d k pc ls st h Q) : wp d k pc ls st h Q := by
  intro P hP
  refine hP _ _ _ _ _ _ _ ?_
  refine sm_mono (fun a b c e q => q P hP) (fun _ _ q => q) (fun k1 a h1 Kc Kc1 hk q => ?_) H
  cases d with
  | zero => exact q
  | succ d =>
    obtain ⟨R, q1, q2⟩ := q
    exact ⟨R, q1 P hP, fun v h2 q3 => hk _ _ (q2 v h2 q3)⟩
theorem wp_unf {d k pc : Nat} {ls : List Slot} {st : List Value} {h : PH} {Q : Option Value → PH → Prop} (H : wp d k pc ls st h Q) : Sem wp d k pc ls st h Q := by
  refine H (Sem wp) (fun d k pc ls st h Q q => ?_)
  refine sm_mono (fun a b c e q => wp_fold q) (fun _ _ q => q) (fun k1 a h1 Kc Kc1 hk q => ?_) q
  cases d with
  | zero => exact q
  | succ d =>
    obtain ⟨R, q1, q2⟩ := q
    exact ⟨R, wp_fold q1, fun v h2 q3 => hk _ _ (q2 v h2 q3)⟩
theorem wp_mono {d k pc : Nat} {ls : List Slot} {st : List Value} {h : PH} {Q Q1 : Option Value → PH → Prop} (hq : ∀ v h, Q v h → Q1 v h) (H : wp d k pc ls st h Q) : wp d k pc ls st h Q1 := by
  refine H (fun d k pc ls st h Q => ∀ Q1 : Option Value → PH → Prop, (∀ v h, Q v h → Q1 v h) → wp d k pc ls st h Q1) (fun d k pc ls st h Q q Q1 hq => ?_) Q1 hq
  refine wp_fold (sm_mono (fun a b c e q => q Q1 hq) (fun v h q => r_ok_mono (hq v h) q) (fun k1 a h1 Kc Kc1 hk q => ?_) q)
  cases d with
  | zero => exact q
  | succ d =>
    obtain ⟨R, q1, q2⟩ := q
    exact ⟨R, q1 R (fun _ _ z => z), fun v h2 q3 => hk _ _ (q2 v h2 q3)⟩
theorem wpc_mono {d k : Nat} {a : List Value} {h : PH} {Q Q1 : Option Value → PH → Prop} (hq : ∀ v h, Q v h → Q1 v h) (H : wpc d k a h Q) : wpc d k a h Q1 := by
  cases d with
  | zero => exact H
  | succ d => exact wp_mono hq H
/-- n steps at once; at the places sp it stops -/
def Sn : Nat → List Nat → Wp
  | 0, _ => wp
  | n + 1, sp => fun d k pc ls st h Q => sm ((z_code k).getD pc .athrow) pc ls st h (fun pc1 ls1 st1 h1 => l_if (sp.elem pc1) (wp d k pc1 (l_kl k pc1 ls1) st1 h1 Q) (Sn n sp d k pc1 (l_kl k pc1 ls1) st1 h1 Q)) (fun v h1 => r_ok (z_nr k) v (Q v h1)) (fun k1 a h1 Kc => wpc d k1 a h1 Kc)
theorem wp_Sn : ∀ (n : Nat) (sp : List Nat) (d k pc : Nat) (ls : List Slot) (st : List Value) (h : PH) (Q : Option Value → PH → Prop), wp d k pc ls st h Q ↔ Sn n sp d k pc ls st h Q
  | 0, _, _, _, _, _, _, _, _ => Iff.rfl
  | n + 1, sp, d, k, pc, ls, st, h, Q => by
    rw [Sn]
    constructor
    · intro H
      refine sm_mono (fun a b c e q => ?_) (fun _ _ q => q) (fun k1 a h1 Kc Kc1 hk q => ?_) (wp_unf H)
      · cases sp.elem a
        · exact (wp_Sn n sp _ _ _ _ _ _ _).mp q
        · exact q
      · cases d with
        | zero => exact q
        | succ d =>
          obtain ⟨R, q1, q2⟩ := q
          exact wp_mono (fun v h2 q3 => hk _ _ (q2 v h2 q3)) q1
    · intro H
      refine wp_fold (sm_mono (fun a b c e q => ?_) (fun _ _ q => q) (fun k1 a h1 Kc Kc1 hk q => ?_) H)
      · cases hb : sp.elem a
        · rw [hb] at q
          exact (wp_Sn n sp _ _ _ _ _ _ _).mpr q
        · rw [hb] at q
          exact q
      · cases d with
        | zero => exact q
        | succ d => exact ⟨_, q, hk⟩
def CI (d k : Nat) (a : List Value) (h : PH) (Q : Int32 → PH → Prop) : Prop := wpc d k a h (fun v h1 => onI v (fun x => Q x h1))
def CR (d k : Nat) (a : List Value) (h : PH) (Q : Nat → PH → Prop) : Prop := wpc d k a h (fun v h1 => onR v (fun x => Q x h1))
def CD (d k : Nat) (a : List Value) (h : PH) (Q : UInt64 → PH → Prop) : Prop := wpc d k a h (fun v h1 => onD v (fun x => Q x h1))
def CV (d k : Nat) (a : List Value) (h : PH) (Q : PH → Prop) : Prop := wpc d k a h (fun v h1 => onV v (Q h1))
end
section
/-! What the linked code rests on: names, classes, the words of each link by their places, the code as it is read. Made by a program (wip/p25/gen4.py). -/
def z_cns : List String := ["ClauseDesk$Tokens", "ClauseDesk$Code", "ClauseDesk$Clause", "ClauseDesk$Grammar", "ClauseDesk$Library", "ClauseDesk$Conflicts", "ClauseDesk$Scribe", "ClauseDesk$Page", "ClauseDesk$Draft", "ClauseDesk$Contract", "ClauseDesk", "java/lang/AbstractStringBuilder", "java/lang/StringBuilder", "ClauseDeskLaw$Sim", "ClauseDeskLaw", "java/lang/String", "java/lang/Math", "jdk/internal/util/ArraysSupport", "java/util/Arrays", "java/lang/StringLatin1", "java/lang/Integer", "ClauseDeskLaw$Item", "jdk/internal/util/Preconditions", "java/lang/Enum"]
def z_cn (o : Nat) : String := z_cns.getD o ""
/-- the class of a method, by its number in z_cns -/
def z_ow (k : Nat) : Nat := [0, 1, 2, 3, 4, 5, 6, 7, 8, 9, 10, 11, 12, 13, 14, 14, 15, 15, 16, 17, 11, 16, 18, 11, 11, 15, 11, 11, 12, 11, 19, 11, 12, 11, 11, 12, 18, 18, 18, 15, 15, 12, 14, 20, 20, 11, 12, 14, 21, 14, 14, 14, 14, 22, 15, 11, 12, 14, 15, 19, 15, 10, 10, 10, 0, 0, 0, 0, 0, 0, 0, 0, 0, 0, 0, 0, 0, 4, 1, 0, 3, 3, 3, 2, 3, 1, 3, 23, 3, 3, 3, 3, 3, 3, 3, 3, 3, 0, 3, 3, 3, 3, 1, 3, 3, 3, 3, 3, 3, 0, 0, 0, 4, 4, 4, 20, 4, 0, 4, 4, 4, 4, 4, 4, 4, 7, 8, 10, 6, 1, 1, 6, 7, 6, 7, 6, 6, 6, 6, 6, 6, 6, 6, 10, 10, 4, 8, 8, 9, 9, 9, 9, 9, 5, 9, 9, 5, 9, 9, 9, 9, 9, 10, 14, 10, 10, 10, 10, 10, 10, 10, 10, 9, 4, 10, 10, 5, 10, 10, 9, 10, 5, 10, 10, 10, 4, 4, 10, 10, 14].getD k 0
def z_ys : List MethodName := [⟨"ClauseDesk$Tokens", "<init>", "()V"⟩, ⟨"ClauseDesk$Code", "<init>", "()V"⟩, ⟨"ClauseDesk$Clause", "<init>", "()V"⟩, ⟨"ClauseDesk$Grammar", "<init>", "()V"⟩, ⟨"ClauseDesk$Library", "<init>", "()V"⟩, ⟨"ClauseDesk$Conflicts", "<init>", "()V"⟩, ⟨"ClauseDesk$Scribe", "<init>", "()V"⟩, ⟨"ClauseDesk$Page", "<init>", "(I)V"⟩, ⟨"ClauseDesk$Draft", "<init>", "(I)V"⟩, ⟨"ClauseDesk$Contract", "<init>", "(I)V"⟩, ⟨"ClauseDesk", "<init>", "()V"⟩, ⟨"java/lang/AbstractStringBuilder", "<init>", "(I)V"⟩, ⟨"java/lang/StringBuilder", "<init>", "()V"⟩, ⟨"ClauseDeskLaw$Sim", "<init>", "()V"⟩, ⟨"ClauseDeskLaw", "cell", "([II)I"⟩, ⟨"ClauseDeskLaw", "below", "(II)I"⟩, ⟨"java/lang/String", "coder", "()B"⟩, ⟨"java/lang/String", "length", "()I"⟩, ⟨"java/lang/Math", "max", "(II)I"⟩, ⟨"jdk/internal/util/ArraysSupport", "newLength", "(III)I"⟩, ⟨"java/lang/AbstractStringBuilder", "newCapacity", "(I)I"⟩, ⟨"java/lang/Math", "min", "(II)I"⟩, ⟨"java/util/Arrays", "copyOf", "([BI)[B"⟩, ⟨"java/lang/AbstractStringBuilder", "ensureCapacityInternal", "(I)V"⟩, ⟨"java/lang/AbstractStringBuilder", "inflateIfNeededFor", "(Ljava/lang/String;)V"⟩, ⟨"java/lang/String", "getBytes", "([BIB)V"⟩, ⟨"java/lang/AbstractStringBuilder", "putStringAt", "(ILjava/lang/String;)V"⟩, ⟨"java/lang/AbstractStringBuilder", "append", "(Ljava/lang/String;)Ljava/lang/AbstractStringBuilder;"⟩, ⟨"java/lang/StringBuilder", "append", "(Ljava/lang/String;)Ljava/lang/StringBuilder;"⟩, ⟨"java/lang/AbstractStringBuilder", "isLatin1", "()Z"⟩, ⟨"java/lang/StringLatin1", "canEncode", "(C)Z"⟩, ⟨"java/lang/AbstractStringBuilder", "append", "(C)Ljava/lang/AbstractStringBuilder;"⟩, ⟨"java/lang/StringBuilder", "append", "(C)Ljava/lang/StringBuilder;"⟩, ⟨"java/lang/AbstractStringBuilder", "getValue", "()[B"⟩, ⟨"java/lang/AbstractStringBuilder", "length", "()I"⟩, ⟨"java/lang/StringBuilder", "length", "()I"⟩, ⟨"java/util/Arrays", "checkLength", "(II)V"⟩, ⟨"java/util/Arrays", "copyOfRangeByte", "([BII)[B"⟩, ⟨"java/util/Arrays", "copyOfRange", "([BII)[B"⟩, ⟨"java/lang/String", "<init>", "(Ljava/lang/AbstractStringBuilder;Ljava/lang/Void;)V"⟩, ⟨"java/lang/String", "<init>", "(Ljava/lang/StringBuilder;)V"⟩, ⟨"java/lang/StringBuilder", "toString", "()Ljava/lang/String;"⟩, ⟨"ClauseDeskLaw", "name", "(CI)Ljava/lang/String;"⟩, ⟨"java/lang/Integer", "stringSize", "(I)I"⟩, ⟨"java/lang/Integer", "getChars", "(II[B)I"⟩, ⟨"java/lang/AbstractStringBuilder", "append", "(I)Ljava/lang/AbstractStringBuilder;"⟩, ⟨"java/lang/StringBuilder", "append", "(I)Ljava/lang/StringBuilder;"⟩, ⟨"ClauseDeskLaw", "row", "(IIII)[I"⟩, ⟨"ClauseDeskLaw$Item", "<init>", "()V"⟩, ⟨"ClauseDeskLaw", "block", "(LClauseDeskLaw$Sim;[III)[LClauseDeskLaw$Item;"⟩, ⟨"ClauseDeskLaw", "say", "(Ljava/lang/StringBuilder;Ljava/lang/String;[I)V"⟩, ⟨"ClauseDeskLaw", "say", "(Ljava/lang/StringBuilder;LClauseDeskLaw$Sim;[LClauseDeskLaw$Item;[I)V"⟩, ⟨"ClauseDeskLaw", "sim", "([IILjava/lang/StringBuilder;)LClauseDeskLaw$Sim;"⟩, ⟨"jdk/internal/util/Preconditions", "checkIndex", "(IILjava/util/function/BiFunction;)I"⟩, ⟨"java/lang/String", "checkIndex", "(II)V"⟩, ⟨"java/lang/AbstractStringBuilder", "charAt", "(I)C"⟩, ⟨"java/lang/StringBuilder", "charAt", "(I)C"⟩, ⟨"ClauseDeskLaw", "isShort", "(Ljava/lang/StringBuilder;)Z"⟩, ⟨"java/lang/String", "isLatin1", "()Z"⟩, ⟨"java/lang/StringLatin1", "charAt", "([BI)C"⟩, ⟨"java/lang/String", "charAt", "(I)C"⟩, ⟨"ClauseDesk", "append", "(I)V"⟩, ⟨"ClauseDesk", "feed", "(IIIII)I"⟩, ⟨"ClauseDesk", "trim", "(I)I"⟩, ⟨"ClauseDesk$Tokens", "signAt", "(I)I"⟩, ⟨"ClauseDesk$Tokens", "pastBlanks", "(I)I"⟩, ⟨"ClauseDesk$Tokens", "isLetter", "(I)Z"⟩, ⟨"ClauseDesk$Tokens", "isDigit", "(I)Z"⟩, ⟨"ClauseDesk$Tokens", "wordLength", "(I)I"⟩, ⟨"ClauseDesk$Tokens", "numberLength", "(I)I"⟩, ⟨"ClauseDesk$Tokens", "stringLength", "(I)I"⟩, ⟨"ClauseDesk$Tokens", "lengthAt", "(I)I"⟩, ⟨"ClauseDesk$Tokens", "isWritten", "(Ljava/lang/String;I)Z"⟩, ⟨"ClauseDesk$Tokens", "kindWritten", "(IILClauseDesk$Kind;)LClauseDesk$Kind;"⟩, ⟨"ClauseDesk$Tokens", "kindOf", "(II)LClauseDesk$Kind;"⟩, ⟨"ClauseDesk$Tokens", "valueOf", "(II)I"⟩, ⟨"ClauseDesk$Tokens", "read", "([BI)V"⟩, ⟨"ClauseDesk$Library", "open", "([BI)V"⟩, ⟨"ClauseDesk$Code", "clear", "()V"⟩, ⟨"ClauseDesk$Tokens", "kindAt", "(I)LClauseDesk$Kind;"⟩, ⟨"ClauseDesk$Grammar", "has", "(LClauseDesk$Kind;)Z"⟩, ⟨"ClauseDesk$Grammar", "take", "(LClauseDesk$Kind;)Z"⟩, ⟨"ClauseDesk$Grammar", "tellsFact", "()Z"⟩, ⟨"ClauseDesk$Clause", "clear", "()V"⟩, ⟨"ClauseDesk$Grammar", "enter", "(LClauseDesk$Kind;I)Z"⟩, ⟨"ClauseDesk$Code", "add", "(LClauseDesk$Kind;I)I"⟩, ⟨"ClauseDesk$Grammar", "here", "()LClauseDesk$Kind;"⟩, ⟨"java/lang/Enum", "ordinal", "()I"⟩, ⟨"ClauseDesk$Grammar", "ofTwo", "(LClauseDesk$Kind;I)Z"⟩, ⟨"ClauseDesk$Grammar", "value", "(I)Z"⟩, ⟨"ClauseDesk$Grammar", "product", "(I)Z"⟩, ⟨"ClauseDesk$Grammar", "sum", "(I)Z"⟩, ⟨"ClauseDesk$Grammar", "compares", "(LClauseDesk$Kind;)Z"⟩, ⟨"ClauseDesk$Grammar", "single", "(I)Z"⟩, ⟨"ClauseDesk$Grammar", "both", "(I)Z"⟩, ⟨"ClauseDesk$Grammar", "test", "(I)Z"⟩, ⟨"ClauseDesk$Grammar", "whenPart", "(LClauseDesk$Clause;)Z"⟩, ⟨"ClauseDesk$Tokens", "meaningAt", "(I)I"⟩, ⟨"ClauseDesk$Grammar", "optionalPart", "(LClauseDesk$Clause;)Z"⟩, ⟨"ClauseDesk$Grammar", "linkPart", "()Z"⟩, ⟨"ClauseDesk$Grammar", "nameItem", "()Z"⟩, ⟨"ClauseDesk$Grammar", "showItem", "(I)Z"⟩, ⟨"ClauseDesk$Code", "aimAtEnd", "(I)V"⟩, ⟨"ClauseDesk$Grammar", "ifItem", "(I)Z"⟩, ⟨"ClauseDesk$Grammar", "pointsItem", "(I)Z"⟩, ⟨"ClauseDesk$Grammar", "item", "(I)Z"⟩, ⟨"ClauseDesk$Grammar", "block", "(I)Z"⟩, ⟨"ClauseDesk$Grammar", "tellsClause", "()Z"⟩, ⟨"ClauseDesk$Grammar", "accepts", "()Z"⟩, ⟨"ClauseDesk$Tokens", "lengthOf", "(I)I"⟩, ⟨"ClauseDesk$Tokens", "startAt", "(I)I"⟩, ⟨"ClauseDesk$Tokens", "sameWord", "(II)Z"⟩, ⟨"ClauseDesk$Library", "numberOf", "(I[II)I"⟩, ⟨"ClauseDesk$Library", "addFact", "(I)I"⟩, ⟨"ClauseDesk$Library", "clauseNamed", "(I)I"⟩, ⟨"java/lang/Integer", "bitCount", "(I)I"⟩, ⟨"ClauseDesk$Library", "addClause", "(I)I"⟩, ⟨"ClauseDesk$Tokens", "setMeaning", "(II)V"⟩, ⟨"ClauseDesk$Library", "addLink", "(LClauseDesk$Clause;LClauseDesk$Kind;I)V"⟩, ⟨"ClauseDesk$Library", "meanClause", "(ILClauseDesk$Kind;)I"⟩, ⟨"ClauseDesk$Library", "meanTerm", "(I)I"⟩, ⟨"ClauseDesk$Library", "meanFact", "(I)I"⟩, ⟨"ClauseDesk$Library", "lookAtName", "(ILClauseDesk$Kind;)I"⟩, ⟨"ClauseDesk$Library", "lookAtNames", "()I"⟩, ⟨"ClauseDesk$Library", "placeOfError", "(I)I"⟩, ⟨"ClauseDesk$Page", "clear", "()V"⟩, ⟨"ClauseDesk$Draft", "clear", "()V"⟩, ⟨"ClauseDesk", "takeUpSpare", "()V"⟩, ⟨"ClauseDesk$Scribe", "open", "(LClauseDesk$Library;[I[ILClauseDesk$Page;)V"⟩, ⟨"ClauseDesk$Code", "kindAt", "(I)LClauseDesk$Kind;"⟩, ⟨"ClauseDesk$Code", "operandAt", "(I)I"⟩, ⟨"ClauseDesk$Scribe", "pop", "()I"⟩, ⟨"ClauseDesk$Page", "put", "(I)V"⟩, ⟨"ClauseDesk$Scribe", "writeWord", "(II)V"⟩, ⟨"ClauseDesk$Page", "putNumber", "(I)V"⟩, ⟨"ClauseDesk$Scribe", "note", "(I)V"⟩, ⟨"ClauseDesk$Scribe", "placeOf", "(I)I"⟩, ⟨"ClauseDesk$Scribe", "push", "(I)V"⟩, ⟨"ClauseDesk$Scribe", "ofTwo", "(LClauseDesk$Kind;II)I"⟩, ⟨"ClauseDesk$Scribe", "reckon", "(LClauseDesk$Kind;I)V"⟩, ⟨"ClauseDesk$Scribe", "act", "(LClauseDesk$Kind;II)V"⟩, ⟨"ClauseDesk$Scribe", "follow", "(II)V"⟩, ⟨"ClauseDesk$Scribe", "holds", "()Z"⟩, ⟨"ClauseDesk", "withBit", "(IIZ)I"⟩, ⟨"ClauseDesk", "hasBit", "(II)Z"⟩, ⟨"ClauseDesk$Library", "closure", "(II)I"⟩, ⟨"ClauseDesk$Draft", "nextOf", "(LClauseDesk$Library;I)I"⟩, ⟨"ClauseDesk$Draft", "arrange", "(LClauseDesk$Library;I)V"⟩, ⟨"ClauseDesk$Contract", "gather", "(LClauseDesk$Library;[III)V"⟩, ⟨"ClauseDesk$Contract", "write", "(LClauseDesk$Library;)V"⟩, ⟨"ClauseDesk$Contract", "meaningOf", "(LClauseDesk$Library;I)I"⟩, ⟨"ClauseDesk$Contract", "tallyItem", "(LClauseDesk$Library;II)V"⟩, ⟨"ClauseDesk$Contract", "tally", "(LClauseDesk$Library;)V"⟩, ⟨"ClauseDesk$Conflicts", "clear", "()V"⟩, ⟨"ClauseDesk$Contract", "placeOf", "(I)I"⟩, ⟨"ClauseDesk$Contract", "isConflict", "(III)Z"⟩, ⟨"ClauseDesk$Conflicts", "add", "(III)V"⟩, ⟨"ClauseDesk$Contract", "judgeLinks", "(LClauseDesk$Library;IILClauseDesk$Kind;)V"⟩, ⟨"ClauseDesk$Contract", "judgeTerm", "(LClauseDesk$Kind;II)V"⟩, ⟨"ClauseDesk$Contract", "judgeItem", "(LClauseDesk$Library;II)V"⟩, ⟨"ClauseDesk$Contract", "judge", "(LClauseDesk$Library;)V"⟩, ⟨"ClauseDesk$Contract", "draw", "(LClauseDesk$Library;[III)V"⟩, ⟨"ClauseDesk", "teach", "()I"⟩, ⟨"ClauseDeskLaw", "tell", "(LClauseDesk;Ljava/lang/String;)I"⟩, ⟨"ClauseDesk", "isFact", "(I)Z"⟩, ⟨"ClauseDesk", "setFact", "(II)I"⟩, ⟨"ClauseDesk", "isClause", "(I)Z"⟩, ⟨"ClauseDesk", "choiceOf", "(I)I"⟩, ⟨"ClauseDesk", "choose", "(II)I"⟩, ⟨"ClauseDesk", "itemBytes", "(LClauseDesk$Clause;)I"⟩, ⟨"ClauseDesk", "toldOfClause", "(II)I"⟩, ⟨"ClauseDesk", "clause", "(II)I"⟩, ⟨"ClauseDesk$Contract", "bytes", "()I"⟩, ⟨"ClauseDesk$Library", "worthOf", "(I)I"⟩, ⟨"ClauseDesk", "counted", "(I)I"⟩, ⟨"ClauseDesk", "count", "(I)I"⟩, ⟨"ClauseDesk$Conflicts", "told", "(II)I"⟩, ⟨"ClauseDesk", "conflict", "(II)I"⟩, ⟨"ClauseDesk", "clauseAt", "(I)I"⟩, ⟨"ClauseDesk$Contract", "toldOfTerm", "(II)I"⟩, ⟨"ClauseDesk", "term", "(II)I"⟩, ⟨"ClauseDesk$Conflicts", "ofKind", "(I)I"⟩, ⟨"ClauseDesk", "conflicts", "(I)I"⟩, ⟨"ClauseDesk", "friction", "()D"⟩, ⟨"ClauseDesk", "would", "(III)I"⟩, ⟨"ClauseDesk$Library", "barringOrBarred", "(I)I"⟩, ⟨"ClauseDesk$Library", "isPeaceful", "(I)Z"⟩, ⟨"ClauseDesk", "advise", "()I"⟩, ⟨"ClauseDesk", "fewest", "()I"⟩, ⟨"ClauseDeskLaw", "law", "([I)Z"⟩]
def z_y (k : Nat) : MethodName := z_ys.getD k ⟨"", "", ""⟩
def z_bs : List ByteArray := [prog_13_method_1_code, prog_4_method_1_code, prog_3_method_1_code, prog_8_method_1_code, prog_10_method_1_code, prog_5_method_1_code, prog_12_method_1_code, prog_11_method_1_code, prog_7_method_1_code, prog_6_method_1_code, prog_1_method_1_code, prog_19_method_2_code, prog_31_method_1_code, prog_16_method_1_code, method_3_code, method_2_code, prog_30_method_152_code, prog_30_method_54_code, prog_27_method_65_code, prog_37_method_27_code, prog_19_method_10_code, prog_27_method_69_code, prog_36_method_121_code, prog_19_method_9_code, prog_19_method_71_code, prog_30_method_147_code, prog_19_method_73_code, prog_19_method_22_code, prog_31_method_7_code, prog_19_method_68_code, prog_32_method_3_code, prog_19_method_31_code, prog_31_method_14_code, prog_19_method_64_code, prog_19_method_6_code, prog_31_method_93_code, prog_36_method_131_code, prog_36_method_133_code, prog_36_method_132_code, prog_30_method_150_code, prog_30_method_53_code, prog_31_method_42_code, method_8_code, prog_26_method_13_code, prog_26_method_12_code, prog_19_method_32_code, prog_31_method_15_code, method_6_code, prog_15_method_1_code, method_7_code, method_10_code, method_9_code, method_11_code, prog_38_method_11_code, prog_30_method_155_code, prog_19_method_14_code, prog_31_method_88_code, method_5_code, prog_30_method_154_code, prog_32_method_2_code, prog_30_method_56_code, prog_1_method_24_code, prog_1_method_2_code, prog_1_method_3_code, prog_13_method_9_code, prog_13_method_10_code, prog_13_method_19_code, prog_13_method_20_code, prog_13_method_12_code, prog_13_method_13_code, prog_13_method_14_code, prog_13_method_11_code, prog_13_method_17_code, prog_13_method_16_code, prog_13_method_15_code, prog_13_method_18_code, prog_13_method_2_code, prog_10_method_2_code, prog_4_method_2_code, prog_13_method_3_code, prog_8_method_4_code, prog_8_method_5_code, prog_8_method_7_code, prog_3_method_2_code, prog_8_method_6_code, prog_4_method_3_code, prog_8_method_3_code, prog_21_method_2_code, prog_8_method_25_code, prog_8_method_24_code, prog_8_method_23_code, prog_8_method_22_code, prog_8_method_21_code, prog_8_method_20_code, prog_8_method_19_code, prog_8_method_18_code, prog_8_method_9_code, prog_13_method_6_code, prog_8_method_10_code, prog_8_method_11_code, prog_8_method_14_code, prog_8_method_15_code, prog_4_method_4_code, prog_8_method_16_code, prog_8_method_17_code, prog_8_method_13_code, prog_8_method_12_code, prog_8_method_8_code, prog_8_method_2_code, prog_13_method_5_code, prog_13_method_4_code, prog_13_method_8_code, prog_10_method_16_code, prog_10_method_10_code, prog_10_method_17_code, prog_26_method_49_code, prog_10_method_11_code, prog_13_method_7_code, prog_10_method_13_code, prog_10_method_12_code, prog_10_method_14_code, prog_10_method_15_code, prog_10_method_9_code, prog_10_method_8_code, prog_10_method_3_code, prog_11_method_2_code, prog_7_method_2_code, prog_1_method_25_code, prog_12_method_2_code, prog_4_method_5_code, prog_4_method_6_code, prog_12_method_12_code, prog_11_method_3_code, prog_12_method_7_code, prog_11_method_4_code, prog_12_method_6_code, prog_12_method_8_code, prog_12_method_11_code, prog_12_method_10_code, prog_12_method_9_code, prog_12_method_5_code, prog_12_method_3_code, prog_12_method_4_code, prog_1_method_36_code, prog_1_method_35_code, prog_10_method_4_code, prog_7_method_5_code, prog_7_method_4_code, prog_6_method_5_code, prog_6_method_6_code, prog_6_method_9_code, prog_6_method_8_code, prog_6_method_7_code, prog_5_method_2_code, prog_6_method_13_code, prog_6_method_12_code, prog_5_method_3_code, prog_6_method_11_code, prog_6_method_15_code, prog_6_method_14_code, prog_6_method_10_code, prog_6_method_4_code, prog_1_method_4_code, method_4_code, prog_1_method_26_code, prog_1_method_7_code, prog_1_method_27_code, prog_1_method_28_code, prog_1_method_9_code, prog_1_method_31_code, prog_1_method_30_code, prog_1_method_10_code, prog_6_method_2_code, prog_10_method_7_code, prog_1_method_29_code, prog_1_method_6_code, prog_5_method_4_code, prog_1_method_14_code, prog_1_method_11_code, prog_6_method_3_code, prog_1_method_12_code, prog_5_method_5_code, prog_1_method_15_code, prog_1_method_22_code, prog_1_method_17_code, prog_10_method_5_code, prog_10_method_6_code, prog_1_method_18_code, prog_1_method_16_code, code]
def z_b (k : Nat) : ByteArray := z_bs.getD k ⟨#[]⟩
def z_rets : List (Option FieldType) := [(Option.none : Option Jvm.ClassFile.FieldType), (Option.none : Option Jvm.ClassFile.FieldType), (Option.none : Option Jvm.ClassFile.FieldType), (Option.none : Option Jvm.ClassFile.FieldType), (Option.none : Option Jvm.ClassFile.FieldType), (Option.none : Option Jvm.ClassFile.FieldType), (Option.none : Option Jvm.ClassFile.FieldType), (Option.none : Option Jvm.ClassFile.FieldType), (Option.none : Option Jvm.ClassFile.FieldType), (Option.none : Option Jvm.ClassFile.FieldType), (Option.none : Option Jvm.ClassFile.FieldType), (Option.none : Option Jvm.ClassFile.FieldType), (Option.none : Option Jvm.ClassFile.FieldType), (Option.none : Option Jvm.ClassFile.FieldType), (Option.some Jvm.ClassFile.FieldType.int), (Option.some Jvm.ClassFile.FieldType.int), (Option.some Jvm.ClassFile.FieldType.byte), (Option.some Jvm.ClassFile.FieldType.int), (Option.some Jvm.ClassFile.FieldType.int), (Option.some Jvm.ClassFile.FieldType.int), (Option.some Jvm.ClassFile.FieldType.int), (Option.some Jvm.ClassFile.FieldType.int), (Option.some (Jvm.ClassFile.FieldType.array Jvm.ClassFile.FieldType.byte)), (Option.none : Option Jvm.ClassFile.FieldType), (Option.none : Option Jvm.ClassFile.FieldType), (Option.none : Option Jvm.ClassFile.FieldType), (Option.none : Option Jvm.ClassFile.FieldType), (Option.some (Jvm.ClassFile.FieldType.object "java/lang/AbstractStringBuilder")), (Option.some (Jvm.ClassFile.FieldType.object "java/lang/StringBuilder")), (Option.some Jvm.ClassFile.FieldType.boolean), (Option.some Jvm.ClassFile.FieldType.boolean), (Option.some (Jvm.ClassFile.FieldType.object "java/lang/AbstractStringBuilder")), (Option.some (Jvm.ClassFile.FieldType.object "java/lang/StringBuilder")), (Option.some (Jvm.ClassFile.FieldType.array Jvm.ClassFile.FieldType.byte)), (Option.some Jvm.ClassFile.FieldType.int), (Option.some Jvm.ClassFile.FieldType.int), (Option.none : Option Jvm.ClassFile.FieldType), (Option.some (Jvm.ClassFile.FieldType.array Jvm.ClassFile.FieldType.byte)), (Option.some (Jvm.ClassFile.FieldType.array Jvm.ClassFile.FieldType.byte)), (Option.none : Option Jvm.ClassFile.FieldType), (Option.none : Option Jvm.ClassFile.FieldType), (Option.some (Jvm.ClassFile.FieldType.object "java/lang/String")), (Option.some (Jvm.ClassFile.FieldType.object "java/lang/String")), (Option.some Jvm.ClassFile.FieldType.int), (Option.some Jvm.ClassFile.FieldType.int), (Option.some (Jvm.ClassFile.FieldType.object "java/lang/AbstractStringBuilder")), (Option.some (Jvm.ClassFile.FieldType.object "java/lang/StringBuilder")), (Option.some (Jvm.ClassFile.FieldType.array Jvm.ClassFile.FieldType.int)), (Option.none : Option Jvm.ClassFile.FieldType), (Option.some (Jvm.ClassFile.FieldType.array (Jvm.ClassFile.FieldType.object "ClauseDeskLaw$Item"))), (Option.none : Option Jvm.ClassFile.FieldType), (Option.none : Option Jvm.ClassFile.FieldType), (Option.some (Jvm.ClassFile.FieldType.object "ClauseDeskLaw$Sim")), (Option.some Jvm.ClassFile.FieldType.int), (Option.none : Option Jvm.ClassFile.FieldType), (Option.some Jvm.ClassFile.FieldType.char), (Option.some Jvm.ClassFile.FieldType.char), (Option.some Jvm.ClassFile.FieldType.boolean), (Option.some Jvm.ClassFile.FieldType.boolean), (Option.some Jvm.ClassFile.FieldType.char), (Option.some Jvm.ClassFile.FieldType.char), (Option.none : Option Jvm.ClassFile.FieldType), (Option.some Jvm.ClassFile.FieldType.int), (Option.some Jvm.ClassFile.FieldType.int), (Option.some Jvm.ClassFile.FieldType.int), (Option.some Jvm.ClassFile.FieldType.int), (Option.some Jvm.ClassFile.FieldType.boolean), (Option.some Jvm.ClassFile.FieldType.boolean), (Option.some Jvm.ClassFile.FieldType.int), (Option.some Jvm.ClassFile.FieldType.int), (Option.some Jvm.ClassFile.FieldType.int), (Option.some Jvm.ClassFile.FieldType.int), (Option.some Jvm.ClassFile.FieldType.boolean), (Option.some (Jvm.ClassFile.FieldType.object "ClauseDesk$Kind")), (Option.some (Jvm.ClassFile.FieldType.object "ClauseDesk$Kind")), (Option.some Jvm.ClassFile.FieldType.int), (Option.none : Option Jvm.ClassFile.FieldType), (Option.none : Option Jvm.ClassFile.FieldType), (Option.none : Option Jvm.ClassFile.FieldType), (Option.some (Jvm.ClassFile.FieldType.object "ClauseDesk$Kind")), (Option.some Jvm.ClassFile.FieldType.boolean), (Option.some Jvm.ClassFile.FieldType.boolean), (Option.some Jvm.ClassFile.FieldType.boolean), (Option.none : Option Jvm.ClassFile.FieldType), (Option.some Jvm.ClassFile.FieldType.boolean), (Option.some Jvm.ClassFile.FieldType.int), (Option.some (Jvm.ClassFile.FieldType.object "ClauseDesk$Kind")), (Option.some Jvm.ClassFile.FieldType.int), (Option.some Jvm.ClassFile.FieldType.boolean), (Option.some Jvm.ClassFile.FieldType.boolean), (Option.some Jvm.ClassFile.FieldType.boolean), (Option.some Jvm.ClassFile.FieldType.boolean), (Option.some Jvm.ClassFile.FieldType.boolean), (Option.some Jvm.ClassFile.FieldType.boolean), (Option.some Jvm.ClassFile.FieldType.boolean), (Option.some Jvm.ClassFile.FieldType.boolean), (Option.some Jvm.ClassFile.FieldType.boolean), (Option.some Jvm.ClassFile.FieldType.int), (Option.some Jvm.ClassFile.FieldType.boolean), (Option.some Jvm.ClassFile.FieldType.boolean), (Option.some Jvm.ClassFile.FieldType.boolean), (Option.some Jvm.ClassFile.FieldType.boolean), (Option.none : Option Jvm.ClassFile.FieldType), (Option.some Jvm.ClassFile.FieldType.boolean), (Option.some Jvm.ClassFile.FieldType.boolean), (Option.some Jvm.ClassFile.FieldType.boolean), (Option.some Jvm.ClassFile.FieldType.boolean), (Option.some Jvm.ClassFile.FieldType.boolean), (Option.some Jvm.ClassFile.FieldType.boolean), (Option.some Jvm.ClassFile.FieldType.int), (Option.some Jvm.ClassFile.FieldType.int), (Option.some Jvm.ClassFile.FieldType.boolean), (Option.some Jvm.ClassFile.FieldType.int), (Option.some Jvm.ClassFile.FieldType.int), (Option.some Jvm.ClassFile.FieldType.int), (Option.some Jvm.ClassFile.FieldType.int), (Option.some Jvm.ClassFile.FieldType.int), (Option.none : Option Jvm.ClassFile.FieldType), (Option.none : Option Jvm.ClassFile.FieldType), (Option.some Jvm.ClassFile.FieldType.int), (Option.some Jvm.ClassFile.FieldType.int), (Option.some Jvm.ClassFile.FieldType.int), (Option.some Jvm.ClassFile.FieldType.int), (Option.some Jvm.ClassFile.FieldType.int), (Option.some Jvm.ClassFile.FieldType.int), (Option.none : Option Jvm.ClassFile.FieldType), (Option.none : Option Jvm.ClassFile.FieldType), (Option.none : Option Jvm.ClassFile.FieldType), (Option.none : Option Jvm.ClassFile.FieldType), (Option.some (Jvm.ClassFile.FieldType.object "ClauseDesk$Kind")), (Option.some Jvm.ClassFile.FieldType.int), (Option.some Jvm.ClassFile.FieldType.int), (Option.none : Option Jvm.ClassFile.FieldType), (Option.none : Option Jvm.ClassFile.FieldType), (Option.none : Option Jvm.ClassFile.FieldType), (Option.none : Option Jvm.ClassFile.FieldType), (Option.some Jvm.ClassFile.FieldType.int), (Option.none : Option Jvm.ClassFile.FieldType), (Option.some Jvm.ClassFile.FieldType.int), (Option.none : Option Jvm.ClassFile.FieldType), (Option.none : Option Jvm.ClassFile.FieldType), (Option.none : Option Jvm.ClassFile.FieldType), (Option.some Jvm.ClassFile.FieldType.boolean), (Option.some Jvm.ClassFile.FieldType.int), (Option.some Jvm.ClassFile.FieldType.boolean), (Option.some Jvm.ClassFile.FieldType.int), (Option.some Jvm.ClassFile.FieldType.int), (Option.none : Option Jvm.ClassFile.FieldType), (Option.none : Option Jvm.ClassFile.FieldType), (Option.none : Option Jvm.ClassFile.FieldType), (Option.some Jvm.ClassFile.FieldType.int), (Option.none : Option Jvm.ClassFile.FieldType), (Option.none : Option Jvm.ClassFile.FieldType), (Option.none : Option Jvm.ClassFile.FieldType), (Option.some Jvm.ClassFile.FieldType.int), (Option.some Jvm.ClassFile.FieldType.boolean), (Option.none : Option Jvm.ClassFile.FieldType), (Option.none : Option Jvm.ClassFile.FieldType), (Option.none : Option Jvm.ClassFile.FieldType), (Option.none : Option Jvm.ClassFile.FieldType), (Option.none : Option Jvm.ClassFile.FieldType), (Option.none : Option Jvm.ClassFile.FieldType), (Option.some Jvm.ClassFile.FieldType.int), (Option.some Jvm.ClassFile.FieldType.int), (Option.some Jvm.ClassFile.FieldType.boolean), (Option.some Jvm.ClassFile.FieldType.int), (Option.some Jvm.ClassFile.FieldType.boolean), (Option.some Jvm.ClassFile.FieldType.int), (Option.some Jvm.ClassFile.FieldType.int), (Option.some Jvm.ClassFile.FieldType.int), (Option.some Jvm.ClassFile.FieldType.int), (Option.some Jvm.ClassFile.FieldType.int), (Option.some Jvm.ClassFile.FieldType.int), (Option.some Jvm.ClassFile.FieldType.int), (Option.some Jvm.ClassFile.FieldType.int), (Option.some Jvm.ClassFile.FieldType.int), (Option.some Jvm.ClassFile.FieldType.int), (Option.some Jvm.ClassFile.FieldType.int), (Option.some Jvm.ClassFile.FieldType.int), (Option.some Jvm.ClassFile.FieldType.int), (Option.some Jvm.ClassFile.FieldType.int), (Option.some Jvm.ClassFile.FieldType.int), (Option.some Jvm.ClassFile.FieldType.int), (Option.some Jvm.ClassFile.FieldType.double), (Option.some Jvm.ClassFile.FieldType.int), (Option.some Jvm.ClassFile.FieldType.int), (Option.some Jvm.ClassFile.FieldType.boolean), (Option.some Jvm.ClassFile.FieldType.int), (Option.some Jvm.ClassFile.FieldType.int), (Option.some Jvm.ClassFile.FieldType.boolean : Option Jvm.ClassFile.FieldType)]
def z_ret (k : Nat) : Option FieldType := z_rets.getD k none
/-- a constructor -/
def z_ini (k : Nat) : Bool := [true, true, true, true, true, true, true, true, true, true, true, true, true, true, false, false, false, false, false, false, false, false, false, false, false, false, false, false, false, false, false, false, false, false, false, false, false, false, false, true, true, false, false, false, false, false, false, false, true, false, false, false, false, false, false, false, false, false, false, false, false, false, false, false, false, false, false, false, false, false, false, false, false, false, false, false, false, false, false, false, false, false, false, false, false, false, false, false, false, false, false, false, false, false, false, false, false, false, false, false, false, false, false, false, false, false, false, false, false, false, false, false, false, false, false, false, false, false, false, false, false, false, false, false, false, false, false, false, false, false, false, false, false, false, false, false, false, false, false, false, false, false, false, false, false, false, false, false, false, false, false, false, false, false, false, false, false, false, false, false, false, false, false, false, false, false, false, false, false, false, false, false, false, false, false, false, false, false, false, false, false, false, false, false, false, false, false, false, false, false].getD k false
def z_cp : List Nat := [127, 160, 179, 121, 115, 327, 347, 386, 380, 321, 107, 1358, 1355, 1349, 924, 920, 936, 932, 737, 1476, 1473, 596, 1485, 1469, 1523, 1547, 1519, 1461, 1458, 1499, 1565, 1562, 1559, 1586, 1331, 1327, 1597, 1594, 1591, 1580, 1577, 1572, 1552, 1629, 1632, 1626, 1623, 1652, 1661, 1655, 1687, 1692, 1344, 957, 952, 1338, 1335, 1323, 946, 949, 942, 999, 980, 1003, 690, 1024, 1032, 1039, 1036, 1043, 1047, 1029, 1065, 1058, 1051, 1073, 1015, 1011, 1081, 808, 1086, 1097, 1093, 1111, 1136, 1140, 1160, 674, 1169, 1156, 1152, 1148, 1184, 1131, 1127, 1123, 1117, 710, 1200, 1207, 1227, 1231, 1243, 1237, 1247, 1222, 1214, 1107, 1077, 682, 678, 1275, 1271, 1267, 1286, 586, 1282, 1296, 1299, 1292, 1306, 1310, 1261, 1255, 1314, 760, 756, 1319, 640, 648, 654, 662, 694, 686, 698, 706, 714, 724, 733, 718, 666, 644, 741, 744, 603, 748, 763, 752, 636, 769, 783, 779, 775, 798, 813, 816, 820, 804, 832, 828, 794, 632, 1007, 928, 611, 607, 842, 846, 838, 860, 856, 852, 593, 600, 583, 516, 883, 879, 867, 875, 871, 891, 887, 917, 903, 899, 912, 907, 895, 0]
def z_fl : List (List (String × String × String × Bool)) := [[("ClauseDesk", "tape", "[B", true), ("ClauseDesk", "tapeLength", "I", false), ("ClauseDesk", "errorPlace", "I", false), ("ClauseDesk", "library", "LClauseDesk$Library;", false), ("ClauseDesk", "spare", "LClauseDesk$Library;", false), ("ClauseDesk", "factValues", "[I", true), ("ClauseDesk", "chosen", "I", false), ("ClauseDesk", "dropped", "I", false), ("ClauseDesk", "now", "LClauseDesk$Contract;", true), ("ClauseDesk", "trial", "LClauseDesk$Contract;", true), ("ClauseDesk", "gauge", "LClauseDesk$Scribe;", true), ("ClauseDesk", "gaugePage", "LClauseDesk$Page;", true), ("ClauseDesk", "kept", "LClauseDesk$Draft;", true), ("ClauseDesk", "runs", "[I", true)], [("ClauseDesk$Library", "grammar", "LClauseDesk$Grammar;", true), ("ClauseDesk$Library", "tokens", "LClauseDesk$Tokens;", true), ("ClauseDesk$Library", "code", "LClauseDesk$Code;", true), ("ClauseDesk$Library", "clauses", "[LClauseDesk$Clause;", true), ("ClauseDesk$Library", "factNumbers", "[I", true), ("ClauseDesk$Library", "factNames", "[I", true), ("ClauseDesk$Library", "termNames", "[I", true), ("ClauseDesk$Library", "factCount", "I", false), ("ClauseDesk$Library", "clauseCount", "I", false), ("ClauseDesk$Library", "termCount", "I", false), ("ClauseDesk$Library", "optionals", "I", false), ("ClauseDesk$Library", "nameLookedAt", "I", false)], [("ClauseDesk$Grammar", "tokens", "LClauseDesk$Tokens;", true), ("ClauseDesk$Grammar", "code", "LClauseDesk$Code;", true), ("ClauseDesk$Grammar", "clauses", "[LClauseDesk$Clause;", true), ("ClauseDesk$Grammar", "surplus", "LClauseDesk$Clause;", true), ("ClauseDesk$Grammar", "clausesSeen", "I", false), ("ClauseDesk$Grammar", "place", "I", false)], [("ClauseDesk$Tokens", "text", "[B", true), ("ClauseDesk$Tokens", "textLength", "I", false), ("ClauseDesk$Tokens", "kinds", "[LClauseDesk$Kind;", true), ("ClauseDesk$Tokens", "starts", "[I", true), ("ClauseDesk$Tokens", "lengths", "[I", true), ("ClauseDesk$Tokens", "meanings", "[I", true), ("ClauseDesk$Tokens", "size", "I", false)], [("ClauseDesk$Code", "kinds", "[LClauseDesk$Kind;", true), ("ClauseDesk$Code", "operands", "[I", true), ("ClauseDesk$Code", "size", "I", false)], [("ClauseDesk$Clause", "optional", "Z", false), ("ClauseDesk$Clause", "worth", "I", false), ("ClauseDesk$Clause", "needs", "I", false), ("ClauseDesk$Clause", "bars", "I", false), ("ClauseDesk$Clause", "after", "I", false), ("ClauseDesk$Clause", "headFrom", "I", false), ("ClauseDesk$Clause", "headTo", "I", false), ("ClauseDesk$Clause", "testFrom", "I", false), ("ClauseDesk$Clause", "testTo", "I", false), ("ClauseDesk$Clause", "itemsFrom", "I", false), ("ClauseDesk$Clause", "itemsTo", "I", false)], [("ClauseDesk$Contract", "draft", "LClauseDesk$Draft;", true), ("ClauseDesk$Contract", "found", "LClauseDesk$Conflicts;", true), ("ClauseDesk$Contract", "scribe", "LClauseDesk$Scribe;", true), ("ClauseDesk$Contract", "holding", "I", false), ("ClauseDesk$Contract", "wanted", "I", false), ("ClauseDesk$Contract", "shownTo", "[I", true), ("ClauseDesk$Contract", "defs", "[I", true), ("ClauseDesk$Contract", "uses", "[I", true), ("ClauseDesk$Contract", "firstDefs", "[I", true), ("ClauseDesk$Contract", "defsAhead", "[I", true)], [("ClauseDesk$Conflicts", "kinds", "[I", true), ("ClauseDesk$Conflicts", "clauses", "[I", true), ("ClauseDesk$Conflicts", "others", "[I", true), ("ClauseDesk$Conflicts", "size", "I", false)], [("ClauseDesk$Scribe", "library", "LClauseDesk$Library;", false), ("ClauseDesk$Scribe", "factValues", "[I", false), ("ClauseDesk$Scribe", "places", "[I", false), ("ClauseDesk$Scribe", "page", "LClauseDesk$Page;", false), ("ClauseDesk$Scribe", "stack", "[I", true), ("ClauseDesk$Scribe", "height", "I", false), ("ClauseDesk$Scribe", "shown", "[I", true), ("ClauseDesk$Scribe", "shownCount", "I", false)], [("ClauseDesk$Draft", "mask", "I", false), ("ClauseDesk$Draft", "size", "I", false), ("ClauseDesk$Draft", "order", "[I", true), ("ClauseDesk$Draft", "places", "[I", true), ("ClauseDesk$Draft", "itemsFrom", "[I", true), ("ClauseDesk$Draft", "itemsTo", "[I", true), ("ClauseDesk$Draft", "page", "LClauseDesk$Page;", true)], [("ClauseDesk$Page", "bytes", "[B", true), ("ClauseDesk$Page", "length", "I", false)], [("ClauseDeskLaw$Sim", "facts", "I", false), ("ClauseDeskLaw$Sim", "clauses", "I", false), ("ClauseDeskLaw$Sim", "terms", "I", false), ("ClauseDeskLaw$Sim", "values", "[I", false), ("ClauseDeskLaw$Sim", "testFact", "[I", false), ("ClauseDeskLaw$Sim", "than", "[I", false), ("ClauseDeskLaw$Sim", "isOptional", "[Z", false), ("ClauseDeskLaw$Sim", "good", "[I", false), ("ClauseDeskLaw$Sim", "bad", "[I", false), ("ClauseDeskLaw$Sim", "needs", "[[I", false), ("ClauseDeskLaw$Sim", "bars", "[[I", false), ("ClauseDeskLaw$Sim", "after", "[[I", false), ("ClauseDeskLaw$Sim", "items", "[[LClauseDeskLaw$Item;", false), ("ClauseDeskLaw$Sim", "choice", "[I", false), ("ClauseDeskLaw$Sim", "letters", "[I", false), ("ClauseDeskLaw$Sim", "in", "[Z", false), ("ClauseDeskLaw$Sim", "order", "[I", false), ("ClauseDeskLaw$Sim", "number", "[I", false), ("ClauseDeskLaw$Sim", "text", "Ljava/lang/StringBuilder;", false), ("ClauseDeskLaw$Sim", "bytes", "[Ljava/lang/String;", false), ("ClauseDeskLaw$Sim", "conflicts", "[[I", false), ("ClauseDeskLaw$Sim", "told", "I", false), ("ClauseDeskLaw$Sim", "hard", "I", false), ("ClauseDeskLaw$Sim", "defs", "[I", false), ("ClauseDeskLaw$Sim", "uses", "[I", false), ("ClauseDeskLaw$Sim", "firstDef", "[I", false), ("ClauseDeskLaw$Sim", "events", "[[I", false), ("ClauseDeskLaw$Sim", "shown", "I", false)], [("java/lang/AbstractStringBuilder", "value", "[B", false), ("java/lang/AbstractStringBuilder", "coder", "B", false), ("java/lang/AbstractStringBuilder", "maybeLatin1", "Z", false), ("java/lang/AbstractStringBuilder", "count", "I", false)], [("java/lang/String", "value", "[B", true), ("java/lang/String", "coder", "B", true)], [("ClauseDeskLaw$Item", "sort", "I", false), ("ClauseDeskLaw$Item", "number", "I", false), ("ClauseDeskLaw$Item", "fact", "I", false), ("ClauseDeskLaw$Item", "one", "[LClauseDeskLaw$Item;", false), ("ClauseDeskLaw$Item", "two", "[LClauseDeskLaw$Item;", false)], [("java/lang/Enum", "ordinal", "I", true), ("ClauseDesk$Kind", "text", "Ljava/lang/String;", true)]]
/-- the fields of the class of a kind -/
def z_T (k : Nat) : u_T := fun j => (z_fl.getD (k - 1) []).getD j ("", "", "", false)
/-- how many of them -/
def z_nf (k : Nat) : Nat := (z_fl.getD (k - 1) []).length
def z_kns : List String := ["ClauseDesk", "ClauseDesk$Library", "ClauseDesk$Grammar", "ClauseDesk$Tokens", "ClauseDesk$Code", "ClauseDesk$Clause", "ClauseDesk$Contract", "ClauseDesk$Conflicts", "ClauseDesk$Scribe", "ClauseDesk$Draft", "ClauseDesk$Page", "ClauseDeskLaw$Sim", "java/lang/StringBuilder", "java/lang/String", "ClauseDeskLaw$Item", "ClauseDesk$Kind"]
def z_kn (k : Nat) : String := z_kns.getD (k - 1) ""
def z_cl : List vw_C := [(z_kn 1, z_T 1, z_nf 1), (z_kn 2, z_T 2, z_nf 2), (z_kn 3, z_T 3, z_nf 3), (z_kn 4, z_T 4, z_nf 4), (z_kn 5, z_T 5, z_nf 5), (z_kn 6, z_T 6, z_nf 6), (z_kn 7, z_T 7, z_nf 7), (z_kn 8, z_T 8, z_nf 8), (z_kn 9, z_T 9, z_nf 9), (z_kn 10, z_T 10, z_nf 10), (z_kn 11, z_T 11, z_nf 11), (z_kn 12, z_T 12, z_nf 12), (z_kn 13, z_T 13, z_nf 13), (z_kn 14, z_T 14, z_nf 14), (z_kn 15, z_T 15, z_nf 15), (z_kn 16, z_T 16, z_nf 16)]
/-- links: (class, place, number, place of the word) -/
def z_lf : List (Nat × Nat × Nat × Nat) := [(0, 9, 400, 131), (0, 15, 401, 132), (0, 21, 402, 133), (0, 25, 403, 134), (0, 29, 404, 135), (0, 32, 405, 136), (0, 35, 406, 137), (1, 11, 500, 163), (1, 17, 501, 164), (1, 21, 502, 165), (2, 7, 600, 181), (2, 13, 601, 185), (2, 17, 602, 188), (2, 20, 603, 191), (2, 23, 604, 194), (2, 26, 605, 198), (2, 29, 606, 201), (2, 32, 607, 204), (2, 35, 608, 207), (2, 38, 609, 210), (2, 41, 610, 214), (3, 12, 300, 241), (3, 21, 301, 243), (3, 27, 302, 245), (3, 32, 303, 247), (3, 36, 304, 248), (3, 40, 305, 249), (4, 12, 200, 264), (4, 18, 300, 242), (4, 22, 201, 266), (4, 23, 301, 244), (4, 27, 202, 269), (4, 28, 302, 246), (4, 32, 203, 272), (4, 33, 204, 276), (4, 37, 205, 278), (4, 40, 206, 279), (4, 43, 207, 280), (4, 47, 208, 282), (4, 50, 209, 285), (4, 53, 210, 288), (4, 56, 211, 291), (5, 9, 800, 329), (5, 15, 801, 330), (5, 18, 802, 331), (5, 21, 803, 332), (6, 9, 900, 349), (6, 15, 901, 350), (6, 19, 902, 351), (6, 22, 903, 352), (6, 26, 904, 353), (6, 29, 905, 354), (6, 33, 906, 355), (6, 36, 907, 357), (7, 7, 1101, 389), (7, 13, 1100, 388), (8, 9, 1000, 397), (8, 15, 1001, 399), (8, 18, 1002, 402), (8, 22, 1003, 405), (8, 25, 1004, 408), (8, 28, 1005, 410), (8, 36, 1006, 412), (9, 12, 701, 431), (9, 21, 702, 433), (9, 25, 703, 434), (9, 29, 704, 436), (9, 32, 705, 438), (9, 36, 706, 439), (9, 39, 707, 440), (9, 42, 708, 441), (9, 45, 709, 442), (9, 53, 700, 429), (10, 9, 100, 470), (10, 13, 101, 471), (10, 17, 102, 472), (10, 23, 103, 473), (10, 27, 104, 474), (10, 30, 105, 475), (10, 34, 106, 476), (10, 37, 107, 477), (10, 45, 108, 478), (10, 49, 109, 479), (10, 55, 110, 480), (10, 62, 111, 481), (10, 69, 112, 482), (10, 73, 113, 483), (11, 15, 1300, 1368), (11, 22, 1301, 1369), (13, 7, 1214, 1394), (13, 16, 1218, 1396), (15, 15, 1401, 1609), (15, 9, 1400, 1608), (11, 79, 1303, 1371), (15, 1048, 1302, 1370), (14, 49, 1500, 1663), (14, 53, 1200, 1380), (14, 58, 1502, 1665), (14, 61, 1201, 1381), (14, 64, 1501, 1664), (14, 71, 1503, 1666), (14, 75, 1504, 1667), (14, 94, 1202, 1382), (14, 97, 1214, 1395), (14, 139, 1203, 1383), (14, 146, 1204, 1384), (14, 149, 1205, 1385), (14, 152, 1206, 1386), (14, 156, 1207, 1387), (14, 159, 1208, 1388), (14, 163, 1209, 1389), (14, 167, 1210, 1390), (14, 170, 1211, 1391), (14, 174, 1212, 1392), (14, 178, 1213, 1393), (0, 115, 1601, 1720), (23, 7, 1600, 1721), (3, 105, 502, 166), (3, 118, 607, 206), (3, 127, 608, 209), (3, 133, 600, 182), (3, 141, 601, 187), (3, 89, 605, 199), (3, 102, 606, 202), (3, 108, 609, 212), (3, 115, 610, 216), (4, 90, 406, 138), (4, 141, 600, 183), (4, 76, 602, 189), (4, 81, 603, 192), (4, 164, 604, 196), (4, 65, 305, 250), (10, 220, 204, 277), (6, 80, 201, 267), (6, 39, 202, 270), (8, 60, 203, 274), (8, 66, 604, 195), (9, 86, 1003, 406), (9, 57, 1006, 413), (9, 93, 208, 283), (9, 98, 203, 273), (9, 102, 607, 205), (9, 107, 608, 208), (9, 122, 210, 289), (9, 132, 1001, 400), (9, 135, 1002, 403), (9, 144, 1004, 409), (9, 61, 1101, 390), (9, 147, 609, 211), (9, 149, 610, 215), (9, 152, 1005, 411), (9, 154, 907, 358), (9, 187, 201, 268), (9, 164, 202, 271), (9, 157, 906, 356), (9, 229, 606, 203), (9, 232, 605, 200), (9, 222, 209, 286), (10, 89, 200, 265), (10, 214, 207, 281), (10, 217, 208, 284), (10, 140, 700, 430), (10, 237, 1003, 407), (10, 263, 609, 213), (10, 266, 610, 217), (10, 273, 1101, 391), (10, 230, 203, 275), (10, 234, 703, 435), (10, 177, 1000, 398), (10, 240, 600, 184), (10, 246, 602, 190), (10, 249, 603, 193), (10, 252, 604, 197), (4, 87, 601, 186), (10, 149, 209, 287), (10, 191, 210, 290), (10, 143, 1001, 401), (10, 164, 701, 432), (10, 168, 803, 333), (10, 146, 1002, 404), (10, 194, 704, 437)]
def z_lc : List (Nat × Nat × Nat × Nat × Nat × Nat) := [(3, 9, 4, 123, 124, 72), (3, 18, 5, 156, 157, 73), (3, 25, 6, 174, 176, 74), (4, 9, 3, 117, 118, 71), (8, 31, 11, 382, 383, 79), (9, 9, 8, 323, 324, 76), (9, 18, 9, 343, 344, 77), (9, 48, 10, 376, 377, 78), (10, 20, 2, 111, 112, 70), (10, 40, 7, 317, 318, 75), (10, 52, 9, 464, 344, 77), (10, 59, 11, 466, 383, 79), (10, 66, 10, 468, 377, 78), (13, 13, 13, 1351, 1352, 81), (12, 18, 14, 1573, 1574, 82), (14, 33, 13, 1553, 1352, 81), (14, 46, 15, 1656, 1658, 93), (14, 54, 12, 1345, 1346, 84), (14, 20, 1, 103, 104, 69)]
def z_la : List (Nat × Nat × Nat × String × Nat) := [(0, 19, 310, "ClauseDesk$Kind", 129), (1, 9, 310, "ClauseDesk$Kind", 162), (3, 25, 312, "ClauseDesk$Clause", 174), (14, 46, 313, "ClauseDeskLaw$Item", 1656), (14, 162, 314, "[I", 1646), (14, 173, 315, "[LClauseDeskLaw$Item;", 1648)]
def z_lk : List (Nat × Nat × Int × Nat) := [(14, 8, 790386105, 925), (14, 7, 2147483647, 921), (17, 200, 2147483639, 1478), (11, 39, 2147483647, 1482), (20, 265, 1431655765, 587), (20, 266, 858993459, 588), (20, 267, 252645135, 589), (10, 124, (-99999), 612), (10, 125, 99999, 613)]
def z_ll : List (Nat × Nat × Nat × Nat) := [(7, 21, 1000000000, 700), (7, 23, 48, 701), (7, 25, 10, 702)]
/-- string constants: (class, place, address, text) -/
def z_ls : List (Nat × Nat × Nat × String) := [(14, 79, 101, ""), (14, 92, 111, "{ "), (14, 101, 112, "def "), (14, 103, 113, "use "), (14, 109, 114, "'Text "), (14, 114, 115, "; ' "), (14, 116, 116, "ref "), (14, 118, 117, "show "), (14, 120, 118, "*2-"), (14, 122, 103, "; "), (14, 124, 119, "if "), (14, 130, 120, "else "), (14, 132, 121, "points { point "), (14, 134, 122, "point "), (14, 136, 123, "} "), (14, 142, 100, "fact "), (14, 144, 102, " = "), (14, 185, 104, "clause "), (14, 187, 105, "when "), (14, 189, 106, " > "), (14, 191, 107, "optional "), (14, 193, 108, "needs"), (14, 197, 109, "bars"), (14, 198, 110, "after")]
/-- statics that hold a reference: (class, place, address, (class, name, type), place of the word) -/
def z_lg : List (Nat × Nat × Nat × (String × String × String) × Nat) := [(20, 83, 61, ("java/lang/Integer", "DigitOnes", "[B"), 1633), (20, 87, 62, ("java/lang/Integer", "DigitTens", "[B"), 1635), (15, 1053, 70, ("jdk/internal/util/Preconditions", "SIOOBE_FORMATTER", "Ljava/util/function/BiFunction;"), 953), (0, 74, 41, ("ClauseDesk$Kind", "END", "LClauseDesk$Kind;"), 1052), (0, 60, 42, ("ClauseDesk$Kind", "WRONG", "LClauseDesk$Kind;"), 809), (0, 102, 38, ("ClauseDesk$Kind", "NAME", "LClauseDesk$Kind;"), 1054), (0, 68, 39, ("ClauseDesk$Kind", "NUMBER", "LClauseDesk$Kind;"), 1067), (0, 109, 40, ("ClauseDesk$Kind", "STRING", "LClauseDesk$Kind;"), 1068), (3, 56, 1, ("ClauseDesk$Kind", "FACT", "LClauseDesk$Kind;"), 1088), (3, 73, 38, ("ClauseDesk$Kind", "NAME", "LClauseDesk$Kind;"), 1098), (3, 76, 35, ("ClauseDesk$Kind", "EQUAL", "LClauseDesk$Kind;"), 1099), (3, 79, 39, ("ClauseDesk$Kind", "NUMBER", "LClauseDesk$Kind;"), 1101), (3, 82, 27, ("ClauseDesk$Kind", "SEMICOLON", "LClauseDesk$Kind;"), 1102), (3, 284, 23, ("ClauseDesk$Kind", "OPEN_SUM", "LClauseDesk$Kind;"), 1170), (3, 287, 28, ("ClauseDesk$Kind", "COMMA", "LClauseDesk$Kind;"), 1172), (3, 278, 24, ("ClauseDesk$Kind", "CLOSE_SUM", "LClauseDesk$Kind;"), 1164), (3, 166, 45, ("ClauseDesk$1", "$SwitchMap$ClauseDesk$Kind", "[I"), 1161), (3, 275, 43, ("ClauseDesk$Kind", "TURN", "LClauseDesk$Kind;"), 1163), (3, 269, 31, ("ClauseDesk$Kind", "TIMES", "LClauseDesk$Kind;"), 1174), (3, 272, 32, ("ClauseDesk$Kind", "OVER", "LClauseDesk$Kind;"), 1176), (3, 260, 29, ("ClauseDesk$Kind", "PLUS", "LClauseDesk$Kind;"), 1178), (3, 263, 30, ("ClauseDesk$Kind", "MINUS", "LClauseDesk$Kind;"), 1180), (3, 245, 33, ("ClauseDesk$Kind", "LESS", "LClauseDesk$Kind;"), 1185), (3, 248, 34, ("ClauseDesk$Kind", "MORE", "LClauseDesk$Kind;"), 1187), (3, 251, 36, ("ClauseDesk$Kind", "AT_MOST", "LClauseDesk$Kind;"), 1189), (3, 254, 37, ("ClauseDesk$Kind", "AT_LEAST", "LClauseDesk$Kind;"), 1191), (3, 233, 18, ("ClauseDesk$Kind", "NOT", "LClauseDesk$Kind;"), 1132), (3, 236, 25, ("ClauseDesk$Kind", "OPEN_TEST", "LClauseDesk$Kind;"), 1141), (3, 239, 26, ("ClauseDesk$Kind", "CLOSE_TEST", "LClauseDesk$Kind;"), 1143), (3, 230, 16, ("ClauseDesk$Kind", "AND", "LClauseDesk$Kind;"), 1193), (3, 224, 17, ("ClauseDesk$Kind", "OR", "LClauseDesk$Kind;"), 1195), (3, 121, 3, ("ClauseDesk$Kind", "WHEN", "LClauseDesk$Kind;"), 1118), (3, 130, 4, ("ClauseDesk$Kind", "OPTIONAL", "LClauseDesk$Kind;"), 1201), (3, 144, 5, ("ClauseDesk$Kind", "NEEDS", "LClauseDesk$Kind;"), 1208), (3, 147, 6, ("ClauseDesk$Kind", "BARS", "LClauseDesk$Kind;"), 1209), (3, 150, 7, ("ClauseDesk$Kind", "AFTER", "LClauseDesk$Kind;"), 1210), (3, 199, 11, ("ClauseDesk$Kind", "SHOW", "LClauseDesk$Kind;"), 1232), (3, 205, 12, ("ClauseDesk$Kind", "IF", "LClauseDesk$Kind;"), 1238), (3, 208, 13, ("ClauseDesk$Kind", "ELSE", "LClauseDesk$Kind;"), 1239), (3, 215, 14, ("ClauseDesk$Kind", "POINTS", "LClauseDesk$Kind;"), 1248), (3, 153, 21, ("ClauseDesk$Kind", "OPEN_BLOCK", "LClauseDesk$Kind;"), 1215), (3, 218, 15, ("ClauseDesk$Kind", "POINT", "LClauseDesk$Kind;"), 1250), (3, 160, 22, ("ClauseDesk$Kind", "CLOSE_BLOCK", "LClauseDesk$Kind;"), 1217), (3, 180, 40, ("ClauseDesk$Kind", "STRING", "LClauseDesk$Kind;"), 1223), (3, 86, 2, ("ClauseDesk$Kind", "CLAUSE", "LClauseDesk$Kind;"), 1112), (3, 46, 41, ("ClauseDesk$Kind", "END", "LClauseDesk$Kind;"), 1082), (4, 173, 2, ("ClauseDesk$Kind", "CLAUSE", "LClauseDesk$Kind;"), 1287), (4, 158, 5, ("ClauseDesk$Kind", "NEEDS", "LClauseDesk$Kind;"), 1300), (4, 161, 6, ("ClauseDesk$Kind", "BARS", "LClauseDesk$Kind;"), 1301), (4, 167, 7, ("ClauseDesk$Kind", "AFTER", "LClauseDesk$Kind;"), 1302), (4, 107, 45, ("ClauseDesk$1", "$SwitchMap$ClauseDesk$Kind", "[I"), 1262), (4, 97, 38, ("ClauseDesk$Kind", "NAME", "LClauseDesk$Kind;"), 1257), (1, 25, 42, ("ClauseDesk$Kind", "WRONG", "LClauseDesk$Kind;"), 649), (6, 72, 45, ("ClauseDesk$1", "$SwitchMap$ClauseDesk$Kind", "[I"), 667), (6, 121, 39, ("ClauseDesk$Kind", "NUMBER", "LClauseDesk$Kind;"), 719), (6, 127, 38, ("ClauseDesk$Kind", "NAME", "LClauseDesk$Kind;"), 725), (6, 130, 43, ("ClauseDesk$Kind", "TURN", "LClauseDesk$Kind;"), 727), (6, 133, 18, ("ClauseDesk$Kind", "NOT", "LClauseDesk$Kind;"), 729), (6, 55, 13, ("ClauseDesk$Kind", "ELSE", "LClauseDesk$Kind;"), 655), (6, 61, 12, ("ClauseDesk$Kind", "IF", "LClauseDesk$Kind;"), 657), (9, 178, 8, ("ClauseDesk$Kind", "REF", "LClauseDesk$Kind;"), 787), (9, 184, 10, ("ClauseDesk$Kind", "USE", "LClauseDesk$Kind;"), 789), (9, 247, 9, ("ClauseDesk$Kind", "DEF", "LClauseDesk$Kind;"), 833), (9, 206, 6, ("ClauseDesk$Kind", "BARS", "LClauseDesk$Kind;"), 799), (9, 213, 5, ("ClauseDesk$Kind", "NEEDS", "LClauseDesk$Kind;"), 821), (9, 216, 7, ("ClauseDesk$Kind", "AFTER", "LClauseDesk$Kind;"), 823)]
def z_lgi : List (Nat × Nat × Int × (String × String × String) × Nat) := [(11, 18, 1, ("java/lang/String", "COMPACT_STRINGS", "Z"), 1360), (15, 38, 1, ("java/lang/String", "COMPACT_STRINGS", "Z"), 937)]
def z_lgn : List (Nat × Nat × Nat × (String × String × String)) := [(0, 112, 44, ("ClauseDesk", "KINDS", "[LClauseDesk$Kind;"))]
/-- calls: (class, place, method, how, what is named where it is not the method itself, places of the words); how: 0 virtual, 1 inherited, 2 a nest mate's, 3 static, 4 a nest mate's static, 5 constructor, 6 a nest mate's constructor, 7 of the superclass, 8 overridden -/
def z_lm : List (Nat × Nat × Nat × Nat × MethodName × List Nat) := [(3, 11, 0, 6, ⟨"", "", ""⟩, [125, 126, 72]), (3, 20, 1, 6, ⟨"", "", ""⟩, [158, 159, 73]), (3, 31, 2, 6, ⟨"", "", ""⟩, [177, 178, 74]), (4, 11, 3, 5, ⟨"", "", ""⟩, [119, 120, 71]), (8, 33, 7, 5, ⟨"", "", ""⟩, [384, 385, 79]), (9, 11, 5, 6, ⟨"", "", ""⟩, [325, 326, 76]), (9, 20, 6, 6, ⟨"", "", ""⟩, [345, 346, 77]), (9, 50, 8, 5, ⟨"", "", ""⟩, [378, 379, 78]), (10, 22, 4, 6, ⟨"", "", ""⟩, [113, 114, 70]), (10, 42, 9, 5, ⟨"", "", ""⟩, [319, 320, 75]), (10, 54, 6, 6, ⟨"", "", ""⟩, [465, 346, 77]), (10, 61, 7, 5, ⟨"", "", ""⟩, [467, 385, 79]), (10, 68, 8, 5, ⟨"", "", ""⟩, [469, 379, 78]), (12, 1, 11, 5, ⟨"", "", ""⟩, [1356, 1357, 80]), (13, 15, 12, 5, ⟨"", "", ""⟩, [1353, 1354, 81]), (15, 335, 16, 0, ⟨"", "", ""⟩, [933, 934, 935, 82]), (17, 194, 18, 3, ⟨"", "", ""⟩, [1477, 736, 86]), (11, 114, 19, 3, ⟨"", "", ""⟩, [1474, 1475, 85]), (18, 304, 21, 3, ⟨"", "", ""⟩, [1493, 595, 86]), (11, 104, 20, 0, ⟨"", "", ""⟩, [1470, 1472, 2, 80]), (11, 108, 22, 3, ⟨"", "", ""⟩, [1483, 1484, 87]), (11, 40, 16, 0, ⟨"", "", ""⟩, [1524, 934, 935, 82]), (11, 397, 24, 0, ⟨"", "", ""⟩, [1520, 1522, 1, 80]), (11, 399, 25, 0, ⟨"", "", ""⟩, [1544, 1545, 1546, 82]), (11, 32, 17, 0, ⟨"", "", ""⟩, [1515, 930, 931, 82]), (11, 100, 23, 0, ⟨"", "", ""⟩, [1466, 1468, 0, 80]), (11, 208, 26, 0, ⟨"", "", ""⟩, [1516, 1518, 3, 80]), (12, 29, 27, 7, ⟨"", "", ""⟩, [1459, 1710, 1329, 1460, 80]), (11, 83, 29, 0, ⟨"", "", ""⟩, [1495, 1496, 1498, 80]), (11, 191, 30, 3, ⟨"", "", ""⟩, [1563, 1564, 90]), (12, 50, 31, 7, ⟨"", "", ""⟩, [1560, 1717, 1329, 1561, 80]), (12, 343, 34, 7, ⟨"", "", ""⟩, [1328, 1708, 1329, 1330, 80]), (18, 343, 36, 3, ⟨"", "", ""⟩, [1595, 1596, 87]), (18, 339, 37, 3, ⟨"", "", ""⟩, [1592, 1593, 87]), (15, 552, 33, 0, ⟨"", "", ""⟩, [1582, 1583, 1585, 80]), (15, 549, 35, 8, ⟨"java/lang/AbstractStringBuilder", "length", "()I"⟩, [1587, 1708, 1330, 1718, 1325, 81]), (15, 1047, 29, 0, ⟨"", "", ""⟩, [1588, 1496, 1498, 80]), (15, 54, 38, 3, ⟨"", "", ""⟩, [1589, 1590, 87]), (15, 489, 39, 5, ⟨"", "", ""⟩, [1578, 1579, 82]), (12, 137, 40, 5, ⟨"", "", ""⟩, [1575, 1576, 82]), (14, 78, 12, 5, ⟨"", "", ""⟩, [1554, 1354, 81]), (14, 81, 28, 0, ⟨"", "", ""⟩, [1455, 1456, 1457, 81]), (14, 85, 32, 0, ⟨"", "", ""⟩, [1556, 1557, 1558, 81]), (14, 88, 41, 0, ⟨"", "", ""⟩, [1569, 1570, 1571, 81]), (11, 245, 43, 3, ⟨"", "", ""⟩, [1627, 1628, 92]), (11, 248, 44, 3, ⟨"", "", ""⟩, [1630, 1631, 92]), (12, 53, 45, 7, ⟨"", "", ""⟩, [1624, 1719, 1329, 1625, 80]), (14, 36, 15, 3, ⟨"", "", ""⟩, [918, 919, 68]), (14, 42, 14, 3, ⟨"", "", ""⟩, [922, 923, 68]), (14, 48, 48, 6, ⟨"", "", ""⟩, [1659, 1660, 93]), (14, 67, 49, 3, ⟨"", "", ""⟩, [1653, 1654, 68]), (14, 105, 42, 3, ⟨"", "", ""⟩, [1550, 1551, 68]), (14, 111, 46, 0, ⟨"", "", ""⟩, [1620, 1621, 1622, 81]), (14, 126, 51, 3, ⟨"", "", ""⟩, [1690, 1691, 68]), (14, 138, 13, 6, ⟨"", "", ""⟩, [1347, 1348, 84]), (14, 181, 47, 3, ⟨"", "", ""⟩, [1650, 1651, 68]), (14, 194, 50, 3, ⟨"", "", ""⟩, [1685, 1686, 68]), (15, 1059, 53, 3, ⟨"", "", ""⟩, [955, 956, 89]), (11, 138, 21, 3, ⟨"", "", ""⟩, [1339, 595, 86]), (11, 144, 54, 3, ⟨"", "", ""⟩, [1340, 951, 82]), (12, 329, 55, 7, ⟨"", "", ""⟩, [1336, 1709, 1329, 1337, 80]), (14, 32, 35, 0, ⟨"", "", ""⟩, [1324, 1325, 1326, 81]), (14, 35, 56, 0, ⟨"", "", ""⟩, [1332, 1333, 1334, 81]), (19, 9, 54, 3, ⟨"", "", ""⟩, [950, 951, 82]), (15, 492, 58, 0, ⟨"", "", ""⟩, [943, 944, 945, 82]), (15, 495, 59, 3, ⟨"", "", ""⟩, [947, 948, 90]), (10, 79, 61, 0, ⟨"", "", ""⟩, [996, 998, 27, 69]), (0, 83, 64, 0, ⟨"", "", ""⟩, [1025, 688, 689, 72]), (0, 86, 66, 3, ⟨"", "", ""⟩, [1030, 1031, 72]), (0, 93, 67, 3, ⟨"", "", ""⟩, [1037, 1038, 72]), (0, 90, 68, 0, ⟨"", "", ""⟩, [1033, 1035, 30, 72]), (0, 96, 69, 0, ⟨"", "", ""⟩, [1040, 1042, 31, 72]), (0, 99, 70, 0, ⟨"", "", ""⟩, [1044, 1046, 32, 72]), (0, 118, 17, 0, ⟨"", "", ""⟩, [1061, 930, 931, 82]), (0, 128, 60, 0, ⟨"", "", ""⟩, [1066, 940, 941, 82]), (0, 124, 72, 0, ⟨"", "", ""⟩, [1062, 1064, 35, 72]), (0, 105, 73, 0, ⟨"", "", ""⟩, [1055, 1057, 34, 72]), (0, 38, 21, 3, ⟨"", "", ""⟩, [1016, 595, 86]), (0, 44, 18, 3, ⟨"", "", ""⟩, [1017, 736, 86]), (0, 53, 65, 0, ⟨"", "", ""⟩, [1021, 1023, 28, 72]), (0, 57, 71, 0, ⟨"", "", ""⟩, [1026, 1028, 29, 72]), (0, 64, 74, 0, ⟨"", "", ""⟩, [1048, 1050, 33, 72]), (0, 71, 75, 0, ⟨"", "", ""⟩, [1070, 1072, 36, 72]), (4, 59, 76, 0, ⟨"", "", ""⟩, [1012, 1013, 1014, 72]), (3, 66, 79, 0, ⟨"", "", ""⟩, [1087, 806, 807, 72]), (3, 70, 81, 0, ⟨"", "", ""⟩, [1094, 1096, 39, 71]), (3, 156, 84, 0, ⟨"", "", ""⟩, [1133, 1135, 45, 71]), (3, 202, 91, 0, ⟨"", "", ""⟩, [1145, 1147, 46, 71]), (3, 183, 85, 0, ⟨"", "", ""⟩, [1137, 1138, 1139, 73]), (3, 172, 86, 0, ⟨"", "", ""⟩, [1157, 1159, 49, 71]), (3, 176, 87, 1, ⟨"ClauseDesk$Kind", "ordinal", "()I"⟩, [1162, 670, 672, 673, 99]), (3, 266, 89, 0, ⟨"", "", ""⟩, [1153, 1155, 48, 71]), (3, 281, 88, 0, ⟨"", "", ""⟩, [1166, 1168, 50, 71]), (3, 52, 80, 0, ⟨"", "", ""⟩, [1083, 1085, 37, 71]), (3, 257, 90, 0, ⟨"", "", ""⟩, [1149, 1151, 47, 71]), (3, 227, 93, 0, ⟨"", "", ""⟩, [1128, 1130, 44, 71]), (3, 124, 95, 0, ⟨"", "", ""⟩, [1120, 1122, 42, 71]), (3, 242, 92, 3, ⟨"", "", ""⟩, [1182, 1183, 71]), (3, 221, 94, 0, ⟨"", "", ""⟩, [1124, 1126, 43, 71]), (3, 137, 97, 0, ⟨"", "", ""⟩, [1203, 708, 709, 72]), (3, 111, 106, 0, ⟨"", "", ""⟩, [1211, 1213, 53, 71]), (3, 211, 102, 0, ⟨"", "", ""⟩, [1240, 1241, 1242, 73]), (3, 187, 100, 0, ⟨"", "", ""⟩, [1224, 1226, 55, 71]), (3, 190, 101, 0, ⟨"", "", ""⟩, [1228, 1230, 56, 71]), (3, 193, 103, 0, ⟨"", "", ""⟩, [1234, 1236, 57, 71]), (3, 196, 104, 0, ⟨"", "", ""⟩, [1244, 1246, 58, 71]), (3, 163, 105, 0, ⟨"", "", ""⟩, [1219, 1221, 54, 71]), (3, 85, 83, 0, ⟨"", "", ""⟩, [1108, 1109, 1110, 74]), (3, 92, 96, 0, ⟨"", "", ""⟩, [1114, 1116, 41, 71]), (3, 96, 98, 0, ⟨"", "", ""⟩, [1197, 1199, 51, 71]), (3, 99, 99, 0, ⟨"", "", ""⟩, [1204, 1206, 52, 71]), (3, 43, 78, 0, ⟨"", "", ""⟩, [1078, 1079, 1080, 73]), (3, 59, 82, 0, ⟨"", "", ""⟩, [1090, 1092, 38, 71]), (3, 63, 107, 0, ⟨"", "", ""⟩, [1104, 1106, 40, 71]), (0, 77, 109, 0, ⟨"", "", ""⟩, [1276, 680, 681, 72]), (0, 80, 110, 0, ⟨"", "", ""⟩, [1277, 676, 677, 72]), (4, 170, 111, 0, ⟨"", "", ""⟩, [1272, 1273, 1274, 72]), (4, 131, 112, 0, ⟨"", "", ""⟩, [1268, 1270, 61, 70]), (4, 135, 97, 0, ⟨"", "", ""⟩, [1278, 708, 709, 72]), (4, 93, 79, 0, ⟨"", "", ""⟩, [1256, 806, 807, 72]), (4, 138, 114, 0, ⟨"", "", ""⟩, [1283, 1285, 63, 70]), (4, 145, 115, 3, ⟨"", "", ""⟩, [1288, 585, 92]), (4, 150, 117, 0, ⟨"", "", ""⟩, [1293, 1294, 1295, 72]), (4, 154, 118, 3, ⟨"", "", ""⟩, [1297, 1298, 70]), (4, 112, 87, 1, ⟨"ClauseDesk$Kind", "ordinal", "()I"⟩, [1263, 670, 672, 673, 99]), (4, 116, 113, 0, ⟨"", "", ""⟩, [1264, 1266, 60, 70]), (4, 119, 116, 0, ⟨"", "", ""⟩, [1279, 1281, 62, 70]), (4, 122, 119, 0, ⟨"", "", ""⟩, [1289, 1291, 64, 70]), (4, 125, 120, 0, ⟨"", "", ""⟩, [1303, 1305, 65, 70]), (4, 128, 121, 0, ⟨"", "", ""⟩, [1307, 1309, 66, 70]), (4, 103, 122, 0, ⟨"", "", ""⟩, [1258, 1260, 59, 70]), (4, 68, 110, 0, ⟨"", "", ""⟩, [1315, 676, 677, 72]), (8, 40, 125, 0, ⟨"", "", ""⟩, [757, 758, 759, 79]), (10, 223, 126, 0, ⟨"", "", ""⟩, [1320, 754, 755, 78]), (6, 114, 64, 0, ⟨"", "", ""⟩, [687, 688, 689, 72]), (6, 102, 132, 0, ⟨"", "", ""⟩, [691, 692, 693, 79]), (7, 17, 132, 0, ⟨"", "", ""⟩, [699, 692, 693, 79]), (6, 77, 87, 1, ⟨"ClauseDesk$Kind", "ordinal", "()I"⟩, [669, 670, 672, 673, 99]), (6, 140, 21, 3, ⟨"", "", ""⟩, [734, 595, 86]), (6, 146, 18, 3, ⟨"", "", ""⟩, [735, 736, 86]), (6, 108, 97, 0, ⟨"", "", ""⟩, [707, 708, 709, 72]), (6, 124, 137, 0, ⟨"", "", ""⟩, [721, 723, 14, 77]), (6, 64, 131, 0, ⟨"", "", ""⟩, [659, 661, 8, 77]), (6, 136, 138, 3, ⟨"", "", ""⟩, [731, 732, 77]), (6, 84, 110, 0, ⟨"", "", ""⟩, [675, 676, 677, 72]), (6, 89, 109, 0, ⟨"", "", ""⟩, [679, 680, 681, 72]), (6, 92, 133, 0, ⟨"", "", ""⟩, [683, 685, 10, 77]), (6, 96, 134, 0, ⟨"", "", ""⟩, [695, 696, 697, 79]), (6, 105, 135, 0, ⟨"", "", ""⟩, [703, 705, 11, 77]), (6, 111, 136, 0, ⟨"", "", ""⟩, [711, 713, 12, 77]), (6, 117, 139, 0, ⟨"", "", ""⟩, [715, 717, 13, 77]), (6, 45, 129, 0, ⟨"", "", ""⟩, [645, 646, 647, 73]), (6, 51, 130, 0, ⟨"", "", ""⟩, [651, 652, 653, 73]), (6, 68, 140, 0, ⟨"", "", ""⟩, [663, 665, 9, 77]), (4, 72, 144, 4, ⟨"", "", ""⟩, [601, 602, 69]), (8, 56, 144, 4, ⟨"", "", ""⟩, [764, 602, 69]), (8, 47, 126, 0, ⟨"", "", ""⟩, [753, 754, 755, 78]), (8, 48, 146, 3, ⟨"", "", ""⟩, [761, 762, 78]), (8, 52, 143, 4, ⟨"", "", ""⟩, [765, 743, 69]), (9, 89, 128, 0, ⟨"", "", ""⟩, [637, 638, 639, 77]), (9, 110, 141, 0, ⟨"", "", ""⟩, [641, 642, 643, 77]), (9, 114, 142, 0, ⟨"", "", ""⟩, [738, 739, 740, 77]), (9, 118, 143, 4, ⟨"", "", ""⟩, [742, 743, 69]), (9, 125, 145, 0, ⟨"", "", ""⟩, [745, 746, 747, 70]), (9, 128, 147, 0, ⟨"", "", ""⟩, [749, 750, 751, 78]), (9, 138, 134, 0, ⟨"", "", ""⟩, [770, 696, 697, 79]), (9, 141, 132, 0, ⟨"", "", ""⟩, [771, 692, 693, 79]), (9, 191, 130, 0, ⟨"", "", ""⟩, [784, 652, 653, 73]), (9, 195, 97, 0, ⟨"", "", ""⟩, [785, 708, 709, 72]), (9, 200, 18, 3, ⟨"", "", ""⟩, [786, 736, 86]), (9, 168, 129, 0, ⟨"", "", ""⟩, [780, 646, 647, 73]), (9, 174, 150, 3, ⟨"", "", ""⟩, [781, 782, 75]), (9, 160, 151, 0, ⟨"", "", ""⟩, [776, 778, 17, 75]), (9, 235, 79, 0, ⟨"", "", ""⟩, [805, 806, 807, 72]), (9, 236, 154, 0, ⟨"", "", ""⟩, [810, 812, 20, 75]), (9, 239, 155, 3, ⟨"", "", ""⟩, [814, 815, 75]), (9, 225, 156, 0, ⟨"", "", ""⟩, [817, 818, 819, 76]), (9, 243, 158, 0, ⟨"", "", ""⟩, [829, 831, 22, 75]), (9, 203, 153, 0, ⟨"", "", ""⟩, [795, 796, 797, 76]), (9, 209, 157, 0, ⟨"", "", ""⟩, [801, 803, 19, 75]), (9, 219, 159, 0, ⟨"", "", ""⟩, [825, 827, 21, 75]), (9, 72, 148, 0, ⟨"", "", ""⟩, [633, 635, 7, 75]), (9, 76, 149, 0, ⟨"", "", ""⟩, [766, 768, 15, 75]), (9, 80, 152, 0, ⟨"", "", ""⟩, [772, 774, 16, 75]), (9, 83, 160, 0, ⟨"", "", ""⟩, [791, 793, 18, 75]), (10, 85, 77, 0, ⟨"", "", ""⟩, [1008, 1009, 1010, 70]), (10, 93, 108, 0, ⟨"", "", ""⟩, [1074, 1075, 1076, 71]), (10, 99, 123, 0, ⟨"", "", ""⟩, [1252, 1253, 1254, 70]), (10, 103, 124, 0, ⟨"", "", ""⟩, [1311, 1312, 1313, 70]), (10, 107, 127, 0, ⟨"", "", ""⟩, [1316, 1318, 67, 69]), (10, 110, 161, 0, ⟨"", "", ""⟩, [629, 630, 631, 75]), (14, 9, 17, 0, ⟨"", "", ""⟩, [929, 930, 931, 82]), (14, 15, 60, 0, ⟨"", "", ""⟩, [939, 940, 941, 82]), (14, 19, 62, 0, ⟨"", "", ""⟩, [977, 978, 979, 69]), (14, 25, 63, 0, ⟨"", "", ""⟩, [1000, 1001, 1002, 69]), (14, 29, 162, 0, ⟨"", "", ""⟩, [1004, 1005, 1006, 69]), (10, 120, 164, 0, ⟨"", "", ""⟩, [608, 610, 6, 69]), (10, 226, 144, 3, ⟨"", "", ""⟩, [847, 602, 69]), (10, 126, 166, 0, ⟨"", "", ""⟩, [839, 841, 23, 69]), (10, 129, 167, 0, ⟨"", "", ""⟩, [843, 845, 24, 69]), (10, 132, 143, 3, ⟨"", "", ""⟩, [848, 743, 69]), (10, 259, 125, 0, ⟨"", "", ""⟩, [861, 758, 759, 79]), (10, 260, 128, 0, ⟨"", "", ""⟩, [862, 638, 639, 77]), (10, 269, 141, 0, ⟨"", "", ""⟩, [863, 642, 643, 77]), (10, 255, 169, 0, ⟨"", "", ""⟩, [857, 859, 26, 69]), (10, 136, 170, 0, ⟨"", "", ""⟩, [853, 855, 25, 69]), (9, 66, 21, 3, ⟨"", "", ""⟩, [594, 595, 86]), (10, 183, 115, 3, ⟨"", "", ""⟩, [584, 585, 92]), (10, 155, 172, 0, ⟨"", "", ""⟩, [590, 591, 592, 75]), (10, 188, 173, 0, ⟨"", "", ""⟩, [597, 598, 599, 70]), (10, 117, 174, 0, ⟨"", "", ""⟩, [580, 582, 5, 69]), (10, 171, 176, 0, ⟨"", "", ""⟩, [880, 881, 882, 76]), (10, 152, 179, 0, ⟨"", "", ""⟩, [872, 873, 874, 75]), (10, 174, 181, 0, ⟨"", "", ""⟩, [888, 889, 890, 76]), (4, 84, 185, 0, ⟨"", "", ""⟩, [913, 897, 898, 70]), (10, 197, 145, 0, ⟨"", "", ""⟩, [908, 746, 747, 70]), (10, 200, 186, 0, ⟨"", "", ""⟩, [909, 910, 911, 70]), (10, 180, 185, 0, ⟨"", "", ""⟩, [896, 897, 898, 70]), (14, 199, 10, 5, ⟨"", "", ""⟩, [105, 106, 69]), (14, 200, 52, 3, ⟨"", "", ""⟩, [1342, 1343, 68]), (14, 204, 57, 3, ⟨"", "", ""⟩, [1321, 1322, 68]), (14, 208, 163, 3, ⟨"", "", ""⟩, [926, 927, 68]), (14, 212, 165, 0, ⟨"", "", ""⟩, [604, 605, 606, 69]), (14, 215, 168, 0, ⟨"", "", ""⟩, [835, 836, 837, 69]), (14, 218, 171, 0, ⟨"", "", ""⟩, [849, 850, 851, 69]), (14, 221, 175, 0, ⟨"", "", ""⟩, [513, 514, 515, 69]), (14, 224, 177, 0, ⟨"", "", ""⟩, [876, 877, 878, 69]), (14, 227, 178, 0, ⟨"", "", ""⟩, [864, 865, 866, 69]), (14, 230, 21, 3, ⟨"", "", ""⟩, [1706, 595, 86]), (14, 235, 180, 0, ⟨"", "", ""⟩, [868, 869, 870, 69]), (14, 238, 182, 0, ⟨"", "", ""⟩, [884, 885, 886, 69]), (14, 241, 183, 0, ⟨"", "", ""⟩, [914, 915, 916, 69]), (14, 245, 184, 0, ⟨"", "", ""⟩, [900, 901, 902, 69]), (14, 249, 187, 0, ⟨"", "", ""⟩, [904, 905, 906, 69]), (14, 252, 188, 0, ⟨"", "", ""⟩, [892, 893, 894, 69])]
def z_lx : List (Nat × Nat × Nat × Nat) := [(0, 3, 902, 128), (1, 3, 902, 161), (2, 1, 902, 180), (3, 3, 902, 122), (4, 3, 902, 116), (5, 3, 902, 328), (6, 3, 902, 348), (7, 1, 902, 387), (8, 3, 902, 381), (9, 3, 902, 322), (10, 1, 902, 108), (11, 3, 902, 1359), (13, 1, 902, 1350), (18, 310, 901, 1486), (18, 150, 900, 1494), (15, 212, 900, 1548), (15, 1, 902, 1581), (21, 1, 902, 1662), (0, 47, 900, 1018)]
def zr_0 : List (Nat × Instr × Nat) := [(0, .aload_n 0, 1), (1, .invokespecial 3, 3), (4, .aload_n 0, 1), (5, .sipush 3000, 3), (8, .newarray .byte, 2), (10, .putfield 9, 3), (13, .aload_n 0, 1), (14, .iconst 0, 1), (15, .putfield 15, 3), (18, .aload_n 0, 1), (19, .sipush 601, 3), (22, .anewarray 19, 3), (25, .putfield 21, 3), (28, .aload_n 0, 1), (29, .sipush 601, 3), (32, .newarray .int, 2), (34, .putfield 25, 3), (37, .aload_n 0, 1), (38, .sipush 601, 3), (41, .newarray .int, 2), (43, .putfield 29, 3), (46, .aload_n 0, 1), (47, .sipush 601, 3), (50, .newarray .int, 2), (52, .putfield 32, 3), (55, .aload_n 0, 1), (56, .iconst 0, 1), (57, .putfield 35, 3), (60, .return_, 1)]
def zr_1 : List (Nat × Instr × Nat) := [(0, .aload_n 0, 1), (1, .invokespecial 3, 3), (4, .aload_n 0, 1), (5, .sipush 600, 3), (8, .anewarray 9, 3), (11, .putfield 11, 3), (14, .aload_n 0, 1), (15, .sipush 600, 3), (18, .newarray .int, 2), (20, .putfield 17, 3), (23, .aload_n 0, 1), (24, .iconst 0, 1), (25, .putfield 21, 3), (28, .return_, 1)]
def zr_2 : List (Nat × Instr × Nat) := [(0, .aload_n 0, 1), (1, .invokespecial 1, 3), (4, .aload_n 0, 1), (5, .iconst 0, 1), (6, .putfield 7, 3), (9, .aload_n 0, 1), (10, .iconst 0, 1), (11, .putfield 13, 3), (14, .aload_n 0, 1), (15, .iconst 0, 1), (16, .putfield 17, 3), (19, .aload_n 0, 1), (20, .iconst 0, 1), (21, .putfield 20, 3), (24, .aload_n 0, 1), (25, .iconst 0, 1), (26, .putfield 23, 3), (29, .aload_n 0, 1), (30, .iconst 0, 1), (31, .putfield 26, 3), (34, .aload_n 0, 1), (35, .iconst 0, 1), (36, .putfield 29, 3), (39, .aload_n 0, 1), (40, .iconst 0, 1), (41, .putfield 32, 3), (44, .aload_n 0, 1), (45, .iconst 0, 1), (46, .putfield 35, 3), (49, .aload_n 0, 1), (50, .iconst 0, 1), (51, .putfield 38, 3), (54, .aload_n 0, 1), (55, .iconst 0, 1), (56, .putfield 41, 3), (59, .return_, 1)]
def zr_3 : List (Nat × Instr × Nat) := [(0, .aload_n 0, 1), (1, .invokespecial 3, 3), (4, .aload_n 0, 1), (5, .new 9, 3), (8, .dup, 1), (9, .invokespecial 11, 3), (12, .putfield 12, 3), (15, .aload_n 0, 1), (16, .new 18, 3), (19, .dup, 1), (20, .invokespecial 20, 3), (23, .putfield 21, 3), (26, .aload_n 0, 1), (27, .bipush 16, 2), (29, .anewarray 25, 3), (32, .putfield 27, 3), (35, .aload_n 0, 1), (36, .new 25, 3), (39, .dup, 1), (40, .invokespecial 31, 3), (43, .putfield 32, 3), (46, .aload_n 0, 1), (47, .iconst 0, 1), (48, .putfield 36, 3), (51, .aload_n 0, 1), (52, .iconst 0, 1), (53, .putfield 40, 3), (56, .iconst 0, 1), (57, .istore_n 1, 1), (58, .iload_n 1, 1), (59, .bipush 16, 2), (61, .if_icmp .ge 22, 3), (64, .aload_n 0, 1), (65, .getfield 27, 3), (68, .iload_n 1, 1), (69, .new 25, 3), (72, .dup, 1), (73, .invokespecial 31, 3), (76, .aastore, 1), (77, .iinc 1 1, 3), (80, .goto (-22), 3), (83, .return_, 1)]
def zr_4 : List (Nat × Instr × Nat) := [(0, .aload_n 0, 1), (1, .invokespecial 3, 3), (4, .aload_n 0, 1), (5, .new 9, 3), (8, .dup, 1), (9, .invokespecial 11, 3), (12, .putfield 12, 3), (15, .aload_n 0, 1), (16, .aload_n 0, 1), (17, .getfield 12, 3), (20, .getfield 18, 3), (23, .putfield 22, 3), (26, .aload_n 0, 1), (27, .aload_n 0, 1), (28, .getfield 12, 3), (31, .getfield 23, 3), (34, .putfield 27, 3), (37, .aload_n 0, 1), (38, .aload_n 0, 1), (39, .getfield 12, 3), (42, .getfield 28, 3), (45, .putfield 32, 3), (48, .aload_n 0, 1), (49, .bipush 10, 2), (51, .newarray .int, 2), (53, .putfield 33, 3), (56, .aload_n 0, 1), (57, .bipush 10, 2), (59, .newarray .int, 2), (61, .putfield 37, 3), (64, .aload_n 0, 1), (65, .bipush 24, 2), (67, .newarray .int, 2), (69, .putfield 40, 3), (72, .aload_n 0, 1), (73, .iconst 0, 1), (74, .putfield 43, 3), (77, .aload_n 0, 1), (78, .iconst 0, 1), (79, .putfield 47, 3), (82, .aload_n 0, 1), (83, .iconst 0, 1), (84, .putfield 50, 3), (87, .aload_n 0, 1), (88, .iconst 0, 1), (89, .putfield 53, 3), (92, .aload_n 0, 1), (93, .iconst 0, 1), (94, .putfield 56, 3), (97, .return_, 1)]
def zr_5 : List (Nat × Instr × Nat) := [(0, .aload_n 0, 1), (1, .invokespecial 3, 3), (4, .aload_n 0, 1), (5, .bipush 60, 2), (7, .newarray .int, 2), (9, .putfield 9, 3), (12, .aload_n 0, 1), (13, .bipush 60, 2), (15, .newarray .int, 2), (17, .putfield 15, 3), (20, .aload_n 0, 1), (21, .bipush 60, 2), (23, .newarray .int, 2), (25, .putfield 18, 3), (28, .aload_n 0, 1), (29, .iconst 0, 1), (30, .putfield 21, 3), (33, .return_, 1)]
def zr_6 : List (Nat × Instr × Nat) := [(0, .aload_n 0, 1), (1, .invokespecial 3, 3), (4, .aload_n 0, 1), (5, .aconst_null, 1), (6, .putfield 9, 3), (9, .aload_n 0, 1), (10, .aconst_null, 1), (11, .putfield 15, 3), (14, .aload_n 0, 1), (15, .aconst_null, 1), (16, .putfield 19, 3), (19, .aload_n 0, 1), (20, .aconst_null, 1), (21, .putfield 22, 3), (24, .aload_n 0, 1), (25, .bipush 64, 2), (27, .newarray .int, 2), (29, .putfield 26, 3), (32, .aload_n 0, 1), (33, .iconst 0, 1), (34, .putfield 29, 3), (37, .aload_n 0, 1), (38, .sipush 600, 3), (41, .newarray .int, 2), (43, .putfield 33, 3), (46, .aload_n 0, 1), (47, .iconst 0, 1), (48, .putfield 36, 3), (51, .return_, 1)]
def zr_7 : List (Nat × Instr × Nat) := [(0, .aload_n 0, 1), (1, .invokespecial 1, 3), (4, .aload_n 0, 1), (5, .iconst 0, 1), (6, .putfield 7, 3), (9, .aload_n 0, 1), (10, .iload_n 1, 1), (11, .ifCond .le 7, 3), (14, .iload_n 1, 1), (15, .goto 4, 3), (18, .iconst 0, 1), (19, .newarray .byte, 2), (21, .putfield 13, 3), (24, .return_, 1)]
def zr_8 : List (Nat × Instr × Nat) := [(0, .aload_n 0, 1), (1, .invokespecial 3, 3), (4, .aload_n 0, 1), (5, .iconst 0, 1), (6, .putfield 9, 3), (9, .aload_n 0, 1), (10, .iconst 0, 1), (11, .putfield 15, 3), (14, .aload_n 0, 1), (15, .bipush 16, 2), (17, .newarray .int, 2), (19, .putfield 18, 3), (22, .aload_n 0, 1), (23, .bipush 16, 2), (25, .newarray .int, 2), (27, .putfield 22, 3), (30, .aload_n 0, 1), (31, .bipush 16, 2), (33, .newarray .int, 2), (35, .putfield 25, 3), (38, .aload_n 0, 1), (39, .bipush 16, 2), (41, .newarray .int, 2), (43, .putfield 28, 3), (46, .aload_n 0, 1), (47, .new 31, 3), (50, .dup, 1), (51, .iload_n 1, 1), (52, .invokespecial 33, 3), (55, .putfield 36, 3), (58, .return_, 1)]
def zr_9 : List (Nat × Instr × Nat) := [(0, .aload_n 0, 1), (1, .invokespecial 3, 3), (4, .aload_n 0, 1), (5, .new 9, 3), (8, .dup, 1), (9, .invokespecial 11, 3), (12, .putfield 12, 3), (15, .aload_n 0, 1), (16, .new 18, 3), (19, .dup, 1), (20, .invokespecial 20, 3), (23, .putfield 21, 3), (26, .aload_n 0, 1), (27, .iconst 0, 1), (28, .putfield 25, 3), (31, .aload_n 0, 1), (32, .iconst 0, 1), (33, .putfield 29, 3), (36, .aload_n 0, 1), (37, .bipush 16, 2), (39, .newarray .int, 2), (41, .putfield 32, 3), (44, .aload_n 0, 1), (45, .bipush 24, 2), (47, .newarray .int, 2), (49, .putfield 36, 3), (52, .aload_n 0, 1), (53, .bipush 24, 2), (55, .newarray .int, 2), (57, .putfield 39, 3), (60, .aload_n 0, 1), (61, .bipush 24, 2), (63, .newarray .int, 2), (65, .putfield 42, 3), (68, .aload_n 0, 1), (69, .bipush 24, 2), (71, .newarray .int, 2), (73, .putfield 45, 3), (76, .aload_n 0, 1), (77, .new 48, 3), (80, .dup, 1), (81, .iload_n 1, 1), (82, .invokespecial 50, 3), (85, .putfield 53, 3), (88, .return_, 1)]
def zr_10 : List (Nat × Instr × Nat) := [(0, .aload_n 0, 1), (1, .invokespecial 1, 3), (4, .aload_n 0, 1), (5, .sipush 3000, 3), (8, .newarray .byte, 2), (10, .putfield 9, 3), (13, .aload_n 0, 1), (14, .iconst 0, 1), (15, .putfield 13, 3), (18, .aload_n 0, 1), (19, .iconst (-1), 1), (20, .putfield 17, 3), (23, .aload_n 0, 1), (24, .new 20, 3), (27, .dup, 1), (28, .invokespecial 22, 3), (31, .putfield 23, 3), (34, .aload_n 0, 1), (35, .new 20, 3), (38, .dup, 1), (39, .invokespecial 22, 3), (42, .putfield 27, 3), (45, .aload_n 0, 1), (46, .bipush 10, 2), (48, .newarray .int, 2), (50, .putfield 30, 3), (53, .aload_n 0, 1), (54, .iconst 0, 1), (55, .putfield 34, 3), (58, .aload_n 0, 1), (59, .iconst 0, 1), (60, .putfield 37, 3), (63, .aload_n 0, 1), (64, .new 40, 3), (67, .dup, 1), (68, .sipush 6000, 3), (71, .invokespecial 42, 3), (74, .putfield 45, 3), (77, .aload_n 0, 1), (78, .new 40, 3), (81, .dup, 1), (82, .iconst 0, 1), (83, .invokespecial 42, 3), (86, .putfield 49, 3), (89, .aload_n 0, 1), (90, .new 52, 3), (93, .dup, 1), (94, .invokespecial 54, 3), (97, .putfield 55, 3), (100, .aload_n 0, 1), (101, .new 59, 3), (104, .dup, 1), (105, .iconst 0, 1), (106, .invokespecial 61, 3), (109, .putfield 62, 3), (112, .aload_n 0, 1), (113, .new 66, 3), (116, .dup, 1), (117, .sipush 6000, 3), (120, .invokespecial 68, 3), (123, .putfield 69, 3), (126, .aload_n 0, 1), (127, .bipush 16, 2), (129, .newarray .int, 2), (131, .putfield 73, 3), (134, .return_, 1)]
def zr_11 : List (Nat × Instr × Nat) := [(0, .aload_n 0, 1), (1, .invokespecial 3, 3), (4, .getstatic 18, 3), (7, .ifCond .eq 18, 3), (10, .aload_n 0, 1), (11, .iload_n 1, 1), (12, .newarray .byte, 2), (14, .putfield 15, 3), (17, .aload_n 0, 1), (18, .iconst 0, 1), (19, .putfield 22, 3), (22, .goto 16, 3), (25, .aload_n 0, 1), (26, .iload_n 1, 1), (27, .invokestatic 26, 3), (30, .putfield 15, 3), (33, .aload_n 0, 1), (34, .iconst 1, 1), (35, .putfield 22, 3), (38, .return_, 1)]
def zr_12 : List (Nat × Instr × Nat) := [(0, .aload_n 0, 1), (1, .bipush 16, 2), (3, .invokespecial 1, 3), (6, .return_, 1)]
def zr_13 : List (Nat × Instr × Nat) := [(0, .aload_n 0, 1), (1, .invokespecial 1, 3), (4, .aload_n 0, 1), (5, .bipush 6, 2), (7, .newarray .int, 2), (9, .putfield 7, 3), (12, .aload_n 0, 1), (13, .new 13, 3), (16, .dup, 1), (17, .invokespecial 15, 3), (20, .putfield 16, 3), (23, .return_, 1)]
def zr_14 : List (Nat × Instr × Nat) := [(0, .iload_n 1, 1), (1, .aload_n 0, 1), (2, .arraylength, 1), (3, .if_icmp .ge 9, 3), (6, .aload_n 0, 1), (7, .iload_n 1, 1), (8, .iaload, 1), (9, .goto 9, 3), (12, .ldc 8, 2), (14, .iload_n 1, 1), (15, .iconst 3, 1), (16, .iadd, 1), (17, .imul, 1), (18, .ireturn, 1)]
def zr_15 : List (Nat × Instr × Nat) := [(0, .iload_n 0, 1), (1, .ldc 7, 2), (3, .iand, 1), (4, .iload_n 1, 1), (5, .irem, 1), (6, .ireturn, 1)]
def zr_16 : List (Nat × Instr × Nat) := [(0, .getstatic 38, 3), (3, .ifCond .eq 10, 3), (6, .aload_n 0, 1), (7, .getfield 15, 3), (10, .goto 4, 3), (13, .iconst 1, 1), (14, .ireturn, 1)]
def zr_17 : List (Nat × Instr × Nat) := [(0, .aload_n 0, 1), (1, .getfield 9, 3), (4, .arraylength, 1), (5, .aload_n 0, 1), (6, .invokevirtual 335, 3), (9, .ishr, 1), (10, .ireturn, 1)]
def zr_18 : List (Nat × Instr × Nat) := [(0, .iload_n 0, 1), (1, .iload_n 1, 1), (2, .if_icmp .lt 7, 3), (5, .iload_n 0, 1), (6, .goto 4, 3), (9, .iload_n 1, 1), (10, .ireturn, 1)]
def zr_19 : List (Nat × Instr × Nat) := [(0, .iload_n 0, 1), (1, .iload_n 1, 1), (2, .iload_n 2, 1), (3, .invokestatic 194, 3), (6, .iadd, 1), (7, .istore_n 3, 1), (8, .iconst 0, 1), (9, .iload_n 3, 1), (10, .if_icmp .ge 11, 3), (13, .iload_n 3, 1), (14, .ldc 200, 2), (16, .if_icmp .gt 5, 3), (19, .iload_n 3, 1), (20, .ireturn, 1), (21, .iload_n 0, 1), (22, .iload_n 1, 1), (23, .invokestatic 201, 3), (26, .ireturn, 1)]
def zr_20 : List (Nat × Instr × Nat) := [(0, .aload_n 0, 1), (1, .getfield 15, 3), (4, .arraylength, 1), (5, .istore_n 2, 1), (6, .iload_n 1, 1), (7, .aload_n 0, 1), (8, .getfield 22, 3), (11, .ishl, 1), (12, .istore_n 3, 1), (13, .iload_n 3, 1), (14, .iload_n 2, 1), (15, .isub, 1), (16, .istore 4, 2), (18, .iload_n 2, 1), (19, .iload 4, 2), (21, .iload_n 2, 1), (22, .iconst 2, 1), (23, .aload_n 0, 1), (24, .getfield 22, 3), (27, .ishl, 1), (28, .iadd, 1), (29, .invokestatic 114, 3), (32, .istore 5, 2), (34, .iload 5, 2), (36, .ldc 39, 2), (38, .if_icmp .ne 13, 3), (41, .new 120, 3), (44, .dup, 1), (45, .ldc 122, 2), (47, .invokespecial 124, 3), (50, .athrow, 1), (51, .iload 5, 2), (53, .aload_n 0, 1), (54, .getfield 22, 3), (57, .ishr, 1), (58, .ireturn, 1)]
def zr_21 : List (Nat × Instr × Nat) := [(0, .iload_n 0, 1), (1, .iload_n 1, 1), (2, .if_icmp .gt 7, 3), (5, .iload_n 0, 1), (6, .goto 4, 3), (9, .iload_n 1, 1), (10, .ireturn, 1)]
def zr_22 : List (Nat × Instr × Nat) := [(0, .iload_n 1, 1), (1, .aload_n 0, 1), (2, .arraylength, 1), (3, .if_icmp .ne 11, 3), (6, .aload_n 0, 1), (7, .invokevirtual 310, 3), (10, .checkcast 311, 3), (13, .areturn, 1), (14, .iload_n 1, 1), (15, .newarray .byte, 2), (17, .astore_n 2, 1), (18, .aload_n 0, 1), (19, .iconst 0, 1), (20, .aload_n 2, 1), (21, .iconst 0, 1), (22, .aload_n 0, 1), (23, .arraylength, 1), (24, .iload_n 1, 1), (25, .invokestatic 304, 3), (28, .invokestatic 150, 3), (31, .aload_n 2, 1), (32, .areturn, 1)]
def zr_23 : List (Nat × Instr × Nat) := [(0, .aload_n 0, 1), (1, .getfield 15, 3), (4, .arraylength, 1), (5, .aload_n 0, 1), (6, .getfield 22, 3), (9, .ishr, 1), (10, .istore_n 2, 1), (11, .iload_n 1, 1), (12, .iload_n 2, 1), (13, .isub, 1), (14, .ifCond .le 24, 3), (17, .aload_n 0, 1), (18, .aload_n 0, 1), (19, .getfield 15, 3), (22, .aload_n 0, 1), (23, .iload_n 1, 1), (24, .invokevirtual 104, 3), (27, .aload_n 0, 1), (28, .getfield 22, 3), (31, .ishl, 1), (32, .invokestatic 108, 3), (35, .putfield 15, 3), (38, .return_, 1)]
def zr_24 : List (Nat × Instr × Nat) := [(0, .getstatic 18, 3), (3, .ifCond .eq 18, 3), (6, .aload_n 0, 1), (7, .getfield 22, 3), (10, .aload_n 1, 1), (11, .invokevirtual 40, 3), (14, .if_icmp .eq 7, 3), (17, .aload_n 0, 1), (18, .invokevirtual 195, 3), (21, .return_, 1)]
def zr_25 : List (Nat × Instr × Nat) := [(0, .aload_n 0, 1), (1, .invokevirtual 335, 3), (4, .iload_n 3, 1), (5, .if_icmp .ne 23, 3), (8, .aload_n 0, 1), (9, .getfield 9, 3), (12, .iconst 0, 1), (13, .aload_n 1, 1), (14, .iload_n 2, 1), (15, .iload_n 3, 1), (16, .ishl, 1), (17, .aload_n 0, 1), (18, .getfield 9, 3), (21, .arraylength, 1), (22, .invokestatic 212, 3), (25, .goto 18, 3), (28, .aload_n 0, 1), (29, .getfield 9, 3), (32, .iconst 0, 1), (33, .aload_n 1, 1), (34, .iload_n 2, 1), (35, .aload_n 0, 1), (36, .getfield 9, 3), (39, .arraylength, 1), (40, .invokestatic 106, 3), (43, .return_, 1)]
def zr_26 : List (Nat × Instr × Nat) := [(0, .aload_n 0, 1), (1, .aload_n 2, 1), (2, .invokevirtual 397, 3), (5, .aload_n 2, 1), (6, .aload_n 0, 1), (7, .getfield 15, 3), (10, .iload_n 1, 1), (11, .aload_n 0, 1), (12, .getfield 22, 3), (15, .invokevirtual 399, 3), (18, .return_, 1)]
def zr_27 : List (Nat × Instr × Nat) := [(0, .aload_n 1, 1), (1, .ifnonnull 8, 3), (4, .aload_n 0, 1), (5, .invokevirtual 204, 3), (8, .areturn, 1), (9, .aload_n 1, 1), (10, .invokevirtual 32, 3), (13, .istore_n 2, 1), (14, .aload_n 0, 1), (15, .aload_n 0, 1), (16, .getfield 79, 3), (19, .iload_n 2, 1), (20, .iadd, 1), (21, .invokevirtual 100, 3), (24, .aload_n 0, 1), (25, .aload_n 0, 1), (26, .getfield 79, 3), (29, .aload_n 1, 1), (30, .invokevirtual 208, 3), (33, .aload_n 0, 1), (34, .dup, 1), (35, .getfield 79, 3), (38, .iload_n 2, 1), (39, .iadd, 1), (40, .putfield 79, 3), (43, .aload_n 0, 1), (44, .areturn, 1)]
def zr_28 : List (Nat × Instr × Nat) := [(0, .aload_n 0, 1), (1, .aload_n 1, 1), (2, .invokespecial 29, 3), (5, .pop, 1), (6, .aload_n 0, 1), (7, .areturn, 1)]
def zr_29 : List (Nat × Instr × Nat) := [(0, .getstatic 18, 3), (3, .ifCond .eq 14, 3), (6, .aload_n 0, 1), (7, .getfield 22, 3), (10, .ifCond .ne 7, 3), (13, .iconst 1, 1), (14, .goto 4, 3), (17, .iconst 0, 1), (18, .ireturn, 1)]
def zr_30 : List (Nat × Instr × Nat) := [(0, .iload_n 0, 1), (1, .sipush 255, 3), (4, .if_icmp .gt 7, 3), (7, .iconst 1, 1), (8, .goto 4, 3), (11, .iconst 0, 1), (12, .ireturn, 1)]
def zr_31 : List (Nat × Instr × Nat) := [(0, .aload_n 0, 1), (1, .aload_n 0, 1), (2, .getfield 79, 3), (5, .iconst 1, 1), (6, .iadd, 1), (7, .invokevirtual 100, 3), (10, .aload_n 0, 1), (11, .invokevirtual 83, 3), (14, .ifCond .eq 31, 3), (17, .iload_n 1, 1), (18, .invokestatic 191, 3), (21, .ifCond .eq 24, 3), (24, .aload_n 0, 1), (25, .getfield 15, 3), (28, .aload_n 0, 1), (29, .dup, 1), (30, .getfield 79, 3), (33, .dup_x1, 1), (34, .iconst 1, 1), (35, .iadd, 1), (36, .putfield 79, 3), (39, .iload_n 1, 1), (40, .i2b, 1), (41, .bastore, 1), (42, .goto 33, 3), (45, .aload_n 0, 1), (46, .invokevirtual 83, 3), (49, .ifCond .eq 7, 3), (52, .aload_n 0, 1), (53, .invokevirtual 195, 3), (56, .aload_n 0, 1), (57, .getfield 15, 3), (60, .aload_n 0, 1), (61, .dup, 1), (62, .getfield 79, 3), (65, .dup_x1, 1), (66, .iconst 1, 1), (67, .iadd, 1), (68, .putfield 79, 3), (71, .iload_n 1, 1), (72, .invokestatic 197, 3), (75, .aload_n 0, 1), (76, .areturn, 1)]
def zr_32 : List (Nat × Instr × Nat) := [(0, .aload_n 0, 1), (1, .iload_n 1, 1), (2, .invokespecial 50, 3), (5, .pop, 1), (6, .aload_n 0, 1), (7, .areturn, 1)]
def zr_33 : List (Nat × Instr × Nat) := [(0, .aload_n 0, 1), (1, .getfield 15, 3), (4, .areturn, 1)]
def zr_34 : List (Nat × Instr × Nat) := [(0, .aload_n 0, 1), (1, .getfield 79, 3), (4, .ireturn, 1)]
def zr_35 : List (Nat × Instr × Nat) := [(0, .aload_n 0, 1), (1, .invokespecial 343, 3), (4, .ireturn, 1)]
def zr_36 : List (Nat × Instr × Nat) := [(0, .iload_n 1, 1), (1, .iload_n 0, 1), (2, .if_icmp .ge 35, 3), (5, .new 43, 3), (8, .dup, 1), (9, .new 45, 3), (12, .dup, 1), (13, .invokespecial 47, 3), (16, .iload_n 0, 1), (17, .invokevirtual 54, 3), (20, .ldc_w 337, 3), (23, .invokevirtual 50, 3), (26, .iload_n 1, 1), (27, .invokevirtual 54, 3), (30, .invokevirtual 61, 3), (33, .invokespecial 65, 3), (36, .athrow, 1), (37, .return_, 1)]
def zr_37 : List (Nat × Instr × Nat) := [(0, .iload_n 1, 1), (1, .iload_n 2, 1), (2, .invokestatic 343, 3), (5, .iload_n 2, 1), (6, .iload_n 1, 1), (7, .isub, 1), (8, .istore_n 3, 1), (9, .iload_n 3, 1), (10, .newarray .byte, 2), (12, .astore 4, 2), (14, .aload_n 0, 1), (15, .iload_n 1, 1), (16, .aload 4, 2), (18, .iconst 0, 1), (19, .aload_n 0, 1), (20, .arraylength, 1), (21, .iload_n 1, 1), (22, .isub, 1), (23, .iload_n 3, 1), (24, .invokestatic 304, 3), (27, .invokestatic 150, 3), (30, .aload 4, 2), (32, .areturn, 1)]
def zr_38 : List (Nat × Instr × Nat) := [(0, .iload_n 1, 1), (1, .ifCond .ne 9, 3), (4, .iload_n 2, 1), (5, .aload_n 0, 1), (6, .arraylength, 1), (7, .if_icmp .eq 10, 3), (10, .aload_n 0, 1), (11, .iload_n 1, 1), (12, .iload_n 2, 1), (13, .invokestatic 339, 3), (16, .areturn, 1), (17, .aload_n 0, 1), (18, .invokevirtual 310, 3), (21, .checkcast 311, 3), (24, .areturn, 1)]
def zr_39 : List (Nat × Instr × Nat) := [(0, .aload_n 0, 1), (1, .invokespecial 1, 3), (4, .aload_n 1, 1), (5, .invokevirtual 552, 3), (8, .astore_n 3, 1), (9, .aload_n 1, 1), (10, .invokevirtual 549, 3), (13, .istore 4, 2), (15, .aload_n 1, 1), (16, .invokevirtual 1047, 3), (19, .ifCond .eq 22, 3), (22, .aload_n 0, 1), (23, .iconst 0, 1), (24, .putfield 15, 3), (27, .aload_n 0, 1), (28, .aload_n 3, 1), (29, .iconst 0, 1), (30, .iload 4, 2), (32, .invokestatic 54, 3), (35, .putfield 9, 3), (38, .goto 59, 3), (41, .getstatic 38, 3), (44, .ifCond .eq 35, 3), (47, .aload_n 1, 1), (48, .getfield 1048, 3), (51, .ifCond .eq 28, 3), (54, .aload_n 0, 1), (55, .aload_n 3, 1), (56, .iconst 0, 1), (57, .iload 4, 2), (59, .invokestatic 1051, 3), (62, .putfield 9, 3), (65, .aload_n 0, 1), (66, .aload_n 0, 1), (67, .getfield 9, 3), (70, .iload 4, 2), (72, .invokestatic 47, 3), (75, .putfield 15, 3), (78, .return_, 1), (79, .aload_n 0, 1), (80, .iconst 1, 1), (81, .putfield 15, 3), (84, .aload_n 0, 1), (85, .aload_n 3, 1), (86, .iconst 0, 1), (87, .iload 4, 2), (89, .iconst 1, 1), (90, .ishl, 1), (91, .invokestatic 54, 3), (94, .putfield 9, 3), (97, .return_, 1)]
def zr_40 : List (Nat × Instr × Nat) := [(0, .aload_n 0, 1), (1, .aload_n 1, 1), (2, .aconst_null, 1), (3, .invokespecial 489, 3), (6, .return_, 1)]
def zr_41 : List (Nat × Instr × Nat) := [(0, .new 18, 3), (3, .dup, 1), (4, .aload_n 0, 1), (5, .invokespecial 137, 3), (8, .areturn, 1)]
def zr_42 : List (Nat × Instr × Nat) := [(0, .new 33, 3), (3, .dup, 1), (4, .invokespecial 78, 3), (7, .ldc 79, 2), (9, .invokevirtual 81, 3), (12, .iload_n 0, 1), (13, .invokevirtual 85, 3), (16, .bipush 97, 2), (18, .iload_n 1, 1), (19, .iadd, 1), (20, .i2c, 1), (21, .invokevirtual 85, 3), (24, .invokevirtual 88, 3), (27, .areturn, 1)]
def zr_43 : List (Nat × Instr × Nat) := [(0, .iconst 1, 1), (1, .istore_n 1, 1), (2, .iload_n 0, 1), (3, .ifCond .lt 8, 3), (6, .iconst 0, 1), (7, .istore_n 1, 1), (8, .iload_n 0, 1), (9, .ineg, 1), (10, .istore_n 0, 1), (11, .bipush (-10), 2), (13, .istore_n 2, 1), (14, .iconst 1, 1), (15, .istore_n 3, 1), (16, .iload_n 3, 1), (17, .bipush 10, 2), (19, .if_icmp .ge 23, 3), (22, .iload_n 0, 1), (23, .iload_n 2, 1), (24, .if_icmp .le 7, 3), (27, .iload_n 3, 1), (28, .iload_n 1, 1), (29, .iadd, 1), (30, .ireturn, 1), (31, .bipush 10, 2), (33, .iload_n 2, 1), (34, .imul, 1), (35, .istore_n 2, 1), (36, .iinc 3 1, 3), (39, .goto (-23), 3), (42, .bipush 10, 2), (44, .iload_n 1, 1), (45, .iadd, 1), (46, .ireturn, 1)]
def zr_44 : List (Nat × Instr × Nat) := [(0, .iload_n 1, 1), (1, .istore 5, 2), (3, .iload_n 0, 1), (4, .ifCond .ge 7, 3), (7, .iconst 1, 1), (8, .goto 4, 3), (11, .iconst 0, 1), (12, .istore 6, 2), (14, .iload 6, 2), (16, .ifCond .ne 6, 3), (19, .iload_n 0, 1), (20, .ineg, 1), (21, .istore_n 0, 1), (22, .iload_n 0, 1), (23, .bipush (-100), 2), (25, .if_icmp .gt 47, 3), (28, .iload_n 0, 1), (29, .bipush 100, 2), (31, .idiv, 1), (32, .istore_n 3, 1), (33, .iload_n 3, 1), (34, .bipush 100, 2), (36, .imul, 1), (37, .iload_n 0, 1), (38, .isub, 1), (39, .istore 4, 2), (41, .iload_n 3, 1), (42, .istore_n 0, 1), (43, .aload_n 2, 1), (44, .iinc 5 (-1), 3), (47, .iload 5, 2), (49, .getstatic 83, 3), (52, .iload 4, 2), (54, .baload, 1), (55, .bastore, 1), (56, .aload_n 2, 1), (57, .iinc 5 (-1), 3), (60, .iload 5, 2), (62, .getstatic 87, 3), (65, .iload 4, 2), (67, .baload, 1), (68, .bastore, 1), (69, .goto (-47), 3), (72, .aload_n 2, 1), (73, .iinc 5 (-1), 3), (76, .iload 5, 2), (78, .getstatic 83, 3), (81, .iload_n 0, 1), (82, .ineg, 1), (83, .baload, 1), (84, .bastore, 1), (85, .iload_n 0, 1), (86, .bipush (-9), 2), (88, .if_icmp .ge 16, 3), (91, .aload_n 2, 1), (92, .iinc 5 (-1), 3), (95, .iload 5, 2), (97, .getstatic 87, 3), (100, .iload_n 0, 1), (101, .ineg, 1), (102, .baload, 1), (103, .bastore, 1), (104, .iload 6, 2), (106, .ifCond .eq 12, 3), (109, .aload_n 2, 1), (110, .iinc 5 (-1), 3), (113, .iload 5, 2), (115, .bipush 45, 2), (117, .bastore, 1), (118, .iload 5, 2), (120, .ireturn, 1)]
def zr_45 : List (Nat × Instr × Nat) := [(0, .aload_n 0, 1), (1, .getfield 79, 3), (4, .istore_n 2, 1), (5, .iload_n 2, 1), (6, .iload_n 1, 1), (7, .invokestatic 245, 3), (10, .iadd, 1), (11, .istore_n 3, 1), (12, .aload_n 0, 1), (13, .iload_n 3, 1), (14, .invokevirtual 100, 3), (17, .aload_n 0, 1), (18, .invokevirtual 83, 3), (21, .ifCond .eq 16, 3), (24, .iload_n 1, 1), (25, .iload_n 3, 1), (26, .aload_n 0, 1), (27, .getfield 15, 3), (30, .invokestatic 248, 3), (33, .pop, 1), (34, .goto 14, 3), (37, .iload_n 1, 1), (38, .iload_n 2, 1), (39, .iload_n 3, 1), (40, .aload_n 0, 1), (41, .getfield 15, 3), (44, .invokestatic 251, 3), (47, .pop, 1), (48, .aload_n 0, 1), (49, .iload_n 3, 1), (50, .putfield 79, 3), (53, .aload_n 0, 1), (54, .areturn, 1)]
def zr_46 : List (Nat × Instr × Nat) := [(0, .aload_n 0, 1), (1, .iload_n 1, 1), (2, .invokespecial 53, 3), (5, .pop, 1), (6, .aload_n 0, 1), (7, .areturn, 1)]
def zr_47 : List (Nat × Instr × Nat) := [(0, .iload_n 0, 1), (1, .iload_n 3, 1), (2, .iconst 1, 1), (3, .iadd, 1), (4, .invokestatic 36, 3), (7, .istore 4, 2), (9, .iload_n 1, 1), (10, .iconst 2, 1), (11, .if_icmp .ge 7, 3), (14, .iconst 0, 1), (15, .goto 5, 3), (18, .iload 4, 2), (20, .newarray .int, 2), (22, .astore 5, 2), (24, .iconst 0, 1), (25, .istore 6, 2), (27, .iload 6, 2), (29, .aload 5, 2), (31, .arraylength, 1), (32, .if_icmp .ge 45, 3), (35, .aload 5, 2), (37, .iload 6, 2), (39, .iload_n 0, 1), (40, .iconst 2, 1), (41, .iconst 3, 1), (42, .iload 6, 2), (44, .imul, 1), (45, .iadd, 1), (46, .ishr, 1), (47, .iload_n 1, 1), (48, .invokestatic 36, 3), (51, .iastore, 1), (52, .aload 5, 2), (54, .iload 6, 2), (56, .iaload, 1), (57, .iload_n 2, 1), (58, .if_icmp .ne 13, 3), (61, .aload 5, 2), (63, .iload 6, 2), (65, .iload_n 2, 1), (66, .iconst 1, 1), (67, .iadd, 1), (68, .iload_n 1, 1), (69, .irem, 1), (70, .iastore, 1), (71, .iinc 6 1, 3), (74, .goto (-47), 3), (77, .aload 5, 2), (79, .areturn, 1)]
def zr_48 : List (Nat × Instr × Nat) := [(0, .aload_n 0, 1), (1, .invokespecial 1, 3), (4, .return_, 1)]
def zr_49 : List (Nat × Instr × Nat) := [(0, .aload_n 1, 1), (1, .iload_n 2, 1), (2, .bipush 16, 2), (4, .irem, 1), (5, .invokestatic 42, 3), (8, .iload_n 2, 1), (9, .bipush 16, 2), (11, .idiv, 1), (12, .ishr, 1), (13, .iload_n 3, 1), (14, .ifCond .ne 7, 3), (17, .iconst 4, 1), (18, .goto 4, 3), (21, .iconst 3, 1), (22, .invokestatic 36, 3), (25, .istore 4, 2), (27, .iload 4, 2), (29, .anewarray 46, 3), (32, .astore 5, 2), (34, .iconst 0, 1), (35, .istore 6, 2), (37, .iload 6, 2), (39, .iload 4, 2), (41, .if_icmp .ge 243, 3), (44, .aload_n 1, 1), (45, .iload_n 2, 1), (46, .iload 6, 2), (48, .iadd, 1), (49, .bipush 16, 2), (51, .irem, 1), (52, .invokestatic 42, 3), (55, .iconst 2, 1), (56, .iload 6, 2), (58, .imul, 1), (59, .ishr, 1), (60, .bipush 13, 2), (62, .iload_n 2, 1), (63, .imul, 1), (64, .iadd, 1), (65, .bipush 7, 2), (67, .iload 6, 2), (69, .imul, 1), (70, .iadd, 1), (71, .istore 7, 2), (73, .new 46, 3), (76, .dup, 1), (77, .invokespecial 48, 3), (80, .astore 8, 2), (82, .aload 8, 2), (84, .iload 7, 2), (86, .iload_n 3, 1), (87, .ifCond .ne 8, 3), (90, .bipush 7, 2), (92, .goto 4, 3), (95, .iconst 5, 1), (96, .invokestatic 36, 3), (99, .putfield 49, 3), (102, .aload 8, 2), (104, .iload 7, 2), (106, .iconst 4, 1), (107, .ishr, 1), (108, .aload_n 0, 1), (109, .getfield 53, 3), (112, .invokestatic 36, 3), (115, .putfield 58, 3), (118, .aload 8, 2), (120, .aload 8, 2), (122, .getfield 49, 3), (125, .iconst 1, 1), (126, .if_icmp .ne 17, 3), (129, .iload 7, 2), (131, .iconst 3, 1), (132, .ishr, 1), (133, .aload_n 0, 1), (134, .getfield 61, 3), (137, .invokestatic 36, 3), (140, .goto 42, 3), (143, .aload 8, 2), (145, .getfield 49, 3), (148, .iconst 2, 1), (149, .if_icmp .eq 12, 3), (152, .aload 8, 2), (154, .getfield 49, 3), (157, .iconst 3, 1), (158, .if_icmp .ne 15, 3), (161, .iload 7, 2), (163, .iconst 3, 1), (164, .ishr, 1), (165, .bipush 6, 2), (167, .invokestatic 36, 3), (170, .goto 12, 3), (173, .iload 7, 2), (175, .iconst 5, 1), (176, .ishr, 1), (177, .bipush 20, 2), (179, .invokestatic 36, 3), (182, .putfield 64, 3), (185, .aload 8, 2), (187, .getfield 49, 3), (190, .iconst 1, 1), (191, .if_icmp .ne 23, 3), (194, .aload 8, 2), (196, .getfield 64, 3), (199, .iload_n 2, 1), (200, .aload_n 0, 1), (201, .getfield 61, 3), (204, .irem, 1), (205, .if_icmp .ne 9, 3), (208, .aload 8, 2), (210, .iconst 0, 1), (211, .putfield 49, 3), (214, .aload 8, 2), (216, .getfield 49, 3), (219, .iconst 4, 1), (220, .if_icmp .le 51, 3), (223, .aload 8, 2), (225, .aload_n 0, 1), (226, .aload_n 1, 1), (227, .iload_n 2, 1), (228, .iconst 3, 1), (229, .aload_n 0, 1), (230, .getfield 61, 3), (233, .imul, 1), (234, .iload 6, 2), (236, .iconst 1, 1), (237, .iadd, 1), (238, .imul, 1), (239, .iadd, 1), (240, .iconst 1, 1), (241, .invokestatic 67, 3), (244, .putfield 71, 3), (247, .aload 8, 2), (249, .aload_n 0, 1), (250, .aload_n 1, 1), (251, .iload_n 2, 1), (252, .iconst 3, 1), (253, .aload_n 0, 1), (254, .getfield 61, 3), (257, .imul, 1), (258, .iload 6, 2), (260, .iconst 4, 1), (261, .iadd, 1), (262, .imul, 1), (263, .iadd, 1), (264, .iconst 1, 1), (265, .invokestatic 67, 3), (268, .putfield 75, 3), (271, .aload 5, 2), (273, .iload 6, 2), (275, .aload 8, 2), (277, .aastore, 1), (278, .iinc 6 1, 3), (281, .goto (-244), 3), (284, .aload 5, 2), (286, .areturn, 1)]
def zr_50 : List (Nat × Instr × Nat) := [(0, .aload_n 2, 1), (1, .astore_n 3, 1), (2, .aload_n 3, 1), (3, .arraylength, 1), (4, .istore 4, 2), (6, .iconst 0, 1), (7, .istore 5, 2), (9, .iload 5, 2), (11, .iload 4, 2), (13, .if_icmp .ge 41, 3), (16, .aload_n 3, 1), (17, .iload 5, 2), (19, .iaload, 1), (20, .istore 6, 2), (22, .aload_n 0, 1), (23, .aload_n 1, 1), (24, .invokevirtual 81, 3), (27, .bipush 32, 2), (29, .invokevirtual 85, 3), (32, .bipush 99, 2), (34, .iload 6, 2), (36, .invokestatic 105, 3), (39, .invokevirtual 81, 3), (42, .bipush 32, 2), (44, .invokevirtual 85, 3), (47, .pop, 1), (48, .iinc 5 1, 3), (51, .goto (-42), 3), (54, .return_, 1)]
def zr_51 : List (Nat × Instr × Nat) := [(0, .aload_n 0, 1), (1, .ldc 92, 2), (3, .invokevirtual 81, 3), (6, .pop, 1), (7, .aload_n 2, 1), (8, .astore 4, 2), (10, .aload 4, 2), (12, .arraylength, 1), (13, .istore 5, 2), (15, .iconst 0, 1), (16, .istore 6, 2), (18, .iload 6, 2), (20, .iload 5, 2), (22, .if_icmp .ge 365, 3), (25, .aload 4, 2), (27, .iload 6, 2), (29, .aaload, 1), (30, .astore 7, 2), (32, .aload 7, 2), (34, .getfield 49, 3), (37, .iconst 2, 1), (38, .if_icmp .eq 12, 3), (41, .aload 7, 2), (43, .getfield 49, 3), (46, .iconst 3, 1), (47, .if_icmp .ne 94, 3), (50, .aload 7, 2), (52, .getfield 64, 3), (55, .istore 8, 2), (57, .aload_n 3, 1), (58, .iload 8, 2), (60, .iaload, 1), (61, .ifCond .ge 32, 3), (64, .aload_n 3, 1), (65, .iload 8, 2), (67, .aload_n 1, 1), (68, .getfield 94, 3), (71, .iastore, 1), (72, .aload_n 1, 1), (73, .getfield 97, 3), (76, .aload_n 1, 1), (77, .getfield 94, 3), (80, .iload 8, 2), (82, .iastore, 1), (83, .aload_n 1, 1), (84, .dup, 1), (85, .getfield 94, 3), (88, .iconst 1, 1), (89, .iadd, 1), (90, .putfield 94, 3), (93, .aload 7, 2), (95, .aload_n 3, 1), (96, .iload 8, 2), (98, .iaload, 1), (99, .putfield 64, 3), (102, .aload_n 0, 1), (103, .aload 7, 2), (105, .getfield 49, 3), (108, .iconst 2, 1), (109, .if_icmp .ne 8, 3), (112, .ldc 101, 2), (114, .goto 5, 3), (117, .ldc 103, 2), (119, .invokevirtual 81, 3), (122, .bipush 116, 2), (124, .iload 8, 2), (126, .invokestatic 105, 3), (129, .invokevirtual 81, 3), (132, .bipush 32, 2), (134, .invokevirtual 85, 3), (137, .pop, 1), (138, .goto 243, 3), (141, .aload 7, 2), (143, .getfield 49, 3), (146, .ifCond .ne 26, 3), (149, .aload_n 0, 1), (150, .ldc 109, 2), (152, .invokevirtual 81, 3), (155, .aload 7, 2), (157, .getfield 64, 3), (160, .invokevirtual 111, 3), (163, .ldc 114, 2), (165, .invokevirtual 81, 3), (168, .pop, 1), (169, .goto 212, 3), (172, .aload 7, 2), (174, .getfield 49, 3), (177, .iconst 1, 1), (178, .if_icmp .ne 31, 3), (181, .aload_n 0, 1), (182, .ldc 116, 2), (184, .invokevirtual 81, 3), (187, .bipush 99, 2), (189, .aload 7, 2), (191, .getfield 64, 3), (194, .invokestatic 105, 3), (197, .invokevirtual 81, 3), (200, .bipush 32, 2), (202, .invokevirtual 85, 3), (205, .pop, 1), (206, .goto 175, 3), (209, .aload 7, 2), (211, .getfield 49, 3), (214, .iconst 4, 1), (215, .if_icmp .ne 44, 3), (218, .aload_n 0, 1), (219, .ldc 118, 2), (221, .invokevirtual 81, 3), (224, .bipush 102, 2), (226, .aload 7, 2), (228, .getfield 58, 3), (231, .invokestatic 105, 3), (234, .invokevirtual 81, 3), (237, .ldc 120, 2), (239, .invokevirtual 81, 3), (242, .aload 7, 2), (244, .getfield 64, 3), (247, .invokevirtual 111, 3), (250, .ldc 122, 2), (252, .invokevirtual 81, 3), (255, .pop, 1), (256, .goto 125, 3), (259, .aload 7, 2), (261, .getfield 49, 3), (264, .iconst 5, 1), (265, .if_icmp .ne 73, 3), (268, .aload_n 0, 1), (269, .ldc 124, 2), (271, .invokevirtual 81, 3), (274, .bipush 102, 2), (276, .aload 7, 2), (278, .getfield 58, 3), (281, .invokestatic 105, 3), (284, .invokevirtual 81, 3), (287, .bipush 62, 2), (289, .invokevirtual 85, 3), (292, .aload 7, 2), (294, .getfield 64, 3), (297, .invokevirtual 111, 3), (300, .bipush 32, 2), (302, .invokevirtual 85, 3), (305, .pop, 1), (306, .aload_n 0, 1), (307, .aload_n 1, 1), (308, .aload 7, 2), (310, .getfield 71, 3), (313, .aload_n 3, 1), (314, .invokestatic 126, 3), (317, .aload_n 0, 1), (318, .ldc 130, 2), (320, .invokevirtual 81, 3), (323, .pop, 1), (324, .aload_n 0, 1), (325, .aload_n 1, 1), (326, .aload 7, 2), (328, .getfield 75, 3), (331, .aload_n 3, 1), (332, .invokestatic 126, 3), (335, .goto 46, 3), (338, .aload_n 0, 1), (339, .ldc 132, 2), (341, .invokevirtual 81, 3), (344, .pop, 1), (345, .aload_n 0, 1), (346, .aload_n 1, 1), (347, .aload 7, 2), (349, .getfield 71, 3), (352, .aload_n 3, 1), (353, .invokestatic 126, 3), (356, .aload_n 0, 1), (357, .ldc 134, 2), (359, .invokevirtual 81, 3), (362, .pop, 1), (363, .aload_n 0, 1), (364, .aload_n 1, 1), (365, .aload 7, 2), (367, .getfield 75, 3), (370, .aload_n 3, 1), (371, .invokestatic 126, 3), (374, .aload_n 0, 1), (375, .ldc 136, 2), (377, .invokevirtual 81, 3), (380, .pop, 1), (381, .iinc 6 1, 3), (384, .goto (-366), 3), (387, .aload_n 0, 1), (388, .ldc 136, 2), (390, .invokevirtual 81, 3), (393, .pop, 1), (394, .return_, 1)]
def zr_52 : List (Nat × Instr × Nat) := [(0, .new 54, 3), (3, .dup, 1), (4, .invokespecial 138, 3), (7, .astore_n 3, 1), (8, .aload_n 3, 1), (9, .iconst 1, 1), (10, .aload_n 0, 1), (11, .iconst 0, 1), (12, .invokestatic 42, 3), (15, .iconst 3, 1), (16, .invokestatic 36, 3), (19, .iadd, 1), (20, .putfield 53, 3), (23, .aload_n 3, 1), (24, .iconst 1, 1), (25, .aload_n 0, 1), (26, .iconst 1, 1), (27, .invokestatic 42, 3), (30, .iload_n 1, 1), (31, .invokestatic 36, 3), (34, .iadd, 1), (35, .putfield 61, 3), (38, .aload_n 3, 1), (39, .getfield 61, 3), (42, .istore 4, 2), (44, .aload_n 3, 1), (45, .aload_n 3, 1), (46, .getfield 53, 3), (49, .newarray .int, 2), (51, .putfield 139, 3), (54, .iconst 0, 1), (55, .istore 5, 2), (57, .iload 5, 2), (59, .aload_n 3, 1), (60, .getfield 53, 3), (63, .if_icmp .ge 68, 3), (66, .aload_n 3, 1), (67, .getfield 139, 3), (70, .iload 5, 2), (72, .aload_n 0, 1), (73, .iconst 2, 1), (74, .invokestatic 42, 3), (77, .iconst 4, 1), (78, .iload 5, 2), (80, .imul, 1), (81, .ishr, 1), (82, .bipush 20, 2), (84, .invokestatic 36, 3), (87, .iastore, 1), (88, .aload_n 2, 1), (89, .ldc 142, 2), (91, .invokevirtual 81, 3), (94, .bipush 102, 2), (96, .iload 5, 2), (98, .invokestatic 105, 3), (101, .invokevirtual 81, 3), (104, .ldc 144, 2), (106, .invokevirtual 81, 3), (109, .aload_n 3, 1), (110, .getfield 139, 3), (113, .iload 5, 2), (115, .iaload, 1), (116, .invokevirtual 111, 3), (119, .ldc 122, 2), (121, .invokevirtual 81, 3), (124, .pop, 1), (125, .iinc 5 1, 3), (128, .goto (-71), 3), (131, .aload_n 3, 1), (132, .iload 4, 2), (134, .newarray .int, 2), (136, .putfield 146, 3), (139, .aload_n 3, 1), (140, .iload 4, 2), (142, .newarray .int, 2), (144, .putfield 149, 3), (147, .aload_n 3, 1), (148, .iload 4, 2), (150, .newarray .boolean, 2), (152, .putfield 152, 3), (155, .aload_n 3, 1), (156, .iload 4, 2), (158, .newarray .int, 2), (160, .putfield 156, 3), (163, .aload_n 3, 1), (164, .iload 4, 2), (166, .newarray .int, 2), (168, .putfield 159, 3), (171, .aload_n 3, 1), (172, .iload 4, 2), (174, .anewarray 162, 3), (177, .putfield 163, 3), (180, .aload_n 3, 1), (181, .iload 4, 2), (183, .anewarray 162, 3), (186, .putfield 167, 3), (189, .aload_n 3, 1), (190, .iload 4, 2), (192, .anewarray 162, 3), (195, .putfield 170, 3), (198, .aload_n 3, 1), (199, .iload 4, 2), (201, .anewarray 173, 3), (204, .putfield 174, 3), (207, .aload_n 3, 1), (208, .iload 4, 2), (210, .newarray .int, 2), (212, .putfield 178, 3), (215, .bipush 6, 2), (217, .newarray .int, 2), (219, .dup, 1), (220, .iconst 0, 1), (221, .iconst (-1), 1), (222, .iastore, 1), (223, .dup, 1), (224, .iconst 1, 1), (225, .iconst (-1), 1), (226, .iastore, 1), (227, .dup, 1), (228, .iconst 2, 1), (229, .iconst (-1), 1), (230, .iastore, 1), (231, .dup, 1), (232, .iconst 3, 1), (233, .iconst (-1), 1), (234, .iastore, 1), (235, .dup, 1), (236, .iconst 4, 1), (237, .iconst (-1), 1), (238, .iastore, 1), (239, .dup, 1), (240, .iconst 5, 1), (241, .iconst (-1), 1), (242, .iastore, 1), (243, .astore 5, 2), (245, .iconst 0, 1), (246, .istore 6, 2), (248, .iload 6, 2), (250, .iload 4, 2), (252, .if_icmp .ge 418, 3), (255, .aload_n 0, 1), (256, .iconst 3, 1), (257, .iload 6, 2), (259, .iconst 5, 1), (260, .irem, 1), (261, .iadd, 1), (262, .invokestatic 42, 3), (265, .iload 6, 2), (267, .ishr, 1), (268, .bipush 29, 2), (270, .iload 6, 2), (272, .imul, 1), (273, .iadd, 1), (274, .istore 7, 2), (276, .aload_n 3, 1), (277, .getfield 178, 3), (280, .iload 6, 2), (282, .iconst (-1), 1), (283, .iastore, 1), (284, .aload_n 3, 1), (285, .getfield 146, 3), (288, .iload 6, 2), (290, .iload 7, 2), (292, .iconst 2, 1), (293, .invokestatic 36, 3), (296, .ifCond .ne 7, 3), (299, .iconst (-1), 1), (300, .goto 14, 3), (303, .iload 7, 2), (305, .iconst 2, 1), (306, .ishr, 1), (307, .aload_n 3, 1), (308, .getfield 53, 3), (311, .invokestatic 36, 3), (314, .iastore, 1), (315, .aload_n 3, 1), (316, .getfield 149, 3), (319, .iload 6, 2), (321, .iload 7, 2), (323, .iconst 4, 1), (324, .ishr, 1), (325, .bipush 20, 2), (327, .invokestatic 36, 3), (330, .iastore, 1), (331, .aload_n 3, 1), (332, .getfield 152, 3), (335, .iload 6, 2), (337, .iload 7, 2), (339, .iconst 3, 1), (340, .ishr, 1), (341, .iconst 3, 1), (342, .invokestatic 36, 3), (345, .ifCond .ne 7, 3), (348, .iconst 1, 1), (349, .goto 4, 3), (352, .iconst 0, 1), (353, .bastore, 1), (354, .aload_n 3, 1), (355, .getfield 156, 3), (358, .iload 6, 2), (360, .iload 7, 2), (362, .iconst 5, 1), (363, .ishr, 1), (364, .bipush 30, 2), (366, .invokestatic 36, 3), (369, .iastore, 1), (370, .aload_n 3, 1), (371, .getfield 159, 3), (374, .iload 6, 2), (376, .iload 7, 2), (378, .bipush 6, 2), (380, .ishr, 1), (381, .bipush 30, 2), (383, .invokestatic 36, 3), (386, .iastore, 1), (387, .aload_n 3, 1), (388, .getfield 163, 3), (391, .iload 6, 2), (393, .aload_n 0, 1), (394, .bipush 8, 2), (396, .invokestatic 42, 3), (399, .iload 6, 2), (401, .ishr, 1), (402, .iconst 3, 1), (403, .iload 6, 2), (405, .imul, 1), (406, .iadd, 1), (407, .iload 4, 2), (409, .iload 6, 2), (411, .iconst 2, 1), (412, .invokestatic 181, 3), (415, .aastore, 1), (416, .aload_n 3, 1), (417, .getfield 167, 3), (420, .iload 6, 2), (422, .aload_n 0, 1), (423, .bipush 9, 2), (425, .invokestatic 42, 3), (428, .iload 6, 2), (430, .ishr, 1), (431, .iconst 5, 1), (432, .iload 6, 2), (434, .imul, 1), (435, .iadd, 1), (436, .iload 4, 2), (438, .iload 6, 2), (440, .iconst 1, 1), (441, .invokestatic 181, 3), (444, .aastore, 1), (445, .aload_n 3, 1), (446, .getfield 170, 3), (449, .iload 6, 2), (451, .aload_n 0, 1), (452, .bipush 10, 2), (454, .invokestatic 42, 3), (457, .iload 6, 2), (459, .ishr, 1), (460, .bipush 7, 2), (462, .iload 6, 2), (464, .imul, 1), (465, .iadd, 1), (466, .iload 4, 2), (468, .iload 6, 2), (470, .iconst 2, 1), (471, .invokestatic 181, 3), (474, .aastore, 1), (475, .aload_n 3, 1), (476, .getfield 174, 3), (479, .iload 6, 2), (481, .aload_n 3, 1), (482, .aload_n 0, 1), (483, .iload 6, 2), (485, .iconst 0, 1), (486, .invokestatic 67, 3), (489, .aastore, 1), (490, .aload_n 2, 1), (491, .ldc 185, 2), (493, .invokevirtual 81, 3), (496, .bipush 99, 2), (498, .iload 6, 2), (500, .invokestatic 105, 3), (503, .invokevirtual 81, 3), (506, .bipush 32, 2), (508, .invokevirtual 85, 3), (511, .pop, 1), (512, .aload_n 3, 1), (513, .getfield 146, 3), (516, .iload 6, 2), (518, .iaload, 1), (519, .ifCond .lt 45, 3), (522, .aload_n 2, 1), (523, .ldc 187, 2), (525, .invokevirtual 81, 3), (528, .bipush 102, 2), (530, .aload_n 3, 1), (531, .getfield 146, 3), (534, .iload 6, 2), (536, .iaload, 1), (537, .invokestatic 105, 3), (540, .invokevirtual 81, 3), (543, .ldc 189, 2), (545, .invokevirtual 81, 3), (548, .aload_n 3, 1), (549, .getfield 149, 3), (552, .iload 6, 2), (554, .iaload, 1), (555, .invokevirtual 111, 3), (558, .bipush 32, 2), (560, .invokevirtual 85, 3), (563, .pop, 1), (564, .aload_n 3, 1), (565, .getfield 152, 3), (568, .iload 6, 2), (570, .baload, 1), (571, .ifCond .eq 40, 3), (574, .aload_n 2, 1), (575, .ldc 191, 2), (577, .invokevirtual 81, 3), (580, .aload_n 3, 1), (581, .getfield 156, 3), (584, .iload 6, 2), (586, .iaload, 1), (587, .invokevirtual 111, 3), (590, .bipush 32, 2), (592, .invokevirtual 85, 3), (595, .aload_n 3, 1), (596, .getfield 159, 3), (599, .iload 6, 2), (601, .iaload, 1), (602, .invokevirtual 111, 3), (605, .bipush 32, 2), (607, .invokevirtual 85, 3), (610, .pop, 1), (611, .aload_n 2, 1), (612, .ldc 193, 2), (614, .aload_n 3, 1), (615, .getfield 163, 3), (618, .iload 6, 2), (620, .aaload, 1), (621, .invokestatic 194, 3), (624, .aload_n 2, 1), (625, .ldc 197, 2), (627, .aload_n 3, 1), (628, .getfield 167, 3), (631, .iload 6, 2), (633, .aaload, 1), (634, .invokestatic 194, 3), (637, .aload_n 2, 1), (638, .ldc 198, 2), (640, .aload_n 3, 1), (641, .getfield 170, 3), (644, .iload 6, 2), (646, .aaload, 1), (647, .invokestatic 194, 3), (650, .aload_n 2, 1), (651, .aload_n 3, 1), (652, .aload_n 3, 1), (653, .getfield 174, 3), (656, .iload 6, 2), (658, .aaload, 1), (659, .aload 5, 2), (661, .invokestatic 126, 3), (664, .iinc 6 1, 3), (667, .goto (-419), 3), (670, .aload_n 3, 1), (671, .areturn, 1)]
def zr_53 : List (Nat × Instr × Nat) := [(0, .iload_n 0, 1), (1, .ifCond .lt 8, 3), (4, .iload_n 0, 1), (5, .iload_n 1, 1), (6, .if_icmp .lt 10, 3), (9, .aload_n 2, 1), (10, .iload_n 0, 1), (11, .iload_n 1, 1), (12, .invokestatic 95, 3), (15, .athrow, 1), (16, .iload_n 0, 1), (17, .ireturn, 1)]
def zr_54 : List (Nat × Instr × Nat) := [(0, .iload_n 0, 1), (1, .iload_n 1, 1), (2, .getstatic 1053, 3), (5, .invokestatic 1059, 3), (8, .pop, 1), (9, .return_, 1)]
def zr_55 : List (Nat × Instr × Nat) := [(0, .aload_n 0, 1), (1, .getfield 22, 3), (4, .istore_n 2, 1), (5, .aload_n 0, 1), (6, .getfield 15, 3), (9, .astore_n 3, 1), (10, .aload_n 0, 1), (11, .getfield 79, 3), (14, .aload_n 3, 1), (15, .arraylength, 1), (16, .iload_n 2, 1), (17, .ishr, 1), (18, .invokestatic 138, 3), (21, .istore 4, 2), (23, .iload_n 1, 1), (24, .iload 4, 2), (26, .invokestatic 144, 3), (29, .iload_n 2, 1), (30, .ifCond .ne 12, 3), (33, .aload_n 3, 1), (34, .iload_n 1, 1), (35, .baload, 1), (36, .sipush 255, 3), (39, .iand, 1), (40, .i2c, 1), (41, .ireturn, 1), (42, .aload_n 3, 1), (43, .iload_n 1, 1), (44, .invokestatic 148, 3), (47, .ireturn, 1)]
def zr_56 : List (Nat × Instr × Nat) := [(0, .aload_n 0, 1), (1, .iload_n 1, 1), (2, .invokespecial 329, 3), (5, .ireturn, 1)]
def zr_57 : List (Nat × Instr × Nat) := [(0, .iconst 0, 1), (1, .istore_n 1, 1), (2, .iconst 0, 1), (3, .istore_n 2, 1), (4, .iconst 0, 1), (5, .istore_n 3, 1), (6, .iload_n 3, 1), (7, .aload_n 0, 1), (8, .invokevirtual 32, 3), (11, .if_icmp .ge 186, 3), (14, .aload_n 0, 1), (15, .iload_n 3, 1), (16, .invokevirtual 35, 3), (19, .istore 4, 2), (21, .iload 4, 2), (23, .bipush 39, 2), (25, .if_icmp .ne 28, 3), (28, .iload_n 2, 1), (29, .ifCond .ne 7, 3), (32, .iconst 1, 1), (33, .goto 4, 3), (36, .iconst 0, 1), (37, .istore_n 2, 1), (38, .iload_n 1, 1), (39, .iload_n 2, 1), (40, .ifCond .eq 7, 3), (43, .iconst 1, 1), (44, .goto 4, 3), (47, .iconst 0, 1), (48, .iadd, 1), (49, .istore_n 1, 1), (50, .goto 141, 3), (53, .iload_n 2, 1), (54, .ifCond .ne 137, 3), (57, .iload 4, 2), (59, .bipush 32, 2), (61, .if_icmp .ne 6, 3), (64, .goto 127, 3), (67, .iload 4, 2), (69, .bipush 97, 2), (71, .if_icmp .lt 10, 3), (74, .iload 4, 2), (76, .bipush 122, 2), (78, .if_icmp .le 21, 3), (81, .iload 4, 2), (83, .bipush 48, 2), (85, .if_icmp .lt 10, 3), (88, .iload 4, 2), (90, .bipush 57, 2), (92, .if_icmp .le 7, 3), (95, .iconst 1, 1), (96, .goto 4, 3), (99, .iconst 0, 1), (100, .istore 5, 2), (102, .iload_n 3, 1), (103, .ifCond .le 67, 3), (106, .aload_n 0, 1), (107, .iload_n 3, 1), (108, .iconst 1, 1), (109, .isub, 1), (110, .invokevirtual 35, 3), (113, .bipush 32, 2), (115, .if_icmp .eq 55, 3), (118, .aload_n 0, 1), (119, .iload_n 3, 1), (120, .iconst 1, 1), (121, .isub, 1), (122, .invokevirtual 35, 3), (125, .bipush 97, 2), (127, .if_icmp .lt 15, 3), (130, .aload_n 0, 1), (131, .iload_n 3, 1), (132, .iconst 1, 1), (133, .isub, 1), (134, .invokevirtual 35, 3), (137, .bipush 122, 2), (139, .if_icmp .le 27, 3), (142, .aload_n 0, 1), (143, .iload_n 3, 1), (144, .iconst 1, 1), (145, .isub, 1), (146, .invokevirtual 35, 3), (149, .bipush 48, 2), (151, .if_icmp .lt 19, 3), (154, .aload_n 0, 1), (155, .iload_n 3, 1), (156, .iconst 1, 1), (157, .isub, 1), (158, .invokevirtual 35, 3), (161, .bipush 57, 2), (163, .if_icmp .gt 7, 3), (166, .iconst 1, 1), (167, .goto 4, 3), (170, .iconst 0, 1), (171, .istore 6, 2), (173, .iload_n 1, 1), (174, .iload 5, 2), (176, .ifCond .ne 8, 3), (179, .iload 6, 2), (181, .ifCond .ne 7, 3), (184, .iconst 1, 1), (185, .goto 4, 3), (188, .iconst 0, 1), (189, .iadd, 1), (190, .istore_n 1, 1), (191, .iinc 3 1, 3), (194, .goto (-188), 3), (197, .iload_n 1, 1), (198, .sipush 600, 3), (201, .if_icmp .gt 17, 3), (204, .aload_n 0, 1), (205, .invokevirtual 32, 3), (208, .sipush 2980, 3), (211, .if_icmp .gt 7, 3), (214, .iconst 1, 1), (215, .goto 4, 3), (218, .iconst 0, 1), (219, .ireturn, 1)]
def zr_58 : List (Nat × Instr × Nat) := [(0, .getstatic 38, 3), (3, .ifCond .eq 14, 3), (6, .aload_n 0, 1), (7, .getfield 15, 3), (10, .ifCond .ne 7, 3), (13, .iconst 1, 1), (14, .goto 4, 3), (17, .iconst 0, 1), (18, .ireturn, 1)]
def zr_59 : List (Nat × Instr × Nat) := [(0, .iload_n 1, 1), (1, .aload_n 0, 1), (2, .arraylength, 1), (3, .invokestatic 9, 3), (6, .aload_n 0, 1), (7, .iload_n 1, 1), (8, .baload, 1), (9, .sipush 255, 3), (12, .iand, 1), (13, .i2c, 1), (14, .ireturn, 1)]
def zr_60 : List (Nat × Instr × Nat) := [(0, .aload_n 0, 1), (1, .invokevirtual 492, 3), (4, .ifCond .eq 12, 3), (7, .aload_n 0, 1), (8, .getfield 9, 3), (11, .iload_n 1, 1), (12, .invokestatic 495, 3), (15, .ireturn, 1), (16, .aload_n 0, 1), (17, .getfield 9, 3), (20, .iload_n 1, 1), (21, .invokestatic 498, 3), (24, .ireturn, 1)]
def zr_61 : List (Nat × Instr × Nat) := [(0, .bipush 24, 2), (2, .istore_n 2, 1), (3, .iload_n 2, 1), (4, .ifCond .lt 42, 3), (7, .aload_n 0, 1), (8, .getfield 13, 3), (11, .sipush 3000, 3), (14, .if_icmp .ge 26, 3), (17, .aload_n 0, 1), (18, .getfield 9, 3), (21, .aload_n 0, 1), (22, .getfield 13, 3), (25, .iload_n 1, 1), (26, .iload_n 2, 1), (27, .ishr, 1), (28, .i2b, 1), (29, .bastore, 1), (30, .aload_n 0, 1), (31, .dup, 1), (32, .getfield 13, 3), (35, .iconst 1, 1), (36, .iadd, 1), (37, .putfield 13, 3), (40, .iinc 2 (-8), 3), (43, .goto (-40), 3), (46, .return_, 1)]
def zr_62 : List (Nat × Instr × Nat) := [(0, .aload_n 0, 1), (1, .getfield 13, 3), (4, .bipush 20, 2), (6, .iadd, 1), (7, .sipush 3000, 3), (10, .if_icmp .le 11, 3), (13, .new 76, 3), (16, .dup, 1), (17, .invokespecial 78, 3), (20, .athrow, 1), (21, .aload_n 0, 1), (22, .iload_n 1, 1), (23, .invokevirtual 79, 3), (26, .aload_n 0, 1), (27, .iload_n 2, 1), (28, .invokevirtual 79, 3), (31, .aload_n 0, 1), (32, .iload_n 3, 1), (33, .invokevirtual 79, 3), (36, .aload_n 0, 1), (37, .iload 4, 2), (39, .invokevirtual 79, 3), (42, .aload_n 0, 1), (43, .iload 5, 2), (45, .invokevirtual 79, 3), (48, .aload_n 0, 1), (49, .getfield 13, 3), (52, .ireturn, 1)]
def zr_63 : List (Nat × Instr × Nat) := [(0, .iload_n 1, 1), (1, .ifCond .lt 11, 3), (4, .iload_n 1, 1), (5, .aload_n 0, 1), (6, .getfield 13, 3), (9, .if_icmp .le 11, 3), (12, .new 82, 3), (15, .dup, 1), (16, .invokespecial 84, 3), (19, .athrow, 1), (20, .aload_n 0, 1), (21, .iload_n 1, 1), (22, .putfield 13, 3), (25, .iload_n 1, 1), (26, .ireturn, 1)]
def zr_64 : List (Nat × Instr × Nat) := [(0, .iload_n 1, 1), (1, .ifCond .lt 11, 3), (4, .iload_n 1, 1), (5, .aload_n 0, 1), (6, .getfield 15, 3), (9, .if_icmp .lt 7, 3), (12, .iconst (-1), 1), (13, .goto 13, 3), (16, .aload_n 0, 1), (17, .getfield 9, 3), (20, .iload_n 1, 1), (21, .baload, 1), (22, .sipush 255, 3), (25, .iand, 1), (26, .ireturn, 1)]
def zr_65 : List (Nat × Instr × Nat) := [(0, .iload_n 1, 1), (1, .istore_n 2, 1), (2, .iconst 0, 1), (3, .istore_n 3, 1), (4, .iload_n 3, 1), (5, .sipush 3000, 3), (8, .if_icmp .ge 32, 3), (11, .aload_n 0, 1), (12, .iload_n 2, 1), (13, .invokevirtual 83, 3), (16, .bipush 32, 2), (18, .if_icmp .eq 13, 3), (21, .aload_n 0, 1), (22, .iload_n 2, 1), (23, .invokevirtual 83, 3), (26, .bipush 10, 2), (28, .if_icmp .ne 12, 3), (31, .iinc 2 1, 3), (34, .iinc 3 1, 3), (37, .goto (-33), 3), (40, .iload_n 2, 1), (41, .ireturn, 1)]
def zr_66 : List (Nat × Instr × Nat) := [(0, .iload_n 0, 1), (1, .bipush 97, 2), (3, .if_icmp .lt 13, 3), (6, .iload_n 0, 1), (7, .bipush 122, 2), (9, .if_icmp .gt 7, 3), (12, .iconst 1, 1), (13, .goto 4, 3), (16, .iconst 0, 1), (17, .ireturn, 1)]
def zr_67 : List (Nat × Instr × Nat) := [(0, .iload_n 0, 1), (1, .bipush 48, 2), (3, .if_icmp .lt 13, 3), (6, .iload_n 0, 1), (7, .bipush 57, 2), (9, .if_icmp .gt 7, 3), (12, .iconst 1, 1), (13, .goto 4, 3), (16, .iconst 0, 1), (17, .ireturn, 1)]
def zr_68 : List (Nat × Instr × Nat) := [(0, .iconst 0, 1), (1, .istore_n 2, 1), (2, .iconst 0, 1), (3, .istore_n 3, 1), (4, .iload_n 3, 1), (5, .sipush 3000, 3), (8, .if_icmp .ge 38, 3), (11, .aload_n 0, 1), (12, .iload_n 1, 1), (13, .iload_n 3, 1), (14, .iadd, 1), (15, .invokevirtual 83, 3), (18, .invokestatic 86, 3), (21, .ifCond .ne 16, 3), (24, .aload_n 0, 1), (25, .iload_n 1, 1), (26, .iload_n 3, 1), (27, .iadd, 1), (28, .invokevirtual 83, 3), (31, .invokestatic 93, 3), (34, .ifCond .eq 12, 3), (37, .iinc 2 1, 3), (40, .iinc 3 1, 3), (43, .goto (-39), 3), (46, .iload_n 2, 1), (47, .ireturn, 1)]
def zr_69 : List (Nat × Instr × Nat) := [(0, .iconst 0, 1), (1, .istore_n 2, 1), (2, .iconst 0, 1), (3, .istore_n 3, 1), (4, .iload_n 3, 1), (5, .sipush 3000, 3), (8, .if_icmp .ge 25, 3), (11, .aload_n 0, 1), (12, .iload_n 1, 1), (13, .iload_n 3, 1), (14, .iadd, 1), (15, .invokevirtual 83, 3), (18, .invokestatic 93, 3), (21, .ifCond .eq 12, 3), (24, .iinc 2 1, 3), (27, .iinc 3 1, 3), (30, .goto (-26), 3), (33, .iload_n 2, 1), (34, .ireturn, 1)]
def zr_70 : List (Nat × Instr × Nat) := [(0, .iconst 1, 1), (1, .istore_n 2, 1), (2, .iload_n 2, 1), (3, .bipush 41, 2), (5, .if_icmp .gt 50, 3), (8, .aload_n 0, 1), (9, .iload_n 1, 1), (10, .iload_n 2, 1), (11, .iadd, 1), (12, .invokevirtual 83, 3), (15, .istore_n 3, 1), (16, .iload_n 3, 1), (17, .bipush 39, 2), (19, .if_icmp .ne 16, 3), (22, .iload_n 2, 1), (23, .iconst 1, 1), (24, .if_icmp .ne 7, 3), (27, .iconst 0, 1), (28, .goto 6, 3), (31, .iload_n 2, 1), (32, .iconst 1, 1), (33, .iadd, 1), (34, .ireturn, 1), (35, .iload_n 3, 1), (36, .bipush 32, 2), (38, .if_icmp .lt 9, 3), (41, .iload_n 3, 1), (42, .bipush 126, 2), (44, .if_icmp .le 5, 3), (47, .iconst 0, 1), (48, .ireturn, 1), (49, .iinc 2 1, 3), (52, .goto (-50), 3), (55, .iconst 0, 1), (56, .ireturn, 1)]
def zr_71 : List (Nat × Instr × Nat) := [(0, .aload_n 0, 1), (1, .iload_n 1, 1), (2, .invokevirtual 83, 3), (5, .istore_n 2, 1), (6, .iload_n 2, 1), (7, .invokestatic 86, 3), (10, .ifCond .eq 9, 3), (13, .aload_n 0, 1), (14, .iload_n 1, 1), (15, .invokevirtual 90, 3), (18, .ireturn, 1), (19, .iload_n 2, 1), (20, .invokestatic 93, 3), (23, .ifCond .eq 9, 3), (26, .aload_n 0, 1), (27, .iload_n 1, 1), (28, .invokevirtual 96, 3), (31, .ireturn, 1), (32, .iload_n 2, 1), (33, .bipush 39, 2), (35, .if_icmp .ne 9, 3), (38, .aload_n 0, 1), (39, .iload_n 1, 1), (40, .invokevirtual 99, 3), (43, .ireturn, 1), (44, .iload_n 2, 1), (45, .bipush 60, 2), (47, .if_icmp .eq 9, 3), (50, .iload_n 2, 1), (51, .bipush 62, 2), (53, .if_icmp .ne 19, 3), (56, .aload_n 0, 1), (57, .iload_n 1, 1), (58, .iconst 1, 1), (59, .iadd, 1), (60, .invokevirtual 83, 3), (63, .bipush 61, 2), (65, .if_icmp .ne 7, 3), (68, .iconst 1, 1), (69, .goto 4, 3), (72, .iconst 0, 1), (73, .istore_n 3, 1), (74, .iload_n 3, 1), (75, .ifCond .eq 7, 3), (78, .iconst 2, 1), (79, .goto 4, 3), (82, .iconst 1, 1), (83, .ireturn, 1)]
def zr_72 : List (Nat × Instr × Nat) := [(0, .iconst 0, 1), (1, .istore_n 3, 1), (2, .iload_n 3, 1), (3, .aload_n 1, 1), (4, .invokevirtual 118, 3), (7, .if_icmp .ge 26, 3), (10, .aload_n 1, 1), (11, .iload_n 3, 1), (12, .invokevirtual 128, 3), (15, .aload_n 0, 1), (16, .iload_n 2, 1), (17, .iload_n 3, 1), (18, .iadd, 1), (19, .invokevirtual 83, 3), (22, .if_icmp .eq 5, 3), (25, .iconst 0, 1), (26, .ireturn, 1), (27, .iinc 3 1, 3), (30, .goto (-28), 3), (33, .iconst 1, 1), (34, .ireturn, 1)]
def zr_73 : List (Nat × Instr × Nat) := [(0, .getstatic 112, 3), (3, .astore 4, 2), (5, .aload 4, 2), (7, .arraylength, 1), (8, .istore 5, 2), (10, .iconst 0, 1), (11, .istore 6, 2), (13, .iload 6, 2), (15, .iload 5, 2), (17, .if_icmp .ge 44, 3), (20, .aload 4, 2), (22, .iload 6, 2), (24, .aaload, 1), (25, .astore 7, 2), (27, .aload 7, 2), (29, .getfield 115, 3), (32, .invokevirtual 118, 3), (35, .iload_n 2, 1), (36, .if_icmp .ne 19, 3), (39, .aload_n 0, 1), (40, .aload 7, 2), (42, .getfield 115, 3), (45, .iload_n 1, 1), (46, .invokevirtual 124, 3), (49, .ifCond .eq 6, 3), (52, .aload 7, 2), (54, .areturn, 1), (55, .iinc 6 1, 3), (58, .goto (-45), 3), (61, .aload_n 3, 1), (62, .areturn, 1)]
def zr_74 : List (Nat × Instr × Nat) := [(0, .aload_n 0, 1), (1, .iload_n 1, 1), (2, .invokevirtual 83, 3), (5, .istore_n 3, 1), (6, .iload_n 3, 1), (7, .ifCond .ge 7, 3), (10, .getstatic 74, 3), (13, .areturn, 1), (14, .iload_n 3, 1), (15, .invokestatic 86, 3), (18, .ifCond .eq 25, 3), (21, .iload_n 2, 1), (22, .bipush 10, 2), (24, .if_icmp .le 9, 3), (27, .getstatic 60, 3), (30, .goto 12, 3), (33, .aload_n 0, 1), (34, .iload_n 1, 1), (35, .iload_n 2, 1), (36, .getstatic 102, 3), (39, .invokevirtual 105, 3), (42, .areturn, 1), (43, .iload_n 3, 1), (44, .invokestatic 93, 3), (47, .ifCond .eq 18, 3), (50, .iload_n 2, 1), (51, .iconst 5, 1), (52, .if_icmp .le 9, 3), (55, .getstatic 60, 3), (58, .goto 6, 3), (61, .getstatic 68, 3), (64, .areturn, 1), (65, .iload_n 3, 1), (66, .bipush 39, 2), (68, .if_icmp .ne 17, 3), (71, .iload_n 2, 1), (72, .ifCond .ne 9, 3), (75, .getstatic 60, 3), (78, .goto 6, 3), (81, .getstatic 109, 3), (84, .areturn, 1), (85, .aload_n 0, 1), (86, .iload_n 1, 1), (87, .iload_n 2, 1), (88, .getstatic 60, 3), (91, .invokevirtual 105, 3), (94, .areturn, 1)]
def zr_75 : List (Nat × Instr × Nat) := [(0, .iconst 0, 1), (1, .istore_n 3, 1), (2, .iconst 0, 1), (3, .istore 4, 2), (5, .iload 4, 2), (7, .iload_n 2, 1), (8, .if_icmp .ge 32, 3), (11, .iload 4, 2), (13, .iconst 5, 1), (14, .if_icmp .ge 26, 3), (17, .iload_n 3, 1), (18, .bipush 10, 2), (20, .imul, 1), (21, .aload_n 0, 1), (22, .iload_n 1, 1), (23, .iload 4, 2), (25, .iadd, 1), (26, .invokevirtual 83, 3), (29, .iadd, 1), (30, .bipush 48, 2), (32, .isub, 1), (33, .istore_n 3, 1), (34, .iinc 4 1, 3), (37, .goto (-32), 3), (40, .iload_n 3, 1), (41, .ireturn, 1)]
def zr_76 : List (Nat × Instr × Nat) := [(0, .aload_n 0, 1), (1, .iconst 0, 1), (2, .iload_n 2, 1), (3, .aload_n 1, 1), (4, .arraylength, 1), (5, .sipush 3000, 3), (8, .invokestatic 38, 3), (11, .invokestatic 38, 3), (14, .invokestatic 44, 3), (17, .putfield 15, 3), (20, .aload_n 1, 1), (21, .iconst 0, 1), (22, .aload_n 0, 1), (23, .getfield 9, 3), (26, .iconst 0, 1), (27, .aload_n 0, 1), (28, .getfield 15, 3), (31, .invokestatic 47, 3), (34, .aload_n 0, 1), (35, .iconst 0, 1), (36, .putfield 35, 3), (39, .iconst 0, 1), (40, .istore_n 3, 1), (41, .iconst 0, 1), (42, .istore 4, 2), (44, .iconst 0, 1), (45, .istore 5, 2), (47, .iload 5, 2), (49, .sipush 600, 3), (52, .if_icmp .gt 146, 3), (55, .iload 4, 2), (57, .ifCond .ne 141, 3), (60, .aload_n 0, 1), (61, .iload_n 3, 1), (62, .invokevirtual 53, 3), (65, .istore_n 3, 1), (66, .aload_n 0, 1), (67, .iload_n 3, 1), (68, .invokevirtual 57, 3), (71, .istore 6, 2), (73, .iload 5, 2), (75, .sipush 600, 3), (78, .if_icmp .ne 17, 3), (81, .iload_n 3, 1), (82, .aload_n 0, 1), (83, .getfield 15, 3), (86, .if_icmp .ge 9, 3), (89, .getstatic 60, 3), (92, .goto 10, 3), (95, .aload_n 0, 1), (96, .iload_n 3, 1), (97, .iload 6, 2), (99, .invokevirtual 64, 3), (102, .astore 7, 2), (104, .aload_n 0, 1), (105, .getfield 21, 3), (108, .iload 5, 2), (110, .aload 7, 2), (112, .aastore, 1), (113, .aload_n 0, 1), (114, .getfield 25, 3), (117, .iload 5, 2), (119, .iload_n 3, 1), (120, .iastore, 1), (121, .aload_n 0, 1), (122, .getfield 29, 3), (125, .iload 5, 2), (127, .iload 6, 2), (129, .iastore, 1), (130, .aload_n 0, 1), (131, .getfield 32, 3), (134, .iload 5, 2), (136, .aload 7, 2), (138, .getstatic 68, 3), (141, .if_acmp .ne 13, 3), (144, .aload_n 0, 1), (145, .iload_n 3, 1), (146, .iload 6, 2), (148, .invokevirtual 71, 3), (151, .goto 4, 3), (154, .iconst 0, 1), (155, .iastore, 1), (156, .aload_n 0, 1), (157, .iload 5, 2), (159, .iconst 1, 1), (160, .iadd, 1), (161, .putfield 35, 3), (164, .aload 7, 2), (166, .getstatic 74, 3), (169, .if_acmp .eq 11, 3), (172, .aload 7, 2), (174, .getstatic 60, 3), (177, .if_acmp .ne 7, 3), (180, .iconst 1, 1), (181, .goto 4, 3), (184, .iconst 0, 1), (185, .istore 4, 2), (187, .iload_n 3, 1), (188, .iload 6, 2), (190, .iadd, 1), (191, .istore_n 3, 1), (192, .iinc 5 1, 3), (195, .goto (-148), 3), (198, .return_, 1)]
def zr_77 : List (Nat × Instr × Nat) := [(0, .aload_n 0, 1), (1, .iconst 0, 1), (2, .putfield 43, 3), (5, .aload_n 0, 1), (6, .iconst 0, 1), (7, .putfield 47, 3), (10, .aload_n 0, 1), (11, .iconst 0, 1), (12, .putfield 50, 3), (15, .aload_n 0, 1), (16, .iconst 0, 1), (17, .putfield 53, 3), (20, .aload_n 0, 1), (21, .iconst 0, 1), (22, .putfield 56, 3), (25, .aload_n 0, 1), (26, .getfield 22, 3), (29, .aload_n 1, 1), (30, .iload_n 2, 1), (31, .invokevirtual 59, 3), (34, .return_, 1)]
def zr_78 : List (Nat × Instr × Nat) := [(0, .aload_n 0, 1), (1, .iconst 0, 1), (2, .putfield 21, 3), (5, .return_, 1)]
def zr_79 : List (Nat × Instr × Nat) := [(0, .iload_n 1, 1), (1, .ifCond .lt 20, 3), (4, .iload_n 1, 1), (5, .aload_n 0, 1), (6, .getfield 35, 3), (9, .if_icmp .ge 12, 3), (12, .aload_n 0, 1), (13, .getfield 21, 3), (16, .iload_n 1, 1), (17, .aaload, 1), (18, .ifnonnull 7, 3), (21, .getstatic 60, 3), (24, .areturn, 1), (25, .aload_n 0, 1), (26, .getfield 21, 3), (29, .iload_n 1, 1), (30, .aaload, 1), (31, .areturn, 1)]
def zr_80 : List (Nat × Instr × Nat) := [(0, .aload_n 0, 1), (1, .getfield 12, 3), (4, .aload_n 0, 1), (5, .getfield 40, 3), (8, .invokevirtual 66, 3), (11, .aload_n 1, 1), (12, .if_acmp .ne 7, 3), (15, .iconst 1, 1), (16, .goto 4, 3), (19, .iconst 0, 1), (20, .ireturn, 1)]
def zr_81 : List (Nat × Instr × Nat) := [(0, .aload_n 0, 1), (1, .getfield 12, 3), (4, .aload_n 0, 1), (5, .getfield 40, 3), (8, .invokevirtual 66, 3), (11, .aload_n 1, 1), (12, .if_acmp .eq 5, 3), (15, .iconst 0, 1), (16, .ireturn, 1), (17, .aload_n 0, 1), (18, .dup, 1), (19, .getfield 40, 3), (22, .iconst 1, 1), (23, .iadd, 1), (24, .putfield 40, 3), (27, .iconst 1, 1), (28, .ireturn, 1)]
def zr_82 : List (Nat × Instr × Nat) := [(0, .aload_n 0, 1), (1, .getstatic 56, 3), (4, .invokevirtual 70, 3), (7, .ifCond .eq 47, 3), (10, .aload_n 0, 1), (11, .getstatic 73, 3), (14, .invokevirtual 70, 3), (17, .ifCond .eq 37, 3), (20, .aload_n 0, 1), (21, .getstatic 76, 3), (24, .invokevirtual 70, 3), (27, .ifCond .eq 27, 3), (30, .aload_n 0, 1), (31, .getstatic 79, 3), (34, .invokevirtual 70, 3), (37, .ifCond .eq 17, 3), (40, .aload_n 0, 1), (41, .getstatic 82, 3), (44, .invokevirtual 70, 3), (47, .ifCond .eq 7, 3), (50, .iconst 1, 1), (51, .goto 4, 3), (54, .iconst 0, 1), (55, .ireturn, 1)]
def zr_83 : List (Nat × Instr × Nat) := [(0, .aload_n 0, 1), (1, .iconst 0, 1), (2, .putfield 7, 3), (5, .aload_n 0, 1), (6, .iconst 0, 1), (7, .putfield 13, 3), (10, .aload_n 0, 1), (11, .iconst 0, 1), (12, .putfield 17, 3), (15, .aload_n 0, 1), (16, .iconst 0, 1), (17, .putfield 20, 3), (20, .aload_n 0, 1), (21, .iconst 0, 1), (22, .putfield 23, 3), (25, .return_, 1)]
def zr_84 : List (Nat × Instr × Nat) := [(0, .iload_n 2, 1), (1, .bipush 8, 2), (3, .if_icmp .ge 18, 3), (6, .aload_n 0, 1), (7, .getfield 12, 3), (10, .aload_n 0, 1), (11, .getfield 40, 3), (14, .invokevirtual 66, 3), (17, .aload_n 1, 1), (18, .if_acmp .eq 5, 3), (21, .iconst 0, 1), (22, .ireturn, 1), (23, .aload_n 0, 1), (24, .dup, 1), (25, .getfield 40, 3), (28, .iconst 1, 1), (29, .iadd, 1), (30, .putfield 40, 3), (33, .iconst 1, 1), (34, .ireturn, 1)]
def zr_85 : List (Nat × Instr × Nat) := [(0, .aload_n 0, 1), (1, .getfield 21, 3), (4, .istore_n 3, 1), (5, .iload_n 3, 1), (6, .sipush 600, 3), (9, .if_icmp .ge 27, 3), (12, .aload_n 0, 1), (13, .getfield 11, 3), (16, .iload_n 3, 1), (17, .aload_n 1, 1), (18, .aastore, 1), (19, .aload_n 0, 1), (20, .getfield 17, 3), (23, .iload_n 3, 1), (24, .iload_n 2, 1), (25, .iastore, 1), (26, .aload_n 0, 1), (27, .dup, 1), (28, .getfield 21, 3), (31, .iconst 1, 1), (32, .iadd, 1), (33, .putfield 21, 3), (36, .iload_n 3, 1), (37, .ireturn, 1)]
def zr_86 : List (Nat × Instr × Nat) := [(0, .aload_n 0, 1), (1, .getfield 12, 3), (4, .aload_n 0, 1), (5, .getfield 40, 3), (8, .invokevirtual 66, 3), (11, .areturn, 1)]
def zr_87 : List (Nat × Instr × Nat) := [(0, .aload_n 0, 1), (1, .getfield 7, 3), (4, .ireturn, 1)]
def zr_88 : List (Nat × Instr × Nat) := [(0, .aload_n 0, 1), (1, .getstatic 284, 3), (4, .iload_n 2, 1), (5, .invokevirtual 156, 3), (8, .ifCond .eq 37, 3), (11, .aload_n 0, 1), (12, .iload_n 2, 1), (13, .iconst 1, 1), (14, .iadd, 1), (15, .invokevirtual 202, 3), (18, .ifCond .eq 27, 3), (21, .aload_n 0, 1), (22, .getstatic 287, 3), (25, .invokevirtual 70, 3), (28, .ifCond .eq 17, 3), (31, .aload_n 0, 1), (32, .iload_n 2, 1), (33, .iconst 1, 1), (34, .iadd, 1), (35, .invokevirtual 202, 3), (38, .ifCond .eq 7, 3), (41, .iconst 1, 1), (42, .goto 4, 3), (45, .iconst 0, 1), (46, .istore_n 3, 1), (47, .aload_n 0, 1), (48, .getfield 21, 3), (51, .aload_n 1, 1), (52, .iconst 0, 1), (53, .invokevirtual 183, 3), (56, .pop, 1), (57, .iload_n 3, 1), (58, .ifCond .eq 17, 3), (61, .aload_n 0, 1), (62, .getstatic 278, 3), (65, .invokevirtual 70, 3), (68, .ifCond .eq 7, 3), (71, .iconst 1, 1), (72, .goto 4, 3), (75, .iconst 0, 1), (76, .ireturn, 1)]
def zr_89 : List (Nat × Instr × Nat) := [(0, .aload_n 0, 1), (1, .invokevirtual 172, 3), (4, .astore_n 2, 1), (5, .getstatic 166, 3), (8, .aload_n 2, 1), (9, .invokevirtual 176, 3), (12, .iaload, 1), (13, .tableswitch 155 8 13 #[39, 39, 58, 97, 132, 132], 39), (52, .aload_n 0, 1), (53, .getfield 21, 3), (56, .aload_n 2, 1), (57, .aload_n 0, 1), (58, .getfield 40, 3), (61, .invokevirtual 183, 3), (64, .pop, 1), (65, .aload_n 0, 1), (66, .aload_n 2, 1), (67, .invokevirtual 70, 3), (70, .ireturn, 1), (71, .aload_n 0, 1), (72, .aload_n 2, 1), (73, .iload_n 1, 1), (74, .invokevirtual 156, 3), (77, .ifCond .eq 17, 3), (80, .aload_n 0, 1), (81, .iload_n 1, 1), (82, .iconst 1, 1), (83, .iadd, 1), (84, .invokevirtual 266, 3), (87, .ifCond .eq 7, 3), (90, .iconst 1, 1), (91, .goto 4, 3), (94, .iconst 0, 1), (95, .istore_n 3, 1), (96, .aload_n 0, 1), (97, .getfield 21, 3), (100, .getstatic 275, 3), (103, .iconst 0, 1), (104, .invokevirtual 183, 3), (107, .pop, 1), (108, .iload_n 3, 1), (109, .ireturn, 1), (110, .aload_n 0, 1), (111, .aload_n 2, 1), (112, .iload_n 1, 1), (113, .invokevirtual 156, 3), (116, .ifCond .eq 27, 3), (119, .aload_n 0, 1), (120, .iload_n 1, 1), (121, .iconst 1, 1), (122, .iadd, 1), (123, .invokevirtual 202, 3), (126, .ifCond .eq 17, 3), (129, .aload_n 0, 1), (130, .getstatic 278, 3), (133, .invokevirtual 70, 3), (136, .ifCond .eq 7, 3), (139, .iconst 1, 1), (140, .goto 4, 3), (143, .iconst 0, 1), (144, .ireturn, 1), (145, .aload_n 0, 1), (146, .aload_n 2, 1), (147, .invokevirtual 70, 3), (150, .ifCond .eq 16, 3), (153, .aload_n 0, 1), (154, .aload_n 2, 1), (155, .iload_n 1, 1), (156, .invokevirtual 281, 3), (159, .ifCond .eq 7, 3), (162, .iconst 1, 1), (163, .goto 4, 3), (166, .iconst 0, 1), (167, .ireturn, 1), (168, .iconst 0, 1), (169, .ireturn, 1)]
def zr_90 : List (Nat × Instr × Nat) := [(0, .aload_n 0, 1), (1, .iload_n 1, 1), (2, .invokevirtual 266, 3), (5, .istore_n 2, 1), (6, .iconst 0, 1), (7, .istore_n 3, 1), (8, .iload_n 3, 1), (9, .sipush 600, 3), (12, .if_icmp .ge 66, 3), (15, .iload_n 2, 1), (16, .ifCond .eq 62, 3), (19, .aload_n 0, 1), (20, .getstatic 269, 3), (23, .invokevirtual 52, 3), (26, .ifCond .ne 13, 3), (29, .aload_n 0, 1), (30, .getstatic 272, 3), (33, .invokevirtual 52, 3), (36, .ifCond .eq 42, 3), (39, .aload_n 0, 1), (40, .invokevirtual 172, 3), (43, .astore 4, 2), (45, .aload_n 0, 1), (46, .dup, 1), (47, .getfield 40, 3), (50, .iconst 1, 1), (51, .iadd, 1), (52, .putfield 40, 3), (55, .aload_n 0, 1), (56, .iload_n 1, 1), (57, .invokevirtual 266, 3), (60, .istore_n 2, 1), (61, .aload_n 0, 1), (62, .getfield 21, 3), (65, .aload 4, 2), (67, .iconst 0, 1), (68, .invokevirtual 183, 3), (71, .pop, 1), (72, .iinc 3 1, 3), (75, .goto (-67), 3), (78, .iload_n 2, 1), (79, .ireturn, 1)]
def zr_91 : List (Nat × Instr × Nat) := [(0, .aload_n 0, 1), (1, .iload_n 1, 1), (2, .invokevirtual 257, 3), (5, .istore_n 2, 1), (6, .iconst 0, 1), (7, .istore_n 3, 1), (8, .iload_n 3, 1), (9, .sipush 600, 3), (12, .if_icmp .ge 66, 3), (15, .iload_n 2, 1), (16, .ifCond .eq 62, 3), (19, .aload_n 0, 1), (20, .getstatic 260, 3), (23, .invokevirtual 52, 3), (26, .ifCond .ne 13, 3), (29, .aload_n 0, 1), (30, .getstatic 263, 3), (33, .invokevirtual 52, 3), (36, .ifCond .eq 42, 3), (39, .aload_n 0, 1), (40, .invokevirtual 172, 3), (43, .astore 4, 2), (45, .aload_n 0, 1), (46, .dup, 1), (47, .getfield 40, 3), (50, .iconst 1, 1), (51, .iadd, 1), (52, .putfield 40, 3), (55, .aload_n 0, 1), (56, .iload_n 1, 1), (57, .invokevirtual 257, 3), (60, .istore_n 2, 1), (61, .aload_n 0, 1), (62, .getfield 21, 3), (65, .aload 4, 2), (67, .iconst 0, 1), (68, .invokevirtual 183, 3), (71, .pop, 1), (72, .iinc 3 1, 3), (75, .goto (-67), 3), (78, .iload_n 2, 1), (79, .ireturn, 1)]
def zr_92 : List (Nat × Instr × Nat) := [(0, .aload_n 0, 1), (1, .getstatic 245, 3), (4, .if_acmp .eq 31, 3), (7, .aload_n 0, 1), (8, .getstatic 248, 3), (11, .if_acmp .eq 24, 3), (14, .aload_n 0, 1), (15, .getstatic 76, 3), (18, .if_acmp .eq 17, 3), (21, .aload_n 0, 1), (22, .getstatic 251, 3), (25, .if_acmp .eq 10, 3), (28, .aload_n 0, 1), (29, .getstatic 254, 3), (32, .if_acmp .ne 7, 3), (35, .iconst 1, 1), (36, .goto 4, 3), (39, .iconst 0, 1), (40, .ireturn, 1)]
def zr_93 : List (Nat × Instr × Nat) := [(0, .aload_n 0, 1), (1, .getstatic 233, 3), (4, .invokevirtual 52, 3), (7, .ifCond .eq 44, 3), (10, .aload_n 0, 1), (11, .getstatic 233, 3), (14, .iload_n 1, 1), (15, .invokevirtual 156, 3), (18, .ifCond .eq 17, 3), (21, .aload_n 0, 1), (22, .iload_n 1, 1), (23, .iconst 1, 1), (24, .iadd, 1), (25, .invokevirtual 227, 3), (28, .ifCond .eq 7, 3), (31, .iconst 1, 1), (32, .goto 4, 3), (35, .iconst 0, 1), (36, .istore_n 2, 1), (37, .aload_n 0, 1), (38, .getfield 21, 3), (41, .getstatic 233, 3), (44, .iconst 0, 1), (45, .invokevirtual 183, 3), (48, .pop, 1), (49, .iload_n 2, 1), (50, .ireturn, 1), (51, .aload_n 0, 1), (52, .getstatic 236, 3), (55, .invokevirtual 52, 3), (58, .ifCond .eq 40, 3), (61, .aload_n 0, 1), (62, .getstatic 236, 3), (65, .iload_n 1, 1), (66, .invokevirtual 156, 3), (69, .ifCond .eq 27, 3), (72, .aload_n 0, 1), (73, .iload_n 1, 1), (74, .iconst 1, 1), (75, .iadd, 1), (76, .invokevirtual 124, 3), (79, .ifCond .eq 17, 3), (82, .aload_n 0, 1), (83, .getstatic 239, 3), (86, .invokevirtual 70, 3), (89, .ifCond .eq 7, 3), (92, .iconst 1, 1), (93, .goto 4, 3), (96, .iconst 0, 1), (97, .ireturn, 1), (98, .aload_n 0, 1), (99, .iload_n 1, 1), (100, .invokevirtual 202, 3), (103, .ifCond .eq 13, 3), (106, .aload_n 0, 1), (107, .invokevirtual 172, 3), (110, .invokestatic 242, 3), (113, .ifCond .ne 5, 3), (116, .iconst 0, 1), (117, .ireturn, 1), (118, .aload_n 0, 1), (119, .invokevirtual 172, 3), (122, .astore_n 2, 1), (123, .aload_n 0, 1), (124, .dup, 1), (125, .getfield 40, 3), (128, .iconst 1, 1), (129, .iadd, 1), (130, .putfield 40, 3), (133, .aload_n 0, 1), (134, .iload_n 1, 1), (135, .invokevirtual 202, 3), (138, .istore_n 3, 1), (139, .aload_n 0, 1), (140, .getfield 21, 3), (143, .aload_n 2, 1), (144, .iconst 0, 1), (145, .invokevirtual 183, 3), (148, .pop, 1), (149, .iload_n 3, 1), (150, .ireturn, 1)]
def zr_94 : List (Nat × Instr × Nat) := [(0, .aload_n 0, 1), (1, .iload_n 1, 1), (2, .invokevirtual 227, 3), (5, .istore_n 2, 1), (6, .iconst 0, 1), (7, .istore_n 3, 1), (8, .iload_n 3, 1), (9, .sipush 600, 3), (12, .if_icmp .ge 41, 3), (15, .iload_n 2, 1), (16, .ifCond .eq 37, 3), (19, .aload_n 0, 1), (20, .getstatic 230, 3), (23, .invokevirtual 70, 3), (26, .ifCond .eq 27, 3), (29, .aload_n 0, 1), (30, .iload_n 1, 1), (31, .invokevirtual 227, 3), (34, .istore_n 2, 1), (35, .aload_n 0, 1), (36, .getfield 21, 3), (39, .getstatic 230, 3), (42, .iconst 0, 1), (43, .invokevirtual 183, 3), (46, .pop, 1), (47, .iinc 3 1, 3), (50, .goto (-42), 3), (53, .iload_n 2, 1), (54, .ireturn, 1)]
def zr_95 : List (Nat × Instr × Nat) := [(0, .aload_n 0, 1), (1, .iload_n 1, 1), (2, .invokevirtual 221, 3), (5, .istore_n 2, 1), (6, .iconst 0, 1), (7, .istore_n 3, 1), (8, .iload_n 3, 1), (9, .sipush 600, 3), (12, .if_icmp .ge 41, 3), (15, .iload_n 2, 1), (16, .ifCond .eq 37, 3), (19, .aload_n 0, 1), (20, .getstatic 224, 3), (23, .invokevirtual 70, 3), (26, .ifCond .eq 27, 3), (29, .aload_n 0, 1), (30, .iload_n 1, 1), (31, .invokevirtual 221, 3), (34, .istore_n 2, 1), (35, .aload_n 0, 1), (36, .getfield 21, 3), (39, .getstatic 224, 3), (42, .iconst 0, 1), (43, .invokevirtual 183, 3), (46, .pop, 1), (47, .iinc 3 1, 3), (50, .goto (-42), 3), (53, .iload_n 2, 1), (54, .ireturn, 1)]
def zr_96 : List (Nat × Instr × Nat) := [(0, .aload_n 1, 1), (1, .aload_n 0, 1), (2, .getfield 21, 3), (5, .getfield 105, 3), (8, .putfield 118, 3), (11, .aload_n 0, 1), (12, .getstatic 121, 3), (15, .invokevirtual 70, 3), (18, .ifCond .eq 11, 3), (21, .aload_n 0, 1), (22, .iconst 0, 1), (23, .invokevirtual 124, 3), (26, .ifCond .eq 7, 3), (29, .iconst 1, 1), (30, .goto 4, 3), (33, .iconst 0, 1), (34, .istore_n 2, 1), (35, .aload_n 1, 1), (36, .aload_n 0, 1), (37, .getfield 21, 3), (40, .getfield 105, 3), (43, .putfield 127, 3), (46, .iload_n 2, 1), (47, .ireturn, 1)]
def zr_97 : List (Nat × Instr × Nat) := [(0, .iload_n 1, 1), (1, .ifCond .lt 11, 3), (4, .iload_n 1, 1), (5, .aload_n 0, 1), (6, .getfield 35, 3), (9, .if_icmp .lt 7, 3), (12, .iconst 0, 1), (13, .goto 9, 3), (16, .aload_n 0, 1), (17, .getfield 32, 3), (20, .iload_n 1, 1), (21, .iaload, 1), (22, .ireturn, 1)]
def zr_98 : List (Nat × Instr × Nat) := [(0, .aload_n 0, 1), (1, .getstatic 130, 3), (4, .invokevirtual 70, 3), (7, .ifCond .ne 5, 3), (10, .iconst 1, 1), (11, .ireturn, 1), (12, .aload_n 0, 1), (13, .getfield 40, 3), (16, .istore_n 2, 1), (17, .aload_n 0, 1), (18, .getstatic 79, 3), (21, .invokevirtual 70, 3), (24, .ifCond .eq 13, 3), (27, .aload_n 0, 1), (28, .getstatic 79, 3), (31, .invokevirtual 70, 3), (34, .ifCond .ne 5, 3), (37, .iconst 0, 1), (38, .ireturn, 1), (39, .aload_n 1, 1), (40, .iconst 1, 1), (41, .putfield 133, 3), (44, .aload_n 1, 1), (45, .aload_n 0, 1), (46, .getfield 12, 3), (49, .iload_n 2, 1), (50, .invokevirtual 137, 3), (53, .aload_n 0, 1), (54, .getfield 12, 3), (57, .iload_n 2, 1), (58, .iconst 1, 1), (59, .iadd, 1), (60, .invokevirtual 137, 3), (63, .isub, 1), (64, .putfield 141, 3), (67, .iconst 1, 1), (68, .ireturn, 1)]
def zr_99 : List (Nat × Instr × Nat) := [(0, .iconst 1, 1), (1, .istore_n 1, 1), (2, .iconst 0, 1), (3, .istore_n 2, 1), (4, .iload_n 2, 1), (5, .sipush 600, 3), (8, .if_icmp .ge 61, 3), (11, .iload_n 1, 1), (12, .ifCond .eq 57, 3), (15, .aload_n 0, 1), (16, .getstatic 144, 3), (19, .invokevirtual 52, 3), (22, .ifCond .ne 23, 3), (25, .aload_n 0, 1), (26, .getstatic 147, 3), (29, .invokevirtual 52, 3), (32, .ifCond .ne 13, 3), (35, .aload_n 0, 1), (36, .getstatic 150, 3), (39, .invokevirtual 52, 3), (42, .ifCond .eq 27, 3), (45, .aload_n 0, 1), (46, .dup, 1), (47, .getfield 40, 3), (50, .iconst 1, 1), (51, .iadd, 1), (52, .putfield 40, 3), (55, .aload_n 0, 1), (56, .getstatic 73, 3), (59, .invokevirtual 70, 3), (62, .istore_n 1, 1), (63, .iinc 2 1, 3), (66, .goto (-62), 3), (69, .iload_n 1, 1), (70, .ireturn, 1)]
def zr_100 : List (Nat × Instr × Nat) := [(0, .aload_n 0, 1), (1, .invokevirtual 172, 3), (4, .astore_n 1, 1), (5, .aload_n 0, 1), (6, .dup, 1), (7, .getfield 40, 3), (10, .iconst 1, 1), (11, .iadd, 1), (12, .putfield 40, 3), (15, .aload_n 0, 1), (16, .getfield 21, 3), (19, .aload_n 1, 1), (20, .aload_n 0, 1), (21, .getfield 40, 3), (24, .invokevirtual 183, 3), (27, .pop, 1), (28, .aload_n 0, 1), (29, .getstatic 73, 3), (32, .invokevirtual 70, 3), (35, .ireturn, 1)]
def zr_101 : List (Nat × Instr × Nat) := [(0, .aload_n 0, 1), (1, .getstatic 199, 3), (4, .invokevirtual 70, 3), (7, .ifCond .eq 11, 3), (10, .aload_n 0, 1), (11, .iload_n 1, 1), (12, .invokevirtual 202, 3), (15, .ifCond .ne 5, 3), (18, .iconst 0, 1), (19, .ireturn, 1), (20, .aload_n 0, 1), (21, .getfield 21, 3), (24, .getstatic 199, 3), (27, .iconst 0, 1), (28, .invokevirtual 183, 3), (31, .pop, 1), (32, .aload_n 0, 1), (33, .getstatic 82, 3), (36, .invokevirtual 70, 3), (39, .ireturn, 1)]
def zr_102 : List (Nat × Instr × Nat) := [(0, .iload_n 1, 1), (1, .ifCond .lt 21, 3), (4, .iload_n 1, 1), (5, .aload_n 0, 1), (6, .getfield 21, 3), (9, .if_icmp .ge 13, 3), (12, .aload_n 0, 1), (13, .getfield 17, 3), (16, .iload_n 1, 1), (17, .aload_n 0, 1), (18, .getfield 21, 3), (21, .iastore, 1), (22, .return_, 1)]
def zr_103 : List (Nat × Instr × Nat) := [(0, .aload_n 0, 1), (1, .getstatic 205, 3), (4, .invokevirtual 70, 3), (7, .ifCond .eq 11, 3), (10, .aload_n 0, 1), (11, .iload_n 1, 1), (12, .invokevirtual 124, 3), (15, .ifCond .ne 5, 3), (18, .iconst 0, 1), (19, .ireturn, 1), (20, .aload_n 0, 1), (21, .getfield 21, 3), (24, .getstatic 205, 3), (27, .iconst 0, 1), (28, .invokevirtual 183, 3), (31, .istore_n 2, 1), (32, .aload_n 0, 1), (33, .iload_n 1, 1), (34, .invokevirtual 111, 3), (37, .ifCond .ne 5, 3), (40, .iconst 0, 1), (41, .ireturn, 1), (42, .aload_n 0, 1), (43, .getstatic 208, 3), (46, .invokevirtual 70, 3), (49, .ifCond .ne 13, 3), (52, .aload_n 0, 1), (53, .getfield 21, 3), (56, .iload_n 2, 1), (57, .invokevirtual 211, 3), (60, .iconst 1, 1), (61, .ireturn, 1), (62, .aload_n 0, 1), (63, .getfield 21, 3), (66, .getstatic 208, 3), (69, .iconst 0, 1), (70, .invokevirtual 183, 3), (73, .istore_n 3, 1), (74, .aload_n 0, 1), (75, .getfield 21, 3), (78, .iload_n 2, 1), (79, .invokevirtual 211, 3), (82, .aload_n 0, 1), (83, .iload_n 1, 1), (84, .invokevirtual 111, 3), (87, .istore 4, 2), (89, .aload_n 0, 1), (90, .getfield 21, 3), (93, .iload_n 3, 1), (94, .invokevirtual 211, 3), (97, .iload 4, 2), (99, .ireturn, 1)]
def zr_104 : List (Nat × Instr × Nat) := [(0, .aload_n 0, 1), (1, .getstatic 215, 3), (4, .invokevirtual 70, 3), (7, .ifCond .eq 18, 3), (10, .aload_n 0, 1), (11, .getstatic 153, 3), (14, .iload_n 1, 1), (15, .invokevirtual 156, 3), (18, .ifCond .eq 7, 3), (21, .iconst 1, 1), (22, .goto 4, 3), (25, .iconst 0, 1), (26, .istore_n 2, 1), (27, .iconst 1, 1), (28, .istore_n 3, 1), (29, .iload_n 3, 1), (30, .sipush 600, 3), (33, .if_icmp .gt 43, 3), (36, .iload_n 2, 1), (37, .ifCond .eq 39, 3), (40, .aload_n 0, 1), (41, .getstatic 218, 3), (44, .invokevirtual 70, 3), (47, .ifCond .eq 29, 3), (50, .aload_n 0, 1), (51, .getfield 21, 3), (54, .getstatic 218, 3), (57, .iload_n 3, 1), (58, .invokevirtual 183, 3), (61, .pop, 1), (62, .aload_n 0, 1), (63, .iload_n 1, 1), (64, .iconst 1, 1), (65, .iadd, 1), (66, .invokevirtual 111, 3), (69, .istore_n 2, 1), (70, .iinc 3 1, 3), (73, .goto (-44), 3), (76, .iload_n 2, 1), (77, .ifCond .eq 17, 3), (80, .aload_n 0, 1), (81, .getstatic 160, 3), (84, .invokevirtual 70, 3), (87, .ifCond .eq 7, 3), (90, .iconst 1, 1), (91, .goto 4, 3), (94, .iconst 0, 1), (95, .ireturn, 1)]
def zr_105 : List (Nat × Instr × Nat) := [(0, .getstatic 166, 3), (3, .aload_n 0, 1), (4, .invokevirtual 172, 3), (7, .invokevirtual 176, 3), (10, .iaload, 1), (11, .tableswitch 87 1 7 #[41, 64, 64, 64, 69, 75, 81], 41), (52, .aload_n 0, 1), (53, .getfield 21, 3), (56, .getstatic 180, 3), (59, .aload_n 0, 1), (60, .getfield 40, 3), (63, .invokevirtual 183, 3), (66, .pop, 1), (67, .aload_n 0, 1), (68, .getstatic 180, 3), (71, .invokevirtual 70, 3), (74, .ireturn, 1), (75, .aload_n 0, 1), (76, .invokevirtual 187, 3), (79, .ireturn, 1), (80, .aload_n 0, 1), (81, .iload_n 1, 1), (82, .invokevirtual 190, 3), (85, .ireturn, 1), (86, .aload_n 0, 1), (87, .iload_n 1, 1), (88, .invokevirtual 193, 3), (91, .ireturn, 1), (92, .aload_n 0, 1), (93, .iload_n 1, 1), (94, .invokevirtual 196, 3), (97, .ireturn, 1), (98, .iconst 0, 1), (99, .ireturn, 1)]
def zr_106 : List (Nat × Instr × Nat) := [(0, .aload_n 0, 1), (1, .getstatic 153, 3), (4, .iload_n 1, 1), (5, .invokevirtual 156, 3), (8, .istore_n 2, 1), (9, .iconst 0, 1), (10, .istore_n 3, 1), (11, .iload_n 3, 1), (12, .sipush 600, 3), (15, .if_icmp .ge 31, 3), (18, .iload_n 2, 1), (19, .ifCond .eq 27, 3), (22, .aload_n 0, 1), (23, .getstatic 160, 3), (26, .invokevirtual 52, 3), (29, .ifCond .ne 17, 3), (32, .aload_n 0, 1), (33, .iload_n 1, 1), (34, .iconst 1, 1), (35, .iadd, 1), (36, .invokevirtual 163, 3), (39, .istore_n 2, 1), (40, .iinc 3 1, 3), (43, .goto (-32), 3), (46, .iload_n 2, 1), (47, .ifCond .eq 17, 3), (50, .aload_n 0, 1), (51, .getstatic 160, 3), (54, .invokevirtual 70, 3), (57, .ifCond .eq 7, 3), (60, .iconst 1, 1), (61, .goto 4, 3), (64, .iconst 0, 1), (65, .ireturn, 1)]
def zr_107 : List (Nat × Instr × Nat) := [(0, .aload_n 0, 1), (1, .getfield 36, 3), (4, .aload_n 0, 1), (5, .getfield 27, 3), (8, .arraylength, 1), (9, .if_icmp .ge 15, 3), (12, .aload_n 0, 1), (13, .getfield 27, 3), (16, .aload_n 0, 1), (17, .getfield 36, 3), (20, .aaload, 1), (21, .goto 7, 3), (24, .aload_n 0, 1), (25, .getfield 32, 3), (28, .astore_n 1, 1), (29, .aload_n 0, 1), (30, .dup, 1), (31, .getfield 36, 3), (34, .iconst 1, 1), (35, .iadd, 1), (36, .putfield 36, 3), (39, .aload_n 1, 1), (40, .invokevirtual 85, 3), (43, .aload_n 0, 1), (44, .getstatic 86, 3), (47, .invokevirtual 70, 3), (50, .ifCond .eq 13, 3), (53, .aload_n 0, 1), (54, .getstatic 73, 3), (57, .invokevirtual 70, 3), (60, .ifCond .ne 5, 3), (63, .iconst 0, 1), (64, .ireturn, 1), (65, .aload_n 1, 1), (66, .aload_n 0, 1), (67, .getfield 40, 3), (70, .putfield 89, 3), (73, .aload_n 0, 1), (74, .aload_n 1, 1), (75, .invokevirtual 92, 3), (78, .ifCond .eq 18, 3), (81, .aload_n 0, 1), (82, .aload_n 1, 1), (83, .invokevirtual 96, 3), (86, .ifCond .eq 10, 3), (89, .aload_n 0, 1), (90, .invokevirtual 99, 3), (93, .ifCond .ne 5, 3), (96, .iconst 0, 1), (97, .ireturn, 1), (98, .aload_n 1, 1), (99, .aload_n 0, 1), (100, .getfield 40, 3), (103, .putfield 102, 3), (106, .aload_n 1, 1), (107, .aload_n 0, 1), (108, .getfield 21, 3), (111, .getfield 105, 3), (114, .putfield 108, 3), (117, .aload_n 0, 1), (118, .iconst 0, 1), (119, .invokevirtual 111, 3), (122, .istore_n 2, 1), (123, .aload_n 1, 1), (124, .aload_n 0, 1), (125, .getfield 21, 3), (128, .getfield 105, 3), (131, .putfield 115, 3), (134, .iload_n 2, 1), (135, .ireturn, 1)]
def zr_108 : List (Nat × Instr × Nat) := [(0, .aload_n 0, 1), (1, .iconst 0, 1), (2, .putfield 40, 3), (5, .aload_n 0, 1), (6, .iconst 0, 1), (7, .putfield 36, 3), (10, .aload_n 0, 1), (11, .getfield 21, 3), (14, .invokevirtual 43, 3), (17, .iconst 1, 1), (18, .istore_n 1, 1), (19, .iconst 0, 1), (20, .istore_n 2, 1), (21, .iload_n 2, 1), (22, .sipush 600, 3), (25, .if_icmp .ge 45, 3), (28, .iload_n 1, 1), (29, .ifCond .eq 41, 3), (32, .aload_n 0, 1), (33, .getstatic 46, 3), (36, .invokevirtual 52, 3), (39, .ifCond .ne 31, 3), (42, .aload_n 0, 1), (43, .getstatic 56, 3), (46, .invokevirtual 52, 3), (49, .ifCond .eq 10, 3), (52, .aload_n 0, 1), (53, .invokevirtual 59, 3), (56, .goto 7, 3), (59, .aload_n 0, 1), (60, .invokevirtual 63, 3), (63, .istore_n 1, 1), (64, .iinc 2 1, 3), (67, .goto (-46), 3), (70, .iload_n 1, 1), (71, .ireturn, 1)]
def zr_109 : List (Nat × Instr × Nat) := [(0, .iload_n 1, 1), (1, .ifCond .lt 11, 3), (4, .iload_n 1, 1), (5, .aload_n 0, 1), (6, .getfield 35, 3), (9, .if_icmp .lt 7, 3), (12, .iconst 0, 1), (13, .goto 9, 3), (16, .aload_n 0, 1), (17, .getfield 29, 3), (20, .iload_n 1, 1), (21, .iaload, 1), (22, .ireturn, 1)]
def zr_110 : List (Nat × Instr × Nat) := [(0, .iload_n 1, 1), (1, .ifCond .lt 11, 3), (4, .iload_n 1, 1), (5, .aload_n 0, 1), (6, .getfield 35, 3), (9, .if_icmp .lt 7, 3), (12, .iconst 0, 1), (13, .goto 9, 3), (16, .aload_n 0, 1), (17, .getfield 25, 3), (20, .iload_n 1, 1), (21, .iaload, 1), (22, .ireturn, 1)]
def zr_111 : List (Nat × Instr × Nat) := [(0, .aload_n 0, 1), (1, .iload_n 1, 1), (2, .invokevirtual 77, 3), (5, .istore_n 3, 1), (6, .iload_n 3, 1), (7, .aload_n 0, 1), (8, .iload_n 2, 1), (9, .invokevirtual 77, 3), (12, .if_icmp .eq 5, 3), (15, .iconst 0, 1), (16, .ireturn, 1), (17, .iconst 0, 1), (18, .istore 4, 2), (20, .iload 4, 2), (22, .iload_n 3, 1), (23, .if_icmp .ge 38, 3), (26, .aload_n 0, 1), (27, .aload_n 0, 1), (28, .iload_n 1, 1), (29, .invokevirtual 80, 3), (32, .iload 4, 2), (34, .iadd, 1), (35, .invokevirtual 83, 3), (38, .aload_n 0, 1), (39, .aload_n 0, 1), (40, .iload_n 2, 1), (41, .invokevirtual 80, 3), (44, .iload 4, 2), (46, .iadd, 1), (47, .invokevirtual 83, 3), (50, .if_icmp .eq 5, 3), (53, .iconst 0, 1), (54, .ireturn, 1), (55, .iinc 4 1, 3), (58, .goto (-38), 3), (61, .iconst 1, 1), (62, .ireturn, 1)]
def zr_112 : List (Nat × Instr × Nat) := [(0, .iconst 0, 1), (1, .istore 4, 2), (3, .iload 4, 2), (5, .iload_n 3, 1), (6, .if_icmp .ge 34, 3), (9, .iload 4, 2), (11, .aload_n 2, 1), (12, .arraylength, 1), (13, .if_icmp .ge 27, 3), (16, .aload_n 0, 1), (17, .getfield 22, 3), (20, .aload_n 2, 1), (21, .iload 4, 2), (23, .iaload, 1), (24, .iload_n 1, 1), (25, .invokevirtual 170, 3), (28, .ifCond .eq 6, 3), (31, .iload 4, 2), (33, .ireturn, 1), (34, .iinc 4 1, 3), (37, .goto (-34), 3), (40, .iconst (-1), 1), (41, .ireturn, 1)]
def zr_113 : List (Nat × Instr × Nat) := [(0, .aload_n 0, 1), (1, .iload_n 1, 1), (2, .aload_n 0, 1), (3, .getfield 37, 3), (6, .aload_n 0, 1), (7, .getfield 43, 3), (10, .invokevirtual 131, 3), (13, .ifCond .lt 5, 3), (16, .iconst 2, 1), (17, .ireturn, 1), (18, .aload_n 0, 1), (19, .getfield 43, 3), (22, .bipush 10, 2), (24, .if_icmp .lt 6, 3), (27, .bipush 6, 2), (29, .ireturn, 1), (30, .aload_n 0, 1), (31, .getfield 37, 3), (34, .aload_n 0, 1), (35, .getfield 43, 3), (38, .iload_n 1, 1), (39, .iastore, 1), (40, .aload_n 0, 1), (41, .getfield 33, 3), (44, .aload_n 0, 1), (45, .getfield 43, 3), (48, .aload_n 0, 1), (49, .getfield 22, 3), (52, .iload_n 1, 1), (53, .iconst 2, 1), (54, .iadd, 1), (55, .invokevirtual 135, 3), (58, .iastore, 1), (59, .aload_n 0, 1), (60, .dup, 1), (61, .getfield 43, 3), (64, .iconst 1, 1), (65, .iadd, 1), (66, .putfield 43, 3), (69, .iconst 0, 1), (70, .ireturn, 1)]
def zr_114 : List (Nat × Instr × Nat) := [(0, .iconst 0, 1), (1, .istore_n 2, 1), (2, .iconst 0, 1), (3, .istore_n 3, 1), (4, .iload_n 3, 1), (5, .aload_n 0, 1), (6, .getfield 22, 3), (9, .getfield 90, 3), (12, .if_icmp .ge 42, 3), (15, .aload_n 0, 1), (16, .getfield 22, 3), (19, .iload_n 3, 1), (20, .invokevirtual 93, 3), (23, .getstatic 173, 3), (26, .if_acmp .ne 22, 3), (29, .aload_n 0, 1), (30, .getfield 22, 3), (33, .iload_n 3, 1), (34, .iconst 1, 1), (35, .iadd, 1), (36, .iload_n 1, 1), (37, .invokevirtual 170, 3), (40, .ifCond .eq 5, 3), (43, .iload_n 2, 1), (44, .ireturn, 1), (45, .iinc 2 1, 3), (48, .iinc 3 1, 3), (51, .goto (-47), 3), (54, .iconst (-1), 1), (55, .ireturn, 1)]
def zr_115 : List (Nat × Instr × Nat) := [(0, .iload_n 0, 1), (1, .iload_n 0, 1), (2, .iconst 1, 1), (3, .iushr, 1), (4, .ldc_w 265, 3), (7, .iand, 1), (8, .isub, 1), (9, .istore_n 0, 1), (10, .iload_n 0, 1), (11, .ldc_w 266, 3), (14, .iand, 1), (15, .iload_n 0, 1), (16, .iconst 2, 1), (17, .iushr, 1), (18, .ldc_w 266, 3), (21, .iand, 1), (22, .iadd, 1), (23, .istore_n 0, 1), (24, .iload_n 0, 1), (25, .iload_n 0, 1), (26, .iconst 4, 1), (27, .iushr, 1), (28, .iadd, 1), (29, .ldc_w 267, 3), (32, .iand, 1), (33, .istore_n 0, 1), (34, .iload_n 0, 1), (35, .iload_n 0, 1), (36, .bipush 8, 2), (38, .iushr, 1), (39, .iadd, 1), (40, .istore_n 0, 1), (41, .iload_n 0, 1), (42, .iload_n 0, 1), (43, .bipush 16, 2), (45, .iushr, 1), (46, .iadd, 1), (47, .istore_n 0, 1), (48, .iload_n 0, 1), (49, .bipush 63, 2), (51, .iand, 1), (52, .ireturn, 1)]
def zr_116 : List (Nat × Instr × Nat) := [(0, .aload_n 0, 1), (1, .iload_n 1, 1), (2, .invokevirtual 138, 3), (5, .aload_n 0, 1), (6, .getfield 47, 3), (9, .if_icmp .ge 5, 3), (12, .iconst 2, 1), (13, .ireturn, 1), (14, .aload_n 0, 1), (15, .getfield 47, 3), (18, .bipush 16, 2), (20, .if_icmp .lt 6, 3), (23, .bipush 6, 2), (25, .ireturn, 1), (26, .aload_n 0, 1), (27, .getfield 32, 3), (30, .aload_n 0, 1), (31, .getfield 47, 3), (34, .aaload, 1), (35, .getfield 141, 3), (38, .ifCond .eq 33, 3), (41, .aload_n 0, 1), (42, .getfield 53, 3), (45, .invokestatic 145, 3), (48, .bipush 8, 2), (50, .if_icmp .lt 6, 3), (53, .bipush 6, 2), (55, .ireturn, 1), (56, .aload_n 0, 1), (57, .dup, 1), (58, .getfield 53, 3), (61, .iconst 1, 1), (62, .aload_n 0, 1), (63, .getfield 47, 3), (66, .ishl, 1), (67, .ior, 1), (68, .putfield 53, 3), (71, .aload_n 0, 1), (72, .dup, 1), (73, .getfield 47, 3), (76, .iconst 1, 1), (77, .iadd, 1), (78, .putfield 47, 3), (81, .iconst 0, 1), (82, .ireturn, 1)]
def zr_117 : List (Nat × Instr × Nat) := [(0, .iload_n 1, 1), (1, .ifCond .lt 18, 3), (4, .iload_n 1, 1), (5, .aload_n 0, 1), (6, .getfield 35, 3), (9, .if_icmp .ge 10, 3), (12, .aload_n 0, 1), (13, .getfield 32, 3), (16, .iload_n 1, 1), (17, .iload_n 2, 1), (18, .iastore, 1), (19, .return_, 1)]
def zr_118 : List (Nat × Instr × Nat) := [(0, .aload_n 0, 1), (1, .dup, 1), (2, .getfield 76, 3), (5, .aload_n 1, 1), (6, .getstatic 158, 3), (9, .if_acmp .ne 7, 3), (12, .iload_n 2, 1), (13, .goto 4, 3), (16, .iconst 0, 1), (17, .ior, 1), (18, .putfield 76, 3), (21, .aload_n 0, 1), (22, .dup, 1), (23, .getfield 81, 3), (26, .aload_n 1, 1), (27, .getstatic 161, 3), (30, .if_acmp .ne 7, 3), (33, .iload_n 2, 1), (34, .goto 4, 3), (37, .iconst 0, 1), (38, .ior, 1), (39, .putfield 81, 3), (42, .aload_n 0, 1), (43, .dup, 1), (44, .getfield 164, 3), (47, .aload_n 1, 1), (48, .getstatic 167, 3), (51, .if_acmp .ne 7, 3), (54, .iload_n 2, 1), (55, .goto 4, 3), (58, .iconst 0, 1), (59, .ior, 1), (60, .putfield 164, 3), (63, .return_, 1)]
def zr_119 : List (Nat × Instr × Nat) := [(0, .aload_n 0, 1), (1, .iload_n 1, 1), (2, .invokevirtual 138, 3), (5, .istore_n 3, 1), (6, .iload_n 3, 1), (7, .ifCond .ge 5, 3), (10, .iconst 3, 1), (11, .ireturn, 1), (12, .iload_n 3, 1), (13, .aload_n 0, 1), (14, .getfield 47, 3), (17, .iconst 1, 1), (18, .isub, 1), (19, .if_icmp .ne 5, 3), (22, .iconst 5, 1), (23, .ireturn, 1), (24, .aload_n 0, 1), (25, .getfield 22, 3), (28, .iload_n 1, 1), (29, .iload_n 3, 1), (30, .invokevirtual 150, 3), (33, .aload_n 0, 1), (34, .getfield 47, 3), (37, .ifCond .le 21, 3), (40, .aload_n 0, 1), (41, .getfield 32, 3), (44, .aload_n 0, 1), (45, .getfield 47, 3), (48, .iconst 1, 1), (49, .isub, 1), (50, .aaload, 1), (51, .aload_n 2, 1), (52, .iconst 1, 1), (53, .iload_n 3, 1), (54, .ishl, 1), (55, .invokestatic 154, 3), (58, .iconst 0, 1), (59, .ireturn, 1)]
def zr_120 : List (Nat × Instr × Nat) := [(0, .aload_n 0, 1), (1, .iload_n 1, 1), (2, .aload_n 0, 1), (3, .getfield 40, 3), (6, .aload_n 0, 1), (7, .getfield 50, 3), (10, .invokevirtual 131, 3), (13, .istore_n 2, 1), (14, .iload_n 2, 1), (15, .ifCond .ge 37, 3), (18, .aload_n 0, 1), (19, .getfield 50, 3), (22, .bipush 24, 2), (24, .if_icmp .lt 6, 3), (27, .bipush 6, 2), (29, .ireturn, 1), (30, .aload_n 0, 1), (31, .getfield 50, 3), (34, .istore_n 2, 1), (35, .aload_n 0, 1), (36, .getfield 40, 3), (39, .iload_n 2, 1), (40, .iload_n 1, 1), (41, .iastore, 1), (42, .aload_n 0, 1), (43, .dup, 1), (44, .getfield 50, 3), (47, .iconst 1, 1), (48, .iadd, 1), (49, .putfield 50, 3), (52, .aload_n 0, 1), (53, .getfield 22, 3), (56, .iload_n 1, 1), (57, .iload_n 2, 1), (58, .invokevirtual 150, 3), (61, .iconst 0, 1), (62, .ireturn, 1)]
def zr_121 : List (Nat × Instr × Nat) := [(0, .aload_n 0, 1), (1, .iload_n 1, 1), (2, .aload_n 0, 1), (3, .getfield 37, 3), (6, .aload_n 0, 1), (7, .getfield 43, 3), (10, .invokevirtual 131, 3), (13, .istore_n 2, 1), (14, .aload_n 0, 1), (15, .getfield 22, 3), (18, .iload_n 1, 1), (19, .iload_n 2, 1), (20, .invokevirtual 150, 3), (23, .iload_n 2, 1), (24, .ifCond .ge 7, 3), (27, .iconst 4, 1), (28, .goto 4, 3), (31, .iconst 0, 1), (32, .ireturn, 1)]
def zr_122 : List (Nat × Instr × Nat) := [(0, .getstatic 107, 3), (3, .aload_n 2, 1), (4, .invokevirtual 112, 3), (7, .iaload, 1), (8, .tableswitch 109 2 18 #[96, 103, 103, 109, 109, 109, 109, 109, 109, 109, 109, 109, 84, 90, 96, 96, 96], 84), (92, .aload_n 0, 1), (93, .iload_n 1, 1), (94, .invokevirtual 116, 3), (97, .ireturn, 1), (98, .aload_n 0, 1), (99, .iload_n 1, 1), (100, .invokevirtual 119, 3), (103, .ireturn, 1), (104, .aload_n 0, 1), (105, .iload_n 1, 1), (106, .aload_n 2, 1), (107, .invokevirtual 122, 3), (110, .ireturn, 1), (111, .aload_n 0, 1), (112, .iload_n 1, 1), (113, .invokevirtual 125, 3), (116, .ireturn, 1), (117, .aload_n 0, 1), (118, .iload_n 1, 1), (119, .invokevirtual 128, 3), (122, .ireturn, 1)]
def zr_123 : List (Nat × Instr × Nat) := [(0, .iconst 0, 1), (1, .istore_n 1, 1), (2, .iconst 1, 1), (3, .istore_n 2, 1), (4, .iload_n 2, 1), (5, .aload_n 0, 1), (6, .getfield 22, 3), (9, .getfield 90, 3), (12, .if_icmp .ge 48, 3), (15, .iload_n 1, 1), (16, .ifCond .ne 44, 3), (19, .aload_n 0, 1), (20, .getfield 22, 3), (23, .iload_n 2, 1), (24, .invokevirtual 93, 3), (27, .getstatic 97, 3), (30, .if_acmp .ne 24, 3), (33, .aload_n 0, 1), (34, .iload_n 2, 1), (35, .putfield 56, 3), (38, .aload_n 0, 1), (39, .iload_n 2, 1), (40, .aload_n 0, 1), (41, .getfield 22, 3), (44, .iload_n 2, 1), (45, .iconst 1, 1), (46, .isub, 1), (47, .invokevirtual 93, 3), (50, .invokevirtual 103, 3), (53, .istore_n 1, 1), (54, .iinc 2 1, 3), (57, .goto (-53), 3), (60, .iload_n 1, 1), (61, .ireturn, 1)]
def zr_124 : List (Nat × Instr × Nat) := [(0, .iload_n 1, 1), (1, .ifCond .ne 5, 3), (4, .iconst (-1), 1), (5, .ireturn, 1), (6, .aload_n 0, 1), (7, .getfield 22, 3), (10, .iload_n 1, 1), (11, .iconst 1, 1), (12, .if_icmp .ne 13, 3), (15, .aload_n 0, 1), (16, .getfield 12, 3), (19, .getfield 65, 3), (22, .goto 7, 3), (25, .aload_n 0, 1), (26, .getfield 56, 3), (29, .invokevirtual 68, 3), (32, .ireturn, 1)]
def zr_125 : List (Nat × Instr × Nat) := [(0, .aload_n 0, 1), (1, .iconst 0, 1), (2, .putfield 7, 3), (5, .return_, 1)]
def zr_126 : List (Nat × Instr × Nat) := [(0, .aload_n 0, 1), (1, .iconst 0, 1), (2, .putfield 9, 3), (5, .aload_n 0, 1), (6, .iconst 0, 1), (7, .putfield 15, 3), (10, .iconst 0, 1), (11, .istore_n 1, 1), (12, .iload_n 1, 1), (13, .bipush 16, 2), (15, .if_icmp .ge 30, 3), (18, .aload_n 0, 1), (19, .getfield 22, 3), (22, .iload_n 1, 1), (23, .iconst 0, 1), (24, .iastore, 1), (25, .aload_n 0, 1), (26, .getfield 25, 3), (29, .iload_n 1, 1), (30, .iconst 0, 1), (31, .iastore, 1), (32, .aload_n 0, 1), (33, .getfield 28, 3), (36, .iload_n 1, 1), (37, .iconst 0, 1), (38, .iastore, 1), (39, .iinc 1 1, 3), (42, .goto (-30), 3), (45, .aload_n 0, 1), (46, .getfield 36, 3), (49, .invokevirtual 40, 3), (52, .return_, 1)]
def zr_127 : List (Nat × Instr × Nat) := [(0, .aload_n 0, 1), (1, .getfield 23, 3), (4, .astore_n 1, 1), (5, .aload_n 0, 1), (6, .aload_n 0, 1), (7, .getfield 27, 3), (10, .putfield 23, 3), (13, .aload_n 0, 1), (14, .aload_n 1, 1), (15, .putfield 27, 3), (18, .iconst 0, 1), (19, .istore_n 2, 1), (20, .iload_n 2, 1), (21, .bipush 10, 2), (23, .if_icmp .ge 24, 3), (26, .aload_n 0, 1), (27, .getfield 30, 3), (30, .iload_n 2, 1), (31, .aload_n 0, 1), (32, .getfield 23, 3), (35, .getfield 220, 3), (38, .iload_n 2, 1), (39, .iaload, 1), (40, .iastore, 1), (41, .iinc 2 1, 3), (44, .goto (-24), 3), (47, .aload_n 0, 1), (48, .iconst 0, 1), (49, .putfield 34, 3), (52, .aload_n 0, 1), (53, .iconst 0, 1), (54, .putfield 37, 3), (57, .aload_n 0, 1), (58, .getfield 69, 3), (61, .invokevirtual 223, 3), (64, .return_, 1)]
def zr_128 : List (Nat × Instr × Nat) := [(0, .aload_n 0, 1), (1, .aload_n 1, 1), (2, .putfield 9, 3), (5, .aload_n 0, 1), (6, .aload_n 2, 1), (7, .putfield 15, 3), (10, .aload_n 0, 1), (11, .aload_n 3, 1), (12, .putfield 19, 3), (15, .aload_n 0, 1), (16, .aload 4, 2), (18, .putfield 22, 3), (21, .aload_n 0, 1), (22, .iconst 0, 1), (23, .putfield 36, 3), (26, .return_, 1)]
def zr_129 : List (Nat × Instr × Nat) := [(0, .iload_n 1, 1), (1, .ifCond .lt 20, 3), (4, .iload_n 1, 1), (5, .aload_n 0, 1), (6, .getfield 21, 3), (9, .if_icmp .ge 12, 3), (12, .aload_n 0, 1), (13, .getfield 11, 3), (16, .iload_n 1, 1), (17, .aaload, 1), (18, .ifnonnull 7, 3), (21, .getstatic 25, 3), (24, .areturn, 1), (25, .aload_n 0, 1), (26, .getfield 11, 3), (29, .iload_n 1, 1), (30, .aaload, 1), (31, .areturn, 1)]
def zr_130 : List (Nat × Instr × Nat) := [(0, .iload_n 1, 1), (1, .ifCond .lt 11, 3), (4, .iload_n 1, 1), (5, .aload_n 0, 1), (6, .getfield 21, 3), (9, .if_icmp .lt 7, 3), (12, .iconst 0, 1), (13, .goto 9, 3), (16, .aload_n 0, 1), (17, .getfield 17, 3), (20, .iload_n 1, 1), (21, .iaload, 1), (22, .ireturn, 1)]
def zr_131 : List (Nat × Instr × Nat) := [(0, .aload_n 0, 1), (1, .getfield 29, 3), (4, .ifCond .le 12, 3), (7, .aload_n 0, 1), (8, .getfield 29, 3), (11, .bipush 64, 2), (13, .if_icmp .le 5, 3), (16, .iconst 0, 1), (17, .ireturn, 1), (18, .aload_n 0, 1), (19, .dup, 1), (20, .getfield 29, 3), (23, .iconst 1, 1), (24, .isub, 1), (25, .putfield 29, 3), (28, .aload_n 0, 1), (29, .getfield 26, 3), (32, .aload_n 0, 1), (33, .getfield 29, 3), (36, .iaload, 1), (37, .ireturn, 1)]
def zr_132 : List (Nat × Instr × Nat) := [(0, .aload_n 0, 1), (1, .getfield 7, 3), (4, .ifCond .lt 26, 3), (7, .aload_n 0, 1), (8, .getfield 7, 3), (11, .aload_n 0, 1), (12, .getfield 13, 3), (15, .arraylength, 1), (16, .if_icmp .ge 14, 3), (19, .aload_n 0, 1), (20, .getfield 13, 3), (23, .aload_n 0, 1), (24, .getfield 7, 3), (27, .iload_n 1, 1), (28, .i2b, 1), (29, .bastore, 1), (30, .aload_n 0, 1), (31, .dup, 1), (32, .getfield 7, 3), (35, .iconst 1, 1), (36, .iadd, 1), (37, .putfield 7, 3), (40, .return_, 1)]
def zr_133 : List (Nat × Instr × Nat) := [(0, .iconst 0, 1), (1, .istore_n 3, 1), (2, .iload_n 3, 1), (3, .iload_n 2, 1), (4, .if_icmp .ge 29, 3), (7, .aload_n 0, 1), (8, .getfield 22, 3), (11, .aload_n 0, 1), (12, .getfield 9, 3), (15, .getfield 80, 3), (18, .iload_n 1, 1), (19, .iload_n 3, 1), (20, .iadd, 1), (21, .invokevirtual 114, 3), (24, .invokevirtual 102, 3), (27, .iinc 3 1, 3), (30, .goto (-28), 3), (33, .return_, 1)]
def zr_134 : List (Nat × Instr × Nat) := [(0, .iload_n 1, 1), (1, .i2l, 1), (2, .lstore_n 2, 1), (3, .lload_n 2, 1), (4, .lconst 0, 1), (5, .lcmp, 1), (6, .ifCond .ge 12, 3), (9, .aload_n 0, 1), (10, .bipush 45, 2), (12, .invokevirtual 17, 3), (15, .lload_n 2, 1), (16, .lneg, 1), (17, .lstore_n 2, 1), (18, .iconst 0, 1), (19, .istore 4, 2), (21, .ldc2_w 21, 3), (24, .lstore 5, 2), (26, .lload 5, 2), (28, .lconst 0, 1), (29, .lcmp, 1), (30, .ifCond .le 62, 3), (33, .iload 4, 2), (35, .ifCond .ne 17, 3), (38, .lload_n 2, 1), (39, .lload 5, 2), (41, .lcmp, 1), (42, .ifCond .ge 10, 3), (45, .lload 5, 2), (47, .lconst 1, 1), (48, .lcmp, 1), (49, .ifCond .ne 7, 3), (52, .iconst 1, 1), (53, .goto 4, 3), (56, .iconst 0, 1), (57, .istore 4, 2), (59, .iload 4, 2), (61, .ifCond .eq 20, 3), (64, .aload_n 0, 1), (65, .ldc2_w 23, 3), (68, .lload_n 2, 1), (69, .lload 5, 2), (71, .ldiv, 1), (72, .ldc2_w 25, 3), (75, .lrem, 1), (76, .ladd, 1), (77, .l2i, 1), (78, .invokevirtual 17, 3), (81, .lload 5, 2), (83, .ldc2_w 25, 3), (86, .ldiv, 1), (87, .lstore 5, 2), (89, .goto (-63), 3), (92, .return_, 1)]
def zr_135 : List (Nat × Instr × Nat) := [(0, .aload_n 0, 1), (1, .getfield 36, 3), (4, .sipush 600, 3), (7, .if_icmp .ge 23, 3), (10, .aload_n 0, 1), (11, .getfield 33, 3), (14, .aload_n 0, 1), (15, .getfield 36, 3), (18, .iload_n 1, 1), (19, .iastore, 1), (20, .aload_n 0, 1), (21, .dup, 1), (22, .getfield 36, 3), (25, .iconst 1, 1), (26, .iadd, 1), (27, .putfield 36, 3), (30, .return_, 1)]
def zr_136 : List (Nat × Instr × Nat) := [(0, .iload_n 1, 1), (1, .ifCond .lt 12, 3), (4, .iload_n 1, 1), (5, .aload_n 0, 1), (6, .getfield 19, 3), (9, .arraylength, 1), (10, .if_icmp .lt 7, 3), (13, .iconst 0, 1), (14, .goto 9, 3), (17, .aload_n 0, 1), (18, .getfield 19, 3), (21, .iload_n 1, 1), (22, .iaload, 1), (23, .ireturn, 1)]
def zr_137 : List (Nat × Instr × Nat) := [(0, .aload_n 0, 1), (1, .getfield 29, 3), (4, .ifCond .lt 32, 3), (7, .aload_n 0, 1), (8, .getfield 29, 3), (11, .bipush 64, 2), (13, .if_icmp .ge 23, 3), (16, .aload_n 0, 1), (17, .getfield 26, 3), (20, .aload_n 0, 1), (21, .getfield 29, 3), (24, .iload_n 1, 1), (25, .iastore, 1), (26, .aload_n 0, 1), (27, .dup, 1), (28, .getfield 29, 3), (31, .iconst 1, 1), (32, .iadd, 1), (33, .putfield 29, 3), (36, .return_, 1)]
def zr_138 : List (Nat × Instr × Nat) := [(0, .getstatic 72, 3), (3, .aload_n 0, 1), (4, .invokevirtual 77, 3), (7, .iaload, 1), (8, .tableswitch 195 10 29 #[100, 195, 120, 126, 195, 195, 195, 195, 195, 195, 96, 104, 108, 132, 143, 154, 165, 176, 187, 191], 96), (104, .iload_n 1, 1), (105, .iload_n 2, 1), (106, .iadd, 1), (107, .ireturn, 1), (108, .iload_n 1, 1), (109, .iload_n 2, 1), (110, .isub, 1), (111, .ireturn, 1), (112, .iload_n 1, 1), (113, .iload_n 2, 1), (114, .imul, 1), (115, .ireturn, 1), (116, .iload_n 2, 1), (117, .ifCond .ne 7, 3), (120, .iconst 0, 1), (121, .goto 6, 3), (124, .iload_n 1, 1), (125, .iload_n 2, 1), (126, .idiv, 1), (127, .ireturn, 1), (128, .iload_n 1, 1), (129, .iload_n 2, 1), (130, .invokestatic 140, 3), (133, .ireturn, 1), (134, .iload_n 1, 1), (135, .iload_n 2, 1), (136, .invokestatic 146, 3), (139, .ireturn, 1), (140, .iload_n 1, 1), (141, .iload_n 2, 1), (142, .if_icmp .ge 7, 3), (145, .iconst 1, 1), (146, .goto 4, 3), (149, .iconst 0, 1), (150, .ireturn, 1), (151, .iload_n 1, 1), (152, .iload_n 2, 1), (153, .if_icmp .le 7, 3), (156, .iconst 1, 1), (157, .goto 4, 3), (160, .iconst 0, 1), (161, .ireturn, 1), (162, .iload_n 1, 1), (163, .iload_n 2, 1), (164, .if_icmp .ne 7, 3), (167, .iconst 1, 1), (168, .goto 4, 3), (171, .iconst 0, 1), (172, .ireturn, 1), (173, .iload_n 1, 1), (174, .iload_n 2, 1), (175, .if_icmp .gt 7, 3), (178, .iconst 1, 1), (179, .goto 4, 3), (182, .iconst 0, 1), (183, .ireturn, 1), (184, .iload_n 1, 1), (185, .iload_n 2, 1), (186, .if_icmp .lt 7, 3), (189, .iconst 1, 1), (190, .goto 4, 3), (193, .iconst 0, 1), (194, .ireturn, 1), (195, .iload_n 1, 1), (196, .iload_n 2, 1), (197, .iand, 1), (198, .ireturn, 1), (199, .iload_n 1, 1), (200, .iload_n 2, 1), (201, .ior, 1), (202, .ireturn, 1), (203, .iconst 0, 1), (204, .ireturn, 1)]
def zr_139 : List (Nat × Instr × Nat) := [(0, .aload_n 1, 1), (1, .getstatic 121, 3), (4, .if_acmp .ne 21, 3), (7, .aload_n 0, 1), (8, .aload_n 0, 1), (9, .getfield 9, 3), (12, .getfield 80, 3), (15, .iload_n 2, 1), (16, .invokevirtual 108, 3), (19, .invokevirtual 124, 3), (22, .goto 119, 3), (25, .aload_n 1, 1), (26, .getstatic 127, 3), (29, .if_acmp .ne 45, 3), (32, .aload_n 0, 1), (33, .getfield 9, 3), (36, .getfield 80, 3), (39, .iload_n 2, 1), (40, .invokevirtual 108, 3), (43, .istore_n 3, 1), (44, .aload_n 0, 1), (45, .iload_n 3, 1), (46, .ifCond .lt 12, 3), (49, .iload_n 3, 1), (50, .aload_n 0, 1), (51, .getfield 15, 3), (54, .arraylength, 1), (55, .if_icmp .lt 7, 3), (58, .iconst 0, 1), (59, .goto 9, 3), (62, .aload_n 0, 1), (63, .getfield 15, 3), (66, .iload_n 3, 1), (67, .iaload, 1), (68, .invokevirtual 124, 3), (71, .goto 70, 3), (74, .aload_n 1, 1), (75, .getstatic 130, 3), (78, .if_acmp .ne 15, 3), (81, .aload_n 0, 1), (82, .aload_n 0, 1), (83, .invokevirtual 64, 3), (86, .ineg, 1), (87, .invokevirtual 124, 3), (90, .goto 51, 3), (93, .aload_n 1, 1), (94, .getstatic 133, 3), (97, .if_acmp .ne 22, 3), (100, .aload_n 0, 1), (101, .aload_n 0, 1), (102, .invokevirtual 64, 3), (105, .ifCond .ne 7, 3), (108, .iconst 1, 1), (109, .goto 4, 3), (112, .iconst 0, 1), (113, .invokevirtual 124, 3), (116, .goto 25, 3), (119, .aload_n 0, 1), (120, .invokevirtual 64, 3), (123, .istore_n 3, 1), (124, .aload_n 0, 1), (125, .invokevirtual 64, 3), (128, .istore 4, 2), (130, .aload_n 0, 1), (131, .aload_n 1, 1), (132, .iload 4, 2), (134, .iload_n 3, 1), (135, .invokestatic 136, 3), (138, .invokevirtual 124, 3), (141, .return_, 1)]
def zr_140 : List (Nat × Instr × Nat) := [(0, .getstatic 72, 3), (3, .aload_n 1, 1), (4, .invokevirtual 77, 3), (7, .iaload, 1), (8, .tableswitch 364 1 19 #[95, 189, 240, 292, 128, 92, 364, 364, 364, 364, 364, 364, 364, 364, 364, 364, 364, 364, 142], 92), (100, .goto 278, 3), (103, .aload_n 0, 1), (104, .aload_n 0, 1), (105, .getfield 9, 3), (108, .getfield 80, 3), (111, .iload_n 2, 1), (112, .invokevirtual 84, 3), (115, .iconst 1, 1), (116, .iadd, 1), (117, .aload_n 0, 1), (118, .getfield 9, 3), (121, .getfield 80, 3), (124, .iload_n 2, 1), (125, .invokevirtual 89, 3), (128, .iconst 2, 1), (129, .isub, 1), (130, .invokevirtual 92, 3), (133, .goto 245, 3), (136, .aload_n 0, 1), (137, .getfield 22, 3), (140, .aload_n 0, 1), (141, .invokevirtual 64, 3), (144, .invokevirtual 96, 3), (147, .goto 231, 3), (150, .aload_n 0, 1), (151, .getfield 22, 3), (154, .bipush 32, 2), (156, .invokevirtual 102, 3), (159, .aload_n 0, 1), (160, .getfield 22, 3), (163, .bipush 40, 2), (165, .invokevirtual 102, 3), (168, .aload_n 0, 1), (169, .getfield 22, 3), (172, .iload_n 2, 1), (173, .invokevirtual 96, 3), (176, .aload_n 0, 1), (177, .getfield 22, 3), (180, .bipush 41, 2), (182, .invokevirtual 102, 3), (185, .aload_n 0, 1), (186, .getfield 22, 3), (189, .bipush 32, 2), (191, .invokevirtual 102, 3), (194, .goto 184, 3), (197, .aload_n 0, 1), (198, .iload_n 3, 1), (199, .invokevirtual 105, 3), (202, .aload_n 0, 1), (203, .aload_n 0, 1), (204, .getfield 9, 3), (207, .getfield 80, 3), (210, .iload_n 2, 1), (211, .invokevirtual 108, 3), (214, .invokevirtual 111, 3), (217, .istore 4, 2), (219, .iload 4, 2), (221, .ifCond .le 15, 3), (224, .aload_n 0, 1), (225, .getfield 22, 3), (228, .iload 4, 2), (230, .invokevirtual 96, 3), (233, .goto 145, 3), (236, .aload_n 0, 1), (237, .getfield 22, 3), (240, .bipush 63, 2), (242, .invokevirtual 102, 3), (245, .goto 133, 3), (248, .aload_n 0, 1), (249, .iload_n 3, 1), (250, .invokevirtual 105, 3), (253, .aload_n 0, 1), (254, .getfield 22, 3), (257, .bipush 34, 2), (259, .invokevirtual 102, 3), (262, .aload_n 0, 1), (263, .aload_n 0, 1), (264, .getfield 9, 3), (267, .getfield 80, 3), (270, .iload_n 2, 1), (271, .invokevirtual 84, 3), (274, .aload_n 0, 1), (275, .getfield 9, 3), (278, .getfield 80, 3), (281, .iload_n 2, 1), (282, .invokevirtual 89, 3), (285, .invokevirtual 92, 3), (288, .aload_n 0, 1), (289, .getfield 22, 3), (292, .bipush 34, 2), (294, .invokevirtual 102, 3), (297, .goto 81, 3), (300, .aload_n 0, 1), (301, .iload_n 3, 1), (302, .invokevirtual 105, 3), (305, .aload_n 0, 1), (306, .getfield 22, 3), (309, .aload_n 0, 1), (310, .getfield 9, 3), (313, .getfield 80, 3), (316, .aload_n 0, 1), (317, .getfield 9, 3), (320, .getfield 80, 3), (323, .iload_n 2, 1), (324, .invokevirtual 84, 3), (327, .invokevirtual 114, 3), (330, .bipush 97, 2), (332, .isub, 1), (333, .bipush 65, 2), (335, .iadd, 1), (336, .invokevirtual 102, 3), (339, .aload_n 0, 1), (340, .aload_n 0, 1), (341, .getfield 9, 3), (344, .getfield 80, 3), (347, .iload_n 2, 1), (348, .invokevirtual 84, 3), (351, .iconst 1, 1), (352, .iadd, 1), (353, .aload_n 0, 1), (354, .getfield 9, 3), (357, .getfield 80, 3), (360, .iload_n 2, 1), (361, .invokevirtual 89, 3), (364, .iconst 1, 1), (365, .isub, 1), (366, .invokevirtual 92, 3), (369, .goto 9, 3), (372, .aload_n 0, 1), (373, .aload_n 1, 1), (374, .iload_n 2, 1), (375, .invokevirtual 117, 3), (378, .return_, 1)]
def zr_141 : List (Nat × Instr × Nat) := [(0, .aload_n 0, 1), (1, .getfield 9, 3), (4, .ifnull 24, 3), (7, .aload_n 0, 1), (8, .getfield 15, 3), (11, .ifnull 17, 3), (14, .aload_n 0, 1), (15, .getfield 19, 3), (18, .ifnull 10, 3), (21, .aload_n 0, 1), (22, .getfield 22, 3), (25, .ifnonnull 4, 3), (28, .return_, 1), (29, .aload_n 0, 1), (30, .iconst 0, 1), (31, .putfield 29, 3), (34, .iload_n 1, 1), (35, .istore_n 3, 1), (36, .iconst 0, 1), (37, .istore 4, 2), (39, .iload 4, 2), (41, .sipush 600, 3), (44, .if_icmp .ge 98, 3), (47, .iload_n 3, 1), (48, .iload_n 2, 1), (49, .if_icmp .ge 93, 3), (52, .aload_n 0, 1), (53, .getfield 9, 3), (56, .getfield 39, 3), (59, .iload_n 3, 1), (60, .invokevirtual 45, 3), (63, .astore 5, 2), (65, .aload_n 0, 1), (66, .getfield 9, 3), (69, .getfield 39, 3), (72, .iload_n 3, 1), (73, .invokevirtual 51, 3), (76, .istore 6, 2), (78, .aload 5, 2), (80, .getstatic 55, 3), (83, .if_acmp .eq 18, 3), (86, .aload 5, 2), (88, .getstatic 61, 3), (91, .if_acmp .ne 14, 3), (94, .aload_n 0, 1), (95, .invokevirtual 64, 3), (98, .ifCond .ne 7, 3), (101, .iconst 1, 1), (102, .goto 4, 3), (105, .iconst 0, 1), (106, .istore 7, 2), (108, .iload 7, 2), (110, .ifCond .ne 12, 3), (113, .aload_n 0, 1), (114, .aload 5, 2), (116, .iload 6, 2), (118, .iload_n 3, 1), (119, .invokevirtual 68, 3), (122, .iload 7, 2), (124, .ifCond .eq 8, 3), (127, .iload 6, 2), (129, .goto 6, 3), (132, .iload_n 3, 1), (133, .iconst 1, 1), (134, .iadd, 1), (135, .istore_n 3, 1), (136, .iinc 4 1, 3), (139, .goto (-100), 3), (142, .return_, 1)]
def zr_142 : List (Nat × Instr × Nat) := [(0, .aload_n 0, 1), (1, .invokevirtual 64, 3), (4, .ifCond .eq 7, 3), (7, .iconst 1, 1), (8, .goto 4, 3), (11, .iconst 0, 1), (12, .ireturn, 1)]
def zr_143 : List (Nat × Instr × Nat) := [(0, .iconst 1, 1), (1, .iload_n 1, 1), (2, .ishl, 1), (3, .istore_n 3, 1), (4, .iload_n 2, 1), (5, .ifCond .eq 9, 3), (8, .iload_n 0, 1), (9, .iload_n 3, 1), (10, .ior, 1), (11, .goto 8, 3), (14, .iload_n 0, 1), (15, .iload_n 3, 1), (16, .iconst (-1), 1), (17, .ixor, 1), (18, .iand, 1), (19, .ireturn, 1)]
def zr_144 : List (Nat × Instr × Nat) := [(0, .iload_n 0, 1), (1, .iload_n 1, 1), (2, .ishr, 1), (3, .iconst 1, 1), (4, .iand, 1), (5, .ifCond .eq 7, 3), (8, .iconst 1, 1), (9, .goto 4, 3), (12, .iconst 0, 1), (13, .ireturn, 1)]
def zr_145 : List (Nat × Instr × Nat) := [(0, .iload_n 1, 1), (1, .istore_n 3, 1), (2, .iconst 0, 1), (3, .istore 4, 2), (5, .iload 4, 2), (7, .bipush 16, 2), (9, .if_icmp .ge 53, 3), (12, .iconst 0, 1), (13, .istore 5, 2), (15, .iload 5, 2), (17, .aload_n 0, 1), (18, .getfield 47, 3), (21, .if_icmp .ge 35, 3), (24, .iload_n 3, 1), (25, .iload 5, 2), (27, .invokestatic 72, 3), (30, .ifCond .eq 20, 3), (33, .iload_n 3, 1), (34, .aload_n 0, 1), (35, .getfield 32, 3), (38, .iload 5, 2), (40, .aaload, 1), (41, .getfield 76, 3), (44, .iload_n 2, 1), (45, .iconst (-1), 1), (46, .ixor, 1), (47, .iand, 1), (48, .ior, 1), (49, .istore_n 3, 1), (50, .iinc 5 1, 3), (53, .goto (-38), 3), (56, .iinc 4 1, 3), (59, .goto (-54), 3), (62, .iload_n 3, 1), (63, .ireturn, 1)]
def zr_146 : List (Nat × Instr × Nat) := [(0, .iconst 0, 1), (1, .istore_n 2, 1), (2, .bipush 15, 2), (4, .istore_n 3, 1), (5, .iload_n 3, 1), (6, .ifCond .lt 19, 3), (9, .iload_n 1, 1), (10, .iload_n 3, 1), (11, .invokestatic 56, 3), (14, .ifCond .eq 5, 3), (17, .iload_n 3, 1), (18, .istore_n 2, 1), (19, .iinc 3 (-1), 3), (22, .goto (-17), 3), (25, .iload_n 2, 1), (26, .istore_n 3, 1), (27, .iload_n 3, 1), (28, .bipush 16, 2), (30, .if_icmp .ge 33, 3), (33, .iload_n 1, 1), (34, .iload_n 3, 1), (35, .invokestatic 56, 3), (38, .ifCond .eq 19, 3), (41, .aload_n 0, 1), (42, .getfield 60, 3), (45, .iload_n 3, 1), (46, .aaload, 1), (47, .getfield 66, 3), (50, .iload_n 1, 1), (51, .iand, 1), (52, .ifCond .ne 5, 3), (55, .iload_n 3, 1), (56, .ireturn, 1), (57, .iinc 3 1, 3), (60, .goto (-33), 3), (63, .iload_n 2, 1), (64, .ireturn, 1)]
def zr_147 : List (Nat × Instr × Nat) := [(0, .aload_n 0, 1), (1, .invokevirtual 47, 3), (4, .aload_n 0, 1), (5, .iload_n 2, 1), (6, .putfield 9, 3), (9, .iload_n 2, 1), (10, .istore_n 3, 1), (11, .iconst 0, 1), (12, .istore 4, 2), (14, .iload 4, 2), (16, .bipush 16, 2), (18, .if_icmp .ge 56, 3), (21, .iload_n 3, 1), (22, .ifCond .eq 52, 3), (25, .aload_n 1, 1), (26, .iload_n 3, 1), (27, .invokestatic 48, 3), (30, .istore 5, 2), (32, .aload_n 0, 1), (33, .getfield 18, 3), (36, .iload 4, 2), (38, .iload 5, 2), (40, .iastore, 1), (41, .aload_n 0, 1), (42, .iload 4, 2), (44, .iconst 1, 1), (45, .iadd, 1), (46, .putfield 15, 3), (49, .aload_n 0, 1), (50, .getfield 22, 3), (53, .iload 5, 2), (55, .aload_n 0, 1), (56, .getfield 15, 3), (59, .iastore, 1), (60, .iload_n 3, 1), (61, .iload 5, 2), (63, .iconst 0, 1), (64, .invokestatic 52, 3), (67, .istore_n 3, 1), (68, .iinc 4 1, 3), (71, .goto (-57), 3), (74, .return_, 1)]
def zr_148 : List (Nat × Instr × Nat) := [(0, .aload_n 0, 1), (1, .getfield 21, 3), (4, .aload_n 1, 1), (5, .aload_n 2, 1), (6, .aload_n 0, 1), (7, .getfield 53, 3), (10, .getfield 86, 3), (13, .aload_n 0, 1), (14, .getfield 53, 3), (17, .getfield 57, 3), (20, .invokevirtual 89, 3), (23, .aload_n 0, 1), (24, .iconst 0, 1), (25, .putfield 25, 3), (28, .iconst 0, 1), (29, .istore 5, 2), (31, .iload 5, 2), (33, .aload_n 1, 1), (34, .getfield 93, 3), (37, .if_icmp .ge 76, 3), (40, .aload_n 1, 1), (41, .getfield 98, 3), (44, .iload 5, 2), (46, .aaload, 1), (47, .astore 6, 2), (49, .aload_n 0, 1), (50, .getfield 21, 3), (53, .aload 6, 2), (55, .getfield 102, 3), (58, .aload 6, 2), (60, .getfield 107, 3), (63, .invokevirtual 110, 3), (66, .aload_n 0, 1), (67, .aload_n 0, 1), (68, .getfield 25, 3), (71, .iload 5, 2), (73, .aload 6, 2), (75, .getfield 102, 3), (78, .aload 6, 2), (80, .getfield 107, 3), (83, .if_icmp .eq 13, 3), (86, .aload_n 0, 1), (87, .getfield 21, 3), (90, .invokevirtual 114, 3), (93, .ifCond .eq 7, 3), (96, .iconst 1, 1), (97, .goto 4, 3), (100, .iconst 0, 1), (101, .invokestatic 118, 3), (104, .putfield 25, 3), (107, .iinc 5 1, 3), (110, .goto (-79), 3), (113, .aload_n 0, 1), (114, .iload_n 3, 1), (115, .aload_n 0, 1), (116, .getfield 25, 3), (119, .iload 4, 2), (121, .iconst (-1), 1), (122, .ixor, 1), (123, .iand, 1), (124, .aload_n 1, 1), (125, .getfield 122, 3), (128, .iconst (-1), 1), (129, .ixor, 1), (130, .iand, 1), (131, .ior, 1), (132, .putfield 29, 3), (135, .aload_n 0, 1), (136, .getfield 53, 3), (139, .aload_n 1, 1), (140, .aload_n 1, 1), (141, .aload_n 0, 1), (142, .getfield 29, 3), (145, .iload 4, 2), (147, .invokevirtual 125, 3), (150, .invokevirtual 128, 3), (153, .return_, 1)]
def zr_149 : List (Nat × Instr × Nat) := [(0, .aload_n 0, 1), (1, .getfield 53, 3), (4, .getfield 57, 3), (7, .astore_n 2, 1), (8, .iconst 0, 1), (9, .istore_n 3, 1), (10, .iload_n 3, 1), (11, .aload_n 0, 1), (12, .getfield 53, 3), (15, .getfield 132, 3), (18, .if_icmp .ge 113, 3), (21, .aload_n 0, 1), (22, .getfield 53, 3), (25, .getfield 135, 3), (28, .iload_n 3, 1), (29, .iaload, 1), (30, .istore 4, 2), (32, .aload_n 2, 1), (33, .iload_n 3, 1), (34, .iconst 1, 1), (35, .iadd, 1), (36, .invokevirtual 138, 3), (39, .aload_n 2, 1), (40, .bipush 46, 2), (42, .invokevirtual 141, 3), (45, .aload_n 2, 1), (46, .bipush 32, 2), (48, .invokevirtual 141, 3), (51, .aload_n 0, 1), (52, .getfield 53, 3), (55, .getfield 144, 3), (58, .iload 4, 2), (60, .aload_n 2, 1), (61, .getfield 61, 3), (64, .iastore, 1), (65, .aload_n 0, 1), (66, .getfield 21, 3), (69, .aload_n 1, 1), (70, .getfield 98, 3), (73, .iload 4, 2), (75, .aaload, 1), (76, .getfield 147, 3), (79, .aload_n 1, 1), (80, .getfield 98, 3), (83, .iload 4, 2), (85, .aaload, 1), (86, .getfield 149, 3), (89, .invokevirtual 110, 3), (92, .aload_n 0, 1), (93, .getfield 53, 3), (96, .getfield 152, 3), (99, .iload 4, 2), (101, .aload_n 2, 1), (102, .getfield 61, 3), (105, .iastore, 1), (106, .aload_n 2, 1), (107, .bipush 10, 2), (109, .invokevirtual 141, 3), (112, .aload_n 0, 1), (113, .getfield 32, 3), (116, .iload_n 3, 1), (117, .aload_n 0, 1), (118, .getfield 21, 3), (121, .getfield 154, 3), (124, .iastore, 1), (125, .iinc 3 1, 3), (128, .goto (-118), 3), (131, .return_, 1)]
def zr_150 : List (Nat × Instr × Nat) := [(0, .iconst 0, 1), (1, .aload_n 0, 1), (2, .getfield 187, 3), (5, .aload_n 0, 1), (6, .getfield 164, 3), (9, .iload_n 1, 1), (10, .invokevirtual 191, 3), (13, .invokevirtual 195, 3), (16, .invokestatic 200, 3), (19, .ireturn, 1)]
def zr_151 : List (Nat × Instr × Nat) := [(0, .aload_n 1, 1), (1, .getfield 164, 3), (4, .iload_n 2, 1), (5, .invokevirtual 168, 3), (8, .astore 4, 2), (10, .aload_n 1, 1), (11, .iload_n 2, 1), (12, .invokestatic 174, 3), (15, .istore 5, 2), (17, .aload 4, 2), (19, .getstatic 178, 3), (22, .if_acmp .eq 10, 3), (25, .iload 5, 2), (27, .bipush 24, 2), (29, .if_icmp .lt 4, 3), (32, .return_, 1), (33, .aload 4, 2), (35, .getstatic 184, 3), (38, .if_acmp .ne 15, 3), (41, .aload_n 0, 1), (42, .getfield 39, 3), (45, .iload 5, 2), (47, .dup2, 1), (48, .iaload, 1), (49, .iconst 1, 1), (50, .iadd, 1), (51, .iastore, 1), (52, .return_, 1), (53, .aload_n 0, 1), (54, .getfield 36, 3), (57, .iload 5, 2), (59, .dup2, 1), (60, .iaload, 1), (61, .iconst 1, 1), (62, .iadd, 1), (63, .iastore, 1), (64, .aload_n 0, 1), (65, .getfield 42, 3), (68, .iload 5, 2), (70, .iaload, 1), (71, .ifCond .ge 11, 3), (74, .aload_n 0, 1), (75, .getfield 42, 3), (78, .iload 5, 2), (80, .iload_n 3, 1), (81, .iastore, 1), (82, .return_, 1)]
def zr_152 : List (Nat × Instr × Nat) := [(0, .iconst 0, 1), (1, .istore_n 2, 1), (2, .iload_n 2, 1), (3, .bipush 24, 2), (5, .if_icmp .ge 37, 3), (8, .aload_n 0, 1), (9, .getfield 36, 3), (12, .iload_n 2, 1), (13, .iconst 0, 1), (14, .iastore, 1), (15, .aload_n 0, 1), (16, .getfield 39, 3), (19, .iload_n 2, 1), (20, .iconst 0, 1), (21, .iastore, 1), (22, .aload_n 0, 1), (23, .getfield 42, 3), (26, .iload_n 2, 1), (27, .iconst (-1), 1), (28, .iastore, 1), (29, .aload_n 0, 1), (30, .getfield 45, 3), (33, .iload_n 2, 1), (34, .iconst 0, 1), (35, .iastore, 1), (36, .iinc 2 1, 3), (39, .goto (-37), 3), (42, .iconst 0, 1), (43, .istore_n 2, 1), (44, .iconst 0, 1), (45, .istore_n 3, 1), (46, .iload_n 3, 1), (47, .aload_n 0, 1), (48, .getfield 53, 3), (51, .getfield 132, 3), (54, .if_icmp .ge 48, 3), (57, .iload_n 2, 1), (58, .aload_n 0, 1), (59, .getfield 32, 3), (62, .iload_n 3, 1), (63, .iaload, 1), (64, .if_icmp .ge 32, 3), (67, .aload_n 0, 1), (68, .aload_n 1, 1), (69, .aload_n 0, 1), (70, .getfield 21, 3), (73, .getfield 157, 3), (76, .iload_n 2, 1), (77, .iaload, 1), (78, .aload_n 0, 1), (79, .getfield 53, 3), (82, .getfield 135, 3), (85, .iload_n 3, 1), (86, .iaload, 1), (87, .invokevirtual 160, 3), (90, .iinc 2 1, 3), (93, .goto (-36), 3), (96, .iinc 3 1, 3), (99, .goto (-53), 3), (102, .return_, 1)]
def zr_153 : List (Nat × Instr × Nat) := [(0, .aload_n 0, 1), (1, .iconst 0, 1), (2, .putfield 21, 3), (5, .return_, 1)]
def zr_154 : List (Nat × Instr × Nat) := [(0, .iload_n 1, 1), (1, .ifCond .lt 9, 3), (4, .iload_n 1, 1), (5, .bipush 16, 2), (7, .if_icmp .lt 7, 3), (10, .iconst 0, 1), (11, .goto 12, 3), (14, .aload_n 0, 1), (15, .getfield 53, 3), (18, .getfield 86, 3), (21, .iload_n 1, 1), (22, .iaload, 1), (23, .ireturn, 1)]
def zr_155 : List (Nat × Instr × Nat) := [(0, .iload_n 0, 1), (1, .iconst 1, 1), (2, .if_icmp .ne 13, 3), (5, .iload_n 2, 1), (6, .ifCond .le 7, 3), (9, .iconst 1, 1), (10, .goto 4, 3), (13, .iconst 0, 1), (14, .ireturn, 1), (15, .iload_n 0, 1), (16, .iconst 2, 1), (17, .if_icmp .ne 15, 3), (20, .iload_n 2, 1), (21, .ifCond .ne 7, 3), (24, .iconst 1, 1), (25, .goto 17, 3), (28, .iconst 0, 1), (29, .goto 13, 3), (32, .iload_n 2, 1), (33, .iload_n 1, 1), (34, .if_icmp .le 7, 3), (37, .iconst 1, 1), (38, .goto 4, 3), (41, .iconst 0, 1), (42, .ireturn, 1)]
def zr_156 : List (Nat × Instr × Nat) := [(0, .aload_n 0, 1), (1, .getfield 21, 3), (4, .bipush 60, 2), (6, .if_icmp .ge 43, 3), (9, .aload_n 0, 1), (10, .getfield 9, 3), (13, .aload_n 0, 1), (14, .getfield 21, 3), (17, .iload_n 1, 1), (18, .iastore, 1), (19, .aload_n 0, 1), (20, .getfield 15, 3), (23, .aload_n 0, 1), (24, .getfield 21, 3), (27, .iload_n 2, 1), (28, .iastore, 1), (29, .aload_n 0, 1), (30, .getfield 18, 3), (33, .aload_n 0, 1), (34, .getfield 21, 3), (37, .iload_n 3, 1), (38, .iastore, 1), (39, .aload_n 0, 1), (40, .dup, 1), (41, .getfield 21, 3), (44, .iconst 1, 1), (45, .iadd, 1), (46, .putfield 21, 3), (49, .return_, 1)]
def zr_157 : List (Nat × Instr × Nat) := [(0, .aload_n 1, 1), (1, .getfield 98, 3), (4, .iload_n 2, 1), (5, .aaload, 1), (6, .getfield 229, 3), (9, .istore 5, 2), (11, .aload_n 1, 1), (12, .getfield 98, 3), (15, .iload_n 2, 1), (16, .aaload, 1), (17, .getfield 232, 3), (20, .istore 6, 2), (22, .iload 6, 2), (24, .iload 5, 2), (26, .if_icmp .ge 65, 3), (29, .aload_n 1, 1), (30, .getfield 187, 3), (33, .iload 6, 2), (35, .invokevirtual 235, 3), (38, .aload 4, 2), (40, .if_acmp .ne 45, 3), (43, .aload_n 1, 1), (44, .getfield 187, 3), (47, .iload 6, 2), (49, .iconst 1, 1), (50, .iadd, 1), (51, .invokevirtual 195, 3), (54, .istore 7, 2), (56, .iload_n 3, 1), (57, .aload_n 0, 1), (58, .iload_n 2, 1), (59, .invokevirtual 236, 3), (62, .aload_n 0, 1), (63, .iload 7, 2), (65, .invokevirtual 236, 3), (68, .invokestatic 239, 3), (71, .ifCond .eq 14, 3), (74, .aload_n 0, 1), (75, .getfield 12, 3), (78, .iload_n 3, 1), (79, .iload_n 2, 1), (80, .iload 7, 2), (82, .invokevirtual 225, 3), (85, .iinc 6 1, 3), (88, .goto (-66), 3), (91, .return_, 1)]
def zr_158 : List (Nat × Instr × Nat) := [(0, .aload_n 1, 1), (1, .getstatic 247, 3), (4, .if_acmp .ne 35, 3), (7, .aload_n 0, 1), (8, .getfield 45, 3), (11, .iload_n 2, 1), (12, .iaload, 1), (13, .ifCond .le 13, 3), (16, .aload_n 0, 1), (17, .getfield 12, 3), (20, .iconst 5, 1), (21, .iload_n 3, 1), (22, .iload_n 2, 1), (23, .invokevirtual 225, 3), (26, .aload_n 0, 1), (27, .getfield 45, 3), (30, .iload_n 2, 1), (31, .dup2, 1), (32, .iaload, 1), (33, .iconst 1, 1), (34, .iadd, 1), (35, .iastore, 1), (36, .goto 46, 3), (39, .aload_n 0, 1), (40, .getfield 36, 3), (43, .iload_n 2, 1), (44, .iaload, 1), (45, .ifCond .ne 17, 3), (48, .aload_n 0, 1), (49, .getfield 12, 3), (52, .bipush 6, 2), (54, .iload_n 3, 1), (55, .iload_n 2, 1), (56, .invokevirtual 225, 3), (59, .goto 23, 3), (62, .aload_n 0, 1), (63, .getfield 45, 3), (66, .iload_n 2, 1), (67, .iaload, 1), (68, .ifCond .ne 14, 3), (71, .aload_n 0, 1), (72, .getfield 12, 3), (75, .bipush 7, 2), (77, .iload_n 3, 1), (78, .iload_n 2, 1), (79, .invokevirtual 225, 3), (82, .return_, 1)]
def zr_159 : List (Nat × Instr × Nat) := [(0, .aload_n 1, 1), (1, .getfield 164, 3), (4, .iload_n 2, 1), (5, .invokevirtual 168, 3), (8, .astore 4, 2), (10, .aload_n 1, 1), (11, .iload_n 2, 1), (12, .invokestatic 174, 3), (15, .istore 5, 2), (17, .aload 4, 2), (19, .getstatic 178, 3), (22, .if_acmp .ne 26, 3), (25, .aload_n 0, 1), (26, .iload 5, 2), (28, .invokevirtual 236, 3), (31, .ifCond .ne 33, 3), (34, .aload_n 0, 1), (35, .getfield 12, 3), (38, .iconst 4, 1), (39, .iload_n 3, 1), (40, .iload 5, 2), (42, .invokevirtual 225, 3), (45, .goto 19, 3), (48, .iload 5, 2), (50, .bipush 24, 2), (52, .if_icmp .ge 12, 3), (55, .aload_n 0, 1), (56, .aload 4, 2), (58, .iload 5, 2), (60, .iload_n 3, 1), (61, .invokevirtual 243, 3), (64, .return_, 1)]
def zr_160 : List (Nat × Instr × Nat) := [(0, .aload_n 0, 1), (1, .getfield 12, 3), (4, .invokevirtual 203, 3), (7, .iconst 0, 1), (8, .istore_n 2, 1), (9, .iconst 0, 1), (10, .istore_n 3, 1), (11, .iload_n 3, 1), (12, .aload_n 0, 1), (13, .getfield 53, 3), (16, .getfield 132, 3), (19, .if_icmp .ge 85, 3), (22, .aload_n 0, 1), (23, .getfield 53, 3), (26, .getfield 135, 3), (29, .iload_n 3, 1), (30, .iaload, 1), (31, .istore 4, 2), (33, .aload_n 0, 1), (34, .aload_n 1, 1), (35, .iload 4, 2), (37, .iconst 1, 1), (38, .getstatic 206, 3), (41, .invokevirtual 209, 3), (44, .aload_n 0, 1), (45, .aload_n 1, 1), (46, .iload 4, 2), (48, .iconst 2, 1), (49, .getstatic 213, 3), (52, .invokevirtual 209, 3), (55, .aload_n 0, 1), (56, .aload_n 1, 1), (57, .iload 4, 2), (59, .iconst 3, 1), (60, .getstatic 216, 3), (63, .invokevirtual 209, 3), (66, .iload_n 2, 1), (67, .aload_n 0, 1), (68, .getfield 32, 3), (71, .iload_n 3, 1), (72, .iaload, 1), (73, .if_icmp .ge 25, 3), (76, .aload_n 0, 1), (77, .aload_n 1, 1), (78, .aload_n 0, 1), (79, .getfield 21, 3), (82, .getfield 157, 3), (85, .iload_n 2, 1), (86, .iaload, 1), (87, .iload 4, 2), (89, .invokevirtual 219, 3), (92, .iinc 2 1, 3), (95, .goto (-29), 3), (98, .iinc 3 1, 3), (101, .goto (-90), 3), (104, .iconst 0, 1), (105, .istore_n 3, 1), (106, .iload_n 3, 1), (107, .aload_n 1, 1), (108, .getfield 222, 3), (111, .if_icmp .ge 43, 3), (114, .aload_n 0, 1), (115, .getfield 36, 3), (118, .iload_n 3, 1), (119, .iaload, 1), (120, .ifCond .le 28, 3), (123, .aload_n 0, 1), (124, .getfield 39, 3), (127, .iload_n 3, 1), (128, .iaload, 1), (129, .ifCond .ne 19, 3), (132, .aload_n 0, 1), (133, .getfield 12, 3), (136, .bipush 8, 2), (138, .aload_n 0, 1), (139, .getfield 42, 3), (142, .iload_n 3, 1), (143, .iaload, 1), (144, .iload_n 3, 1), (145, .invokevirtual 225, 3), (148, .iinc 3 1, 3), (151, .goto (-45), 3), (154, .return_, 1)]
def zr_161 : List (Nat × Instr × Nat) := [(0, .aload_n 0, 1), (1, .aload_n 1, 1), (2, .aload_n 2, 1), (3, .iload_n 3, 1), (4, .iload 4, 2), (6, .invokevirtual 72, 3), (9, .aload_n 0, 1), (10, .aload_n 1, 1), (11, .invokevirtual 76, 3), (14, .aload_n 0, 1), (15, .aload_n 1, 1), (16, .invokevirtual 80, 3), (19, .aload_n 0, 1), (20, .aload_n 1, 1), (21, .invokevirtual 83, 3), (24, .return_, 1)]
def zr_162 : List (Nat × Instr × Nat) := [(0, .aload_n 0, 1), (1, .getfield 27, 3), (4, .aload_n 0, 1), (5, .getfield 9, 3), (8, .aload_n 0, 1), (9, .getfield 13, 3), (12, .invokevirtual 85, 3), (15, .aload_n 0, 1), (16, .iconst 0, 1), (17, .putfield 13, 3), (20, .aload_n 0, 1), (21, .getfield 27, 3), (24, .getfield 89, 3), (27, .invokevirtual 93, 3), (30, .ifCond .eq 13, 3), (33, .aload_n 0, 1), (34, .getfield 27, 3), (37, .invokevirtual 99, 3), (40, .goto 4, 3), (43, .iconst 1, 1), (44, .istore_n 1, 1), (45, .aload_n 0, 1), (46, .aload_n 0, 1), (47, .getfield 27, 3), (50, .iload_n 1, 1), (51, .invokevirtual 103, 3), (54, .putfield 17, 3), (57, .iload_n 1, 1), (58, .ifCond .ne 30, 3), (61, .aload_n 0, 1), (62, .invokevirtual 107, 3), (65, .aload_n 0, 1), (66, .getfield 45, 3), (69, .aload_n 0, 1), (70, .getfield 23, 3), (73, .aload_n 0, 1), (74, .getfield 30, 3), (77, .aload_n 0, 1), (78, .getfield 34, 3), (81, .aload_n 0, 1), (82, .getfield 37, 3), (85, .invokevirtual 110, 3), (88, .iload_n 1, 1), (89, .ireturn, 1)]
def zr_163 : List (Nat × Instr × Nat) := [(0, .iconst 0, 1), (1, .istore_n 2, 1), (2, .iload_n 2, 1), (3, .aload_n 1, 1), (4, .invokevirtual 9, 3), (7, .if_icmp .ge 89, 3), (10, .iconst 5, 1), (11, .newarray .int, 2), (13, .astore_n 3, 1), (14, .iconst 0, 1), (15, .istore 4, 2), (17, .iload 4, 2), (19, .bipush 20, 2), (21, .if_icmp .ge 49, 3), (24, .aload_n 3, 1), (25, .iload 4, 2), (27, .iconst 4, 1), (28, .idiv, 1), (29, .aload_n 3, 1), (30, .iload 4, 2), (32, .iconst 4, 1), (33, .idiv, 1), (34, .iaload, 1), (35, .bipush 8, 2), (37, .ishl, 1), (38, .iload_n 2, 1), (39, .iload 4, 2), (41, .iadd, 1), (42, .aload_n 1, 1), (43, .invokevirtual 9, 3), (46, .if_icmp .ge 14, 3), (49, .aload_n 1, 1), (50, .iload_n 2, 1), (51, .iload 4, 2), (53, .iadd, 1), (54, .invokevirtual 15, 3), (57, .goto 5, 3), (60, .bipush 32, 2), (62, .ior, 1), (63, .iastore, 1), (64, .iinc 4 1, 3), (67, .goto (-50), 3), (70, .aload_n 0, 1), (71, .aload_n 3, 1), (72, .iconst 0, 1), (73, .iaload, 1), (74, .aload_n 3, 1), (75, .iconst 1, 1), (76, .iaload, 1), (77, .aload_n 3, 1), (78, .iconst 2, 1), (79, .iaload, 1), (80, .aload_n 3, 1), (81, .iconst 3, 1), (82, .iaload, 1), (83, .aload_n 3, 1), (84, .iconst 4, 1), (85, .iaload, 1), (86, .invokevirtual 19, 3), (89, .pop, 1), (90, .iinc 2 20, 3), (93, .goto (-91), 3), (96, .aload_n 0, 1), (97, .aload_n 1, 1), (98, .invokevirtual 9, 3), (101, .invokevirtual 25, 3), (104, .pop, 1), (105, .aload_n 0, 1), (106, .invokevirtual 29, 3), (109, .ireturn, 1)]
def zr_164 : List (Nat × Instr × Nat) := [(0, .iload_n 1, 1), (1, .ifCond .lt 18, 3), (4, .iload_n 1, 1), (5, .aload_n 0, 1), (6, .getfield 23, 3), (9, .getfield 214, 3), (12, .if_icmp .ge 7, 3), (15, .iconst 1, 1), (16, .goto 4, 3), (19, .iconst 0, 1), (20, .ireturn, 1)]
def zr_165 : List (Nat × Instr × Nat) := [(0, .aload_n 0, 1), (1, .iload_n 1, 1), (2, .invokevirtual 120, 3), (5, .ifCond .ne 11, 3), (8, .new 114, 3), (11, .dup, 1), (12, .invokespecial 116, 3), (15, .athrow, 1), (16, .iload_n 2, 1), (17, .ldc 124, 2), (19, .if_icmp .lt 9, 3), (22, .iload_n 2, 1), (23, .ldc 125, 2), (25, .if_icmp .le 11, 3), (28, .new 82, 3), (31, .dup, 1), (32, .invokespecial 84, 3), (35, .athrow, 1), (36, .aload_n 0, 1), (37, .getfield 30, 3), (40, .iload_n 1, 1), (41, .iaload, 1), (42, .istore_n 3, 1), (43, .aload_n 0, 1), (44, .getfield 30, 3), (47, .iload_n 1, 1), (48, .iload_n 2, 1), (49, .iastore, 1), (50, .aload_n 0, 1), (51, .getfield 45, 3), (54, .aload_n 0, 1), (55, .getfield 23, 3), (58, .aload_n 0, 1), (59, .getfield 30, 3), (62, .aload_n 0, 1), (63, .getfield 34, 3), (66, .aload_n 0, 1), (67, .getfield 37, 3), (70, .invokevirtual 110, 3), (73, .iload_n 3, 1), (74, .ireturn, 1)]
def zr_166 : List (Nat × Instr × Nat) := [(0, .iload_n 1, 1), (1, .ifCond .lt 18, 3), (4, .iload_n 1, 1), (5, .aload_n 0, 1), (6, .getfield 23, 3), (9, .getfield 217, 3), (12, .if_icmp .ge 7, 3), (15, .iconst 1, 1), (16, .goto 4, 3), (19, .iconst 0, 1), (20, .ireturn, 1)]
def zr_167 : List (Nat × Instr × Nat) := [(0, .aload_n 0, 1), (1, .getfield 34, 3), (4, .iload_n 1, 1), (5, .invokestatic 226, 3), (8, .ifCond .eq 5, 3), (11, .iconst 1, 1), (12, .ireturn, 1), (13, .aload_n 0, 1), (14, .getfield 37, 3), (17, .iload_n 1, 1), (18, .invokestatic 226, 3), (21, .ifCond .eq 7, 3), (24, .iconst 0, 1), (25, .goto 4, 3), (28, .iconst (-1), 1), (29, .ireturn, 1)]
def zr_168 : List (Nat × Instr × Nat) := [(0, .aload_n 0, 1), (1, .iload_n 1, 1), (2, .invokevirtual 126, 3), (5, .ifCond .ne 11, 3), (8, .new 114, 3), (11, .dup, 1), (12, .invokespecial 116, 3), (15, .athrow, 1), (16, .iload_n 2, 1), (17, .iconst (-1), 1), (18, .if_icmp .lt 8, 3), (21, .iload_n 2, 1), (22, .iconst 1, 1), (23, .if_icmp .le 11, 3), (26, .new 82, 3), (29, .dup, 1), (30, .invokespecial 84, 3), (33, .athrow, 1), (34, .aload_n 0, 1), (35, .iload_n 1, 1), (36, .invokevirtual 129, 3), (39, .istore_n 3, 1), (40, .aload_n 0, 1), (41, .aload_n 0, 1), (42, .getfield 34, 3), (45, .iload_n 1, 1), (46, .iload_n 2, 1), (47, .iconst 1, 1), (48, .if_icmp .ne 7, 3), (51, .iconst 1, 1), (52, .goto 4, 3), (55, .iconst 0, 1), (56, .invokestatic 132, 3), (59, .putfield 34, 3), (62, .aload_n 0, 1), (63, .aload_n 0, 1), (64, .getfield 37, 3), (67, .iload_n 1, 1), (68, .iload_n 2, 1), (69, .ifCond .ne 7, 3), (72, .iconst 1, 1), (73, .goto 4, 3), (76, .iconst 0, 1), (77, .invokestatic 132, 3), (80, .putfield 37, 3), (83, .aload_n 0, 1), (84, .getfield 45, 3), (87, .aload_n 0, 1), (88, .getfield 23, 3), (91, .aload_n 0, 1), (92, .getfield 30, 3), (95, .aload_n 0, 1), (96, .getfield 34, 3), (99, .aload_n 0, 1), (100, .getfield 37, 3), (103, .invokevirtual 110, 3), (106, .iload_n 3, 1), (107, .ireturn, 1)]
def zr_169 : List (Nat × Instr × Nat) := [(0, .aload_n 0, 1), (1, .getfield 62, 3), (4, .invokevirtual 259, 3), (7, .aload_n 0, 1), (8, .getfield 55, 3), (11, .aload_n 0, 1), (12, .getfield 23, 3), (15, .aload_n 0, 1), (16, .getfield 30, 3), (19, .aload_n 0, 1), (20, .getfield 45, 3), (23, .getfield 140, 3), (26, .getfield 237, 3), (29, .aload_n 0, 1), (30, .getfield 62, 3), (33, .invokevirtual 260, 3), (36, .aload_n 0, 1), (37, .getfield 55, 3), (40, .aload_n 1, 1), (41, .getfield 263, 3), (44, .aload_n 1, 1), (45, .getfield 266, 3), (48, .invokevirtual 269, 3), (51, .aload_n 0, 1), (52, .getfield 62, 3), (55, .getfield 273, 3), (58, .ireturn, 1)]
def zr_170 : List (Nat × Instr × Nat) := [(0, .aload_n 0, 1), (1, .getfield 23, 3), (4, .getfield 230, 3), (7, .iload_n 1, 1), (8, .aaload, 1), (9, .astore_n 3, 1), (10, .iload_n 2, 1), (11, .tableswitch 135 0 7 #[45, 51, 71, 94, 107, 120, 125, 130], 45), (56, .aload_n 0, 1), (57, .iload_n 1, 1), (58, .invokevirtual 129, 3), (61, .ireturn, 1), (62, .aload_n 0, 1), (63, .getfield 45, 3), (66, .getfield 234, 3), (69, .iload_n 1, 1), (70, .invokestatic 226, 3), (73, .ifCond .eq 7, 3), (76, .iconst 1, 1), (77, .goto 4, 3), (80, .iconst 0, 1), (81, .ireturn, 1), (82, .aload_n 0, 1), (83, .getfield 45, 3), (86, .getfield 140, 3), (89, .getfield 177, 3), (92, .iload_n 1, 1), (93, .invokestatic 226, 3), (96, .ifCond .eq 7, 3), (99, .iconst 1, 1), (100, .goto 4, 3), (103, .iconst 0, 1), (104, .ireturn, 1), (105, .aload_n 0, 1), (106, .getfield 45, 3), (109, .getfield 140, 3), (112, .getfield 237, 3), (115, .iload_n 1, 1), (116, .iaload, 1), (117, .ireturn, 1), (118, .aload_n 3, 1), (119, .getfield 240, 3), (122, .ifCond .eq 7, 3), (125, .iconst 1, 1), (126, .goto 4, 3), (129, .iconst 0, 1), (130, .ireturn, 1), (131, .aload_n 3, 1), (132, .getfield 246, 3), (135, .ireturn, 1), (136, .aload_n 3, 1), (137, .getfield 249, 3), (140, .ireturn, 1), (141, .aload_n 3, 1), (142, .getfield 252, 3), (145, .ireturn, 1), (146, .aload_n 0, 1), (147, .aload_n 3, 1), (148, .invokevirtual 255, 3), (151, .ireturn, 1)]
def zr_171 : List (Nat × Instr × Nat) := [(0, .aload_n 0, 1), (1, .iload_n 1, 1), (2, .invokevirtual 126, 3), (5, .ifCond .eq 13, 3), (8, .iload_n 2, 1), (9, .ifCond .lt 9, 3), (12, .iload_n 2, 1), (13, .bipush 9, 2), (15, .if_icmp .lt 11, 3), (18, .new 114, 3), (21, .dup, 1), (22, .invokespecial 116, 3), (25, .athrow, 1), (26, .aload_n 0, 1), (27, .iload_n 1, 1), (28, .iload_n 2, 1), (29, .invokevirtual 136, 3), (32, .ireturn, 1)]
def zr_172 : List (Nat × Instr × Nat) := [(0, .aload_n 0, 1), (1, .getfield 53, 3), (4, .getfield 57, 3), (7, .getfield 61, 3), (10, .sipush 6000, 3), (13, .invokestatic 66, 3), (16, .ireturn, 1)]
def zr_173 : List (Nat × Instr × Nat) := [(0, .iconst 0, 1), (1, .istore_n 2, 1), (2, .iconst 0, 1), (3, .istore_n 3, 1), (4, .iload_n 3, 1), (5, .aload_n 0, 1), (6, .getfield 47, 3), (9, .if_icmp .ge 38, 3), (12, .iload_n 2, 1), (13, .iload_n 1, 1), (14, .aload_n 0, 1), (15, .getfield 53, 3), (18, .iand, 1), (19, .iload_n 3, 1), (20, .invokestatic 72, 3), (23, .ifCond .eq 15, 3), (26, .aload_n 0, 1), (27, .getfield 32, 3), (30, .iload_n 3, 1), (31, .aaload, 1), (32, .getfield 87, 3), (35, .goto 4, 3), (38, .iconst 0, 1), (39, .iadd, 1), (40, .istore_n 2, 1), (41, .iinc 3 1, 3), (44, .goto (-40), 3), (47, .iload_n 2, 1), (48, .ireturn, 1)]
def zr_174 : List (Nat × Instr × Nat) := [(0, .iload_n 1, 1), (1, .tableswitch 139 0 8 #[51, 59, 67, 75, 86, 91, 102, 113, 121], 51), (52, .aload_n 0, 1), (53, .getfield 23, 3), (56, .getfield 214, 3), (59, .ireturn, 1), (60, .aload_n 0, 1), (61, .getfield 23, 3), (64, .getfield 217, 3), (67, .ireturn, 1), (68, .aload_n 0, 1), (69, .getfield 23, 3), (72, .getfield 149, 3), (75, .ireturn, 1), (76, .aload_n 0, 1), (77, .getfield 23, 3), (80, .getfield 191, 3), (83, .invokestatic 183, 3), (86, .ireturn, 1), (87, .aload_n 0, 1), (88, .getfield 13, 3), (91, .ireturn, 1), (92, .aload_n 0, 1), (93, .getfield 45, 3), (96, .getfield 140, 3), (99, .getfield 143, 3), (102, .ireturn, 1), (103, .aload_n 0, 1), (104, .getfield 45, 3), (107, .getfield 164, 3), (110, .getfield 168, 3), (113, .ireturn, 1), (114, .aload_n 0, 1), (115, .getfield 45, 3), (118, .invokevirtual 155, 3), (121, .ireturn, 1), (122, .aload_n 0, 1), (123, .getfield 23, 3), (126, .aload_n 0, 1), (127, .getfield 45, 3), (130, .getfield 140, 3), (133, .getfield 177, 3), (136, .invokevirtual 188, 3), (139, .ireturn, 1), (140, .aload_n 0, 1), (141, .getfield 69, 3), (144, .getfield 143, 3), (147, .ireturn, 1)]
def zr_175 : List (Nat × Instr × Nat) := [(0, .iload_n 1, 1), (1, .ifCond .lt 9, 3), (4, .iload_n 1, 1), (5, .bipush 10, 2), (7, .if_icmp .lt 11, 3), (10, .new 114, 3), (13, .dup, 1), (14, .invokespecial 116, 3), (17, .athrow, 1), (18, .aload_n 0, 1), (19, .iload_n 1, 1), (20, .invokevirtual 117, 3), (23, .ireturn, 1)]
def zr_176 : List (Nat × Instr × Nat) := [(0, .iload_n 1, 1), (1, .ifCond .lt 11, 3), (4, .iload_n 1, 1), (5, .aload_n 0, 1), (6, .getfield 21, 3), (9, .if_icmp .lt 5, 3), (12, .iconst 0, 1), (13, .ireturn, 1), (14, .iload_n 2, 1), (15, .ifCond .ne 10, 3), (18, .aload_n 0, 1), (19, .getfield 9, 3), (22, .iload_n 1, 1), (23, .iaload, 1), (24, .ireturn, 1), (25, .iload_n 2, 1), (26, .iconst 1, 1), (27, .if_icmp .ne 12, 3), (30, .aload_n 0, 1), (31, .getfield 15, 3), (34, .iload_n 1, 1), (35, .iaload, 1), (36, .goto 9, 3), (39, .aload_n 0, 1), (40, .getfield 18, 3), (43, .iload_n 1, 1), (44, .iaload, 1), (45, .ireturn, 1)]
def zr_177 : List (Nat × Instr × Nat) := [(0, .iload_n 1, 1), (1, .ifCond .lt 26, 3), (4, .iload_n 1, 1), (5, .aload_n 0, 1), (6, .getfield 45, 3), (9, .getfield 164, 3), (12, .getfield 168, 3), (15, .if_icmp .ge 12, 3), (18, .iload_n 2, 1), (19, .ifCond .lt 8, 3), (22, .iload_n 2, 1), (23, .iconst 3, 1), (24, .if_icmp .lt 11, 3), (27, .new 114, 3), (30, .dup, 1), (31, .invokespecial 116, 3), (34, .athrow, 1), (35, .aload_n 0, 1), (36, .getfield 45, 3), (39, .getfield 164, 3), (42, .iload_n 1, 1), (43, .iload_n 2, 1), (44, .invokevirtual 171, 3), (47, .ireturn, 1)]
def zr_178 : List (Nat × Instr × Nat) := [(0, .iload_n 1, 1), (1, .iconst 1, 1), (2, .if_icmp .lt 17, 3), (5, .iload_n 1, 1), (6, .aload_n 0, 1), (7, .getfield 45, 3), (10, .getfield 140, 3), (13, .getfield 143, 3), (16, .if_icmp .le 11, 3), (19, .new 114, 3), (22, .dup, 1), (23, .invokespecial 116, 3), (26, .athrow, 1), (27, .aload_n 0, 1), (28, .getfield 45, 3), (31, .getfield 140, 3), (34, .getfield 146, 3), (37, .iload_n 1, 1), (38, .iconst 1, 1), (39, .isub, 1), (40, .iaload, 1), (41, .ireturn, 1)]
def zr_179 : List (Nat × Instr × Nat) := [(0, .iload_n 1, 1), (1, .ifCond .lt 9, 3), (4, .iload_n 1, 1), (5, .bipush 24, 2), (7, .if_icmp .lt 5, 3), (10, .iconst 0, 1), (11, .ireturn, 1), (12, .iload_n 2, 1), (13, .ifCond .ne 10, 3), (16, .aload_n 0, 1), (17, .getfield 36, 3), (20, .iload_n 1, 1), (21, .iaload, 1), (22, .ireturn, 1), (23, .iload_n 2, 1), (24, .iconst 1, 1), (25, .if_icmp .ne 12, 3), (28, .aload_n 0, 1), (29, .getfield 39, 3), (32, .iload_n 1, 1), (33, .iaload, 1), (34, .goto 9, 3), (37, .aload_n 0, 1), (38, .getfield 42, 3), (41, .iload_n 1, 1), (42, .iaload, 1), (43, .ireturn, 1)]
def zr_180 : List (Nat × Instr × Nat) := [(0, .iload_n 1, 1), (1, .ifCond .lt 23, 3), (4, .iload_n 1, 1), (5, .aload_n 0, 1), (6, .getfield 23, 3), (9, .getfield 149, 3), (12, .if_icmp .ge 12, 3), (15, .iload_n 2, 1), (16, .ifCond .lt 8, 3), (19, .iload_n 2, 1), (20, .iconst 3, 1), (21, .if_icmp .lt 11, 3), (24, .new 114, 3), (27, .dup, 1), (28, .invokespecial 116, 3), (31, .athrow, 1), (32, .aload_n 0, 1), (33, .getfield 45, 3), (36, .iload_n 1, 1), (37, .iload_n 2, 1), (38, .invokevirtual 152, 3), (41, .ireturn, 1)]
def zr_181 : List (Nat × Instr × Nat) := [(0, .iconst 0, 1), (1, .istore_n 2, 1), (2, .iconst 0, 1), (3, .istore_n 3, 1), (4, .iload_n 3, 1), (5, .aload_n 0, 1), (6, .getfield 21, 3), (9, .if_icmp .ge 27, 3), (12, .iload_n 2, 1), (13, .aload_n 0, 1), (14, .getfield 9, 3), (17, .iload_n 3, 1), (18, .iaload, 1), (19, .iload_n 1, 1), (20, .if_icmp .ne 7, 3), (23, .iconst 1, 1), (24, .goto 4, 3), (27, .iconst 0, 1), (28, .iadd, 1), (29, .istore_n 2, 1), (30, .iinc 3 1, 3), (33, .goto (-29), 3), (36, .iload_n 2, 1), (37, .ireturn, 1)]
def zr_182 : List (Nat × Instr × Nat) := [(0, .iload_n 1, 1), (1, .iconst 1, 1), (2, .if_icmp .lt 9, 3), (5, .iload_n 1, 1), (6, .bipush 8, 2), (8, .if_icmp .le 11, 3), (11, .new 114, 3), (14, .dup, 1), (15, .invokespecial 116, 3), (18, .athrow, 1), (19, .aload_n 0, 1), (20, .getfield 45, 3), (23, .getfield 164, 3), (26, .iload_n 1, 1), (27, .invokevirtual 174, 3), (30, .ireturn, 1)]
def zr_183 : List (Nat × Instr × Nat) := [(0, .aload_n 0, 1), (1, .getfield 45, 3), (4, .getfield 140, 3), (7, .getfield 143, 3), (10, .istore_n 1, 1), (11, .iload_n 1, 1), (12, .ifCond .ne 7, 3), (15, .dconst 0, 1), (16, .goto 17, 3), (19, .aload_n 0, 1), (20, .getfield 45, 3), (23, .getfield 164, 3), (26, .getfield 168, 3), (29, .i2d, 1), (30, .iload_n 1, 1), (31, .i2d, 1), (32, .ddiv, 1), (33, .dreturn, 1)]
def zr_184 : List (Nat × Instr × Nat) := [(0, .aload_n 0, 1), (1, .iload_n 1, 1), (2, .invokevirtual 126, 3), (5, .ifCond .eq 12, 3), (8, .iload_n 3, 1), (9, .ifCond .lt 8, 3), (12, .iload_n 3, 1), (13, .iconst 4, 1), (14, .if_icmp .lt 11, 3), (17, .new 114, 3), (20, .dup, 1), (21, .invokespecial 116, 3), (24, .athrow, 1), (25, .iload_n 2, 1), (26, .iconst (-1), 1), (27, .if_icmp .lt 8, 3), (30, .iload_n 2, 1), (31, .iconst 1, 1), (32, .if_icmp .le 11, 3), (35, .new 82, 3), (38, .dup, 1), (39, .invokespecial 84, 3), (42, .athrow, 1), (43, .aload_n 0, 1), (44, .getfield 49, 3), (47, .aload_n 0, 1), (48, .getfield 23, 3), (51, .aload_n 0, 1), (52, .getfield 30, 3), (55, .aload_n 0, 1), (56, .getfield 34, 3), (59, .iload_n 1, 1), (60, .iload_n 2, 1), (61, .iconst 1, 1), (62, .if_icmp .ne 7, 3), (65, .iconst 1, 1), (66, .goto 4, 3), (69, .iconst 0, 1), (70, .invokestatic 132, 3), (73, .aload_n 0, 1), (74, .getfield 37, 3), (77, .iload_n 1, 1), (78, .iload_n 2, 1), (79, .ifCond .ne 7, 3), (82, .iconst 1, 1), (83, .goto 4, 3), (86, .iconst 0, 1), (87, .invokestatic 132, 3), (90, .invokevirtual 110, 3), (93, .iload_n 3, 1), (94, .tableswitch 66 0 2 #[26, 37, 48], 26), (120, .aload_n 0, 1), (121, .getfield 49, 3), (124, .getfield 140, 3), (127, .getfield 143, 3), (130, .ireturn, 1), (131, .aload_n 0, 1), (132, .getfield 49, 3), (135, .getfield 164, 3), (138, .getfield 168, 3), (141, .ireturn, 1), (142, .aload_n 0, 1), (143, .getfield 23, 3), (146, .aload_n 0, 1), (147, .getfield 49, 3), (150, .getfield 140, 3), (153, .getfield 177, 3), (156, .invokevirtual 188, 3), (159, .ireturn, 1), (160, .aload_n 0, 1), (161, .getfield 49, 3), (164, .invokevirtual 155, 3), (167, .ireturn, 1)]
def zr_185 : List (Nat × Instr × Nat) := [(0, .iconst 0, 1), (1, .istore_n 2, 1), (2, .iconst 0, 1), (3, .istore_n 3, 1), (4, .iload_n 3, 1), (5, .aload_n 0, 1), (6, .getfield 47, 3), (9, .if_icmp .ge 48, 3), (12, .iload_n 1, 1), (13, .iload_n 3, 1), (14, .invokestatic 72, 3), (17, .ifCond .eq 17, 3), (20, .aload_n 0, 1), (21, .getfield 32, 3), (24, .iload_n 3, 1), (25, .aaload, 1), (26, .getfield 81, 3), (29, .iload_n 1, 1), (30, .iand, 1), (31, .goto 4, 3), (34, .iconst 0, 1), (35, .istore 4, 2), (37, .iload 4, 2), (39, .ifCond .eq 12, 3), (42, .iload_n 2, 1), (43, .iload 4, 2), (45, .iconst 1, 1), (46, .iload_n 3, 1), (47, .ishl, 1), (48, .ior, 1), (49, .ior, 1), (50, .istore_n 2, 1), (51, .iinc 3 1, 3), (54, .goto (-50), 3), (57, .iload_n 2, 1), (58, .ireturn, 1)]
def zr_186 : List (Nat × Instr × Nat) := [(0, .iconst 0, 1), (1, .istore_n 2, 1), (2, .iconst 0, 1), (3, .istore_n 3, 1), (4, .iload_n 3, 1), (5, .aload_n 0, 1), (6, .getfield 47, 3), (9, .if_icmp .ge 33, 3), (12, .iload_n 2, 1), (13, .iload_n 1, 1), (14, .iload_n 3, 1), (15, .invokestatic 72, 3), (18, .ifCond .eq 15, 3), (21, .aload_n 0, 1), (22, .getfield 32, 3), (25, .iload_n 3, 1), (26, .aaload, 1), (27, .getfield 76, 3), (30, .goto 4, 3), (33, .iconst 0, 1), (34, .ior, 1), (35, .istore_n 2, 1), (36, .iinc 3 1, 3), (39, .goto (-35), 3), (42, .iload_n 2, 1), (43, .iload_n 1, 1), (44, .iconst (-1), 1), (45, .ixor, 1), (46, .iand, 1), (47, .ifCond .ne 15, 3), (50, .aload_n 0, 1), (51, .iload_n 1, 1), (52, .invokevirtual 84, 3), (55, .ifCond .ne 7, 3), (58, .iconst 1, 1), (59, .goto 4, 3), (62, .iconst 0, 1), (63, .ireturn, 1)]
def zr_187 : List (Nat × Instr × Nat) := [(0, .aload_n 0, 1), (1, .getfield 23, 3), (4, .getfield 191, 3), (7, .aload_n 0, 1), (8, .getfield 34, 3), (11, .iconst (-1), 1), (12, .ixor, 1), (13, .iand, 1), (14, .aload_n 0, 1), (15, .getfield 37, 3), (18, .iconst (-1), 1), (19, .ixor, 1), (20, .iand, 1), (21, .istore_n 1, 1), (22, .iconst (-1), 1), (23, .istore_n 2, 1), (24, .iconst 0, 1), (25, .istore_n 3, 1), (26, .iconst 0, 1), (27, .istore 4, 2), (29, .iload 4, 2), (31, .iload_n 1, 1), (32, .if_icmp .gt 80, 3), (35, .iload 4, 2), (37, .iload_n 1, 1), (38, .iconst (-1), 1), (39, .ixor, 1), (40, .iand, 1), (41, .ifCond .ne 65, 3), (44, .aload_n 0, 1), (45, .getfield 23, 3), (48, .aload_n 0, 1), (49, .getfield 45, 3), (52, .getfield 194, 3), (55, .iload 4, 2), (57, .ior, 1), (58, .aload_n 0, 1), (59, .getfield 37, 3), (62, .invokevirtual 197, 3), (65, .istore 5, 2), (67, .aload_n 0, 1), (68, .getfield 23, 3), (71, .iload 5, 2), (73, .invokevirtual 188, 3), (76, .istore 6, 2), (78, .aload_n 0, 1), (79, .getfield 23, 3), (82, .iload 5, 2), (84, .invokevirtual 200, 3), (87, .ifCond .eq 19, 3), (90, .iload_n 2, 1), (91, .ifCond .lt 9, 3), (94, .iload 6, 2), (96, .iload_n 3, 1), (97, .if_icmp .le 9, 3), (100, .iload 4, 2), (102, .istore_n 2, 1), (103, .iload 6, 2), (105, .istore_n 3, 1), (106, .iinc 4 1, 3), (109, .goto (-80), 3), (112, .iload_n 2, 1), (113, .ireturn, 1)]
def zr_188 : List (Nat × Instr × Nat) := [(0, .aload_n 0, 1), (1, .getfield 45, 3), (4, .getfield 140, 3), (7, .getfield 177, 3), (10, .istore_n 1, 1), (11, .aload_n 0, 1), (12, .getfield 23, 3), (15, .iload_n 1, 1), (16, .invokevirtual 180, 3), (19, .istore_n 2, 1), (20, .iload_n 2, 1), (21, .istore_n 3, 1), (22, .iconst 0, 1), (23, .istore 4, 2), (25, .iload 4, 2), (27, .iload_n 3, 1), (28, .if_icmp .gt 61, 3), (31, .iload 4, 2), (33, .iload_n 3, 1), (34, .iconst (-1), 1), (35, .ixor, 1), (36, .iand, 1), (37, .ifCond .ne 19, 3), (40, .iload 4, 2), (42, .invokestatic 183, 3), (45, .iload_n 2, 1), (46, .invokestatic 183, 3), (49, .if_icmp .ge 7, 3), (52, .iconst 1, 1), (53, .goto 4, 3), (56, .iconst 0, 1), (57, .istore 5, 2), (59, .iload 5, 2), (61, .ifCond .eq 22, 3), (64, .aload_n 0, 1), (65, .getfield 23, 3), (68, .iload_n 1, 1), (69, .iload 4, 2), (71, .iconst (-1), 1), (72, .ixor, 1), (73, .iand, 1), (74, .invokevirtual 180, 3), (77, .ifCond .ne 6, 3), (80, .iload 4, 2), (82, .istore_n 2, 1), (83, .iinc 4 1, 3), (86, .goto (-61), 3), (89, .iload_n 2, 1), (90, .ireturn, 1)]
def zr_189 : List (Nat × Instr × Nat) := [(0, .new 20, 3), (3, .dup, 1), (4, .invokespecial 199, 3), (7, .astore_n 1, 1), (8, .new 33, 3), (11, .dup, 1), (12, .invokespecial 78, 3), (15, .astore_n 2, 1), (16, .aload_n 0, 1), (17, .bipush 7, 2), (19, .aload_n 2, 1), (20, .invokestatic 200, 3), (23, .astore_n 3, 1), (24, .aload_n 2, 1), (25, .invokestatic 204, 3), (28, .ifCond .ne 5, 3), (31, .iconst 1, 1), (32, .ireturn, 1), (33, .aload_n 1, 1), (34, .aload_n 2, 1), (35, .invokevirtual 88, 3), (38, .invokestatic 208, 3), (41, .ifCond .eq 5, 3), (44, .iconst 0, 1), (45, .ireturn, 1), (46, .aload_n 3, 1), (47, .getfield 61, 3), (50, .istore 4, 2), (52, .iconst 0, 1), (53, .istore 5, 2), (55, .iload 5, 2), (57, .bipush 14, 2), (59, .if_icmp .ge 1211, 3), (62, .aload_n 0, 1), (63, .iload 5, 2), (65, .invokestatic 42, 3), (68, .bipush 17, 2), (70, .iload 5, 2), (72, .imul, 1), (73, .iadd, 1), (74, .istore 6, 2), (76, .aload_n 1, 1), (77, .iload 6, 2), (79, .aload_n 3, 1), (80, .getfield 53, 3), (83, .invokestatic 36, 3), (86, .iload 6, 2), (88, .iconst 3, 1), (89, .ishr, 1), (90, .bipush 24, 2), (92, .invokestatic 36, 3), (95, .iconst 2, 1), (96, .isub, 1), (97, .invokevirtual 212, 3), (100, .pop, 1), (101, .aload_n 1, 1), (102, .iload 6, 2), (104, .iconst 2, 1), (105, .ishr, 1), (106, .iload 4, 2), (108, .invokestatic 36, 3), (111, .iload 6, 2), (113, .iconst 5, 1), (114, .ishr, 1), (115, .iconst 3, 1), (116, .invokestatic 36, 3), (119, .iconst 1, 1), (120, .isub, 1), (121, .invokevirtual 215, 3), (124, .pop, 1), (125, .iconst 0, 1), (126, .istore 7, 2), (128, .iconst 0, 1), (129, .istore 8, 2), (131, .iconst 0, 1), (132, .istore 9, 2), (134, .iconst 0, 1), (135, .istore 10, 2), (137, .iload 10, 2), (139, .iload 4, 2), (141, .if_icmp .ge 81, 3), (144, .iload 7, 2), (146, .aload_n 1, 1), (147, .iload 10, 2), (149, .iconst 2, 1), (150, .invokevirtual 218, 3), (153, .iload 10, 2), (155, .ishl, 1), (156, .ior, 1), (157, .istore 7, 2), (159, .iload 8, 2), (161, .aload_n 1, 1), (162, .iload 10, 2), (164, .iconst 2, 1), (165, .invokevirtual 218, 3), (168, .iadd, 1), (169, .istore 8, 2), (171, .iload 9, 2), (173, .aload_n 1, 1), (174, .iload 10, 2), (176, .iconst 2, 1), (177, .invokevirtual 218, 3), (180, .iconst 1, 1), (181, .if_icmp .ne 31, 3), (184, .aload_n 3, 1), (185, .getfield 152, 3), (188, .iload 10, 2), (190, .baload, 1), (191, .ifCond .eq 21, 3), (194, .aload_n 3, 1), (195, .getfield 156, 3), (198, .iload 10, 2), (200, .iaload, 1), (201, .aload_n 3, 1), (202, .getfield 159, 3), (205, .iload 10, 2), (207, .iaload, 1), (208, .isub, 1), (209, .goto 4, 3), (212, .iconst 0, 1), (213, .iadd, 1), (214, .istore 9, 2), (216, .iinc 10 1, 3), (219, .goto (-82), 3), (222, .aload_n 1, 1), (223, .iconst 5, 1), (224, .invokevirtual 221, 3), (227, .iload 8, 2), (229, .if_icmp .ne 37, 3), (232, .aload_n 1, 1), (233, .bipush 8, 2), (235, .invokevirtual 221, 3), (238, .iload 9, 2), (240, .if_icmp .ne 26, 3), (243, .aload_n 1, 1), (244, .iconst 0, 1), (245, .iconst 4, 1), (246, .invokevirtual 218, 3), (249, .aload_n 3, 1), (250, .getfield 152, 3), (253, .iconst 0, 1), (254, .baload, 1), (255, .ifCond .eq 7, 3), (258, .iconst 1, 1), (259, .goto 4, 3), (262, .iconst 0, 1), (263, .if_icmp .eq 5, 3), (266, .iconst 0, 1), (267, .ireturn, 1), (268, .bipush 9, 2), (270, .newarray .int, 2), (272, .astore 10, 2), (274, .iconst 0, 1), (275, .istore 11, 2), (277, .iload 11, 2), (279, .aload_n 1, 1), (280, .bipush 6, 2), (282, .invokevirtual 221, 3), (285, .if_icmp .ge 23, 3), (288, .aload 10, 2), (290, .aload_n 1, 1), (291, .iload 11, 2), (293, .iconst 0, 1), (294, .invokevirtual 224, 3), (297, .dup2, 1), (298, .iaload, 1), (299, .iconst 1, 1), (300, .iadd, 1), (301, .iastore, 1), (302, .iinc 11 1, 3), (305, .goto (-28), 3), (308, .iconst 0, 1), (309, .istore 11, 2), (311, .iconst 0, 1), (312, .istore 12, 2), (314, .iconst 0, 1), (315, .istore 13, 2), (317, .iconst 0, 1), (318, .istore 14, 2), (320, .iconst 0, 1), (321, .istore 15, 2), (323, .iload 15, 2), (325, .iload 4, 2), (327, .if_icmp .ge 431, 3), (330, .iload 7, 2), (332, .iload 15, 2), (334, .ishr, 1), (335, .iconst 1, 1), (336, .iand, 1), (337, .iconst 1, 1), (338, .if_icmp .ne 7, 3), (341, .iconst 1, 1), (342, .goto 4, 3), (345, .iconst 0, 1), (346, .istore 16, 2), (348, .aload_n 1, 1), (349, .iload 15, 2), (351, .iconst 0, 1), (352, .invokevirtual 218, 3), (355, .istore 17, 2), (357, .iload 17, 2), (359, .iconst 1, 1), (360, .if_icmp .eq 29, 3), (363, .iload 17, 2), (365, .ifCond .ge 28, 3), (368, .aload_n 3, 1), (369, .getfield 152, 3), (372, .iload 15, 2), (374, .baload, 1), (375, .ifCond .ne 18, 3), (378, .aload_n 1, 1), (379, .iload 15, 2), (381, .iconst 1, 1), (382, .invokevirtual 218, 3), (385, .iconst 1, 1), (386, .if_icmp .ne 7, 3), (389, .iconst 1, 1), (390, .goto 4, 3), (393, .iconst 0, 1), (394, .istore 18, 2), (396, .iconst 0, 1), (397, .istore 19, 2), (399, .iconst 0, 1), (400, .istore 20, 2), (402, .iload 20, 2), (404, .iload 4, 2), (406, .if_icmp .ge 55, 3), (409, .iload 19, 2), (411, .ifCond .ne 37, 3), (414, .iload 20, 2), (416, .iload 15, 2), (418, .if_icmp .eq 34, 3), (421, .iload 7, 2), (423, .iload 20, 2), (425, .ishr, 1), (426, .iconst 1, 1), (427, .iand, 1), (428, .iconst 1, 1), (429, .if_icmp .ne 23, 3), (432, .aload_n 1, 1), (433, .iload 20, 2), (435, .iconst 5, 1), (436, .invokevirtual 218, 3), (439, .iload 15, 2), (441, .ishr, 1), (442, .iconst 1, 1), (443, .iand, 1), (444, .iconst 1, 1), (445, .if_icmp .ne 7, 3), (448, .iconst 1, 1), (449, .goto 4, 3), (452, .iconst 0, 1), (453, .istore 19, 2), (455, .iinc 20 1, 3), (458, .goto (-56), 3), (461, .iload 16, 2), (463, .iload 18, 2), (465, .ifCond .ne 18, 3), (468, .iload 16, 2), (470, .ifCond .eq 17, 3), (473, .iload 19, 2), (475, .ifCond .eq 12, 3), (478, .iload 17, 2), (480, .ifCond .eq 7, 3), (483, .iconst 1, 1), (484, .goto 4, 3), (487, .iconst 0, 1), (488, .if_icmp .ne 18, 3), (491, .iload 16, 2), (493, .ifCond .ne 15, 3), (496, .iload 19, 2), (498, .ifCond .eq 10, 3), (501, .iload 17, 2), (503, .ifCond .eq 5, 3), (506, .iconst 0, 1), (507, .ireturn, 1), (508, .aload_n 1, 1), (509, .iload 15, 2), (511, .iconst 3, 1), (512, .invokevirtual 218, 3), (515, .istore 20, 2), (517, .iload 16, 2), (519, .iload 20, 2), (521, .ifCond .le 7, 3), (524, .iconst 1, 1), (525, .goto 4, 3), (528, .iconst 0, 1), (529, .if_icmp .ne 26, 3), (532, .iload 20, 2), (534, .iload 8, 2), (536, .if_icmp .gt 19, 3), (539, .iload 16, 2), (541, .ifCond .eq 16, 3), (544, .aload_n 1, 1), (545, .iload 20, 2), (547, .invokevirtual 227, 3), (550, .iload 15, 2), (552, .if_icmp .eq 5, 3), (555, .iconst 0, 1), (556, .ireturn, 1), (557, .iload 16, 2), (559, .ifCond .ne 6, 3), (562, .goto 190, 3), (565, .iload 14, 2), (567, .aload_n 1, 1), (568, .iload 15, 2), (570, .bipush 8, 2), (572, .invokevirtual 218, 3), (575, .iconst 3, 1), (576, .iadd, 1), (577, .iload 20, 2), (579, .bipush 9, 2), (581, .if_icmp .le 7, 3), (584, .iconst 2, 1), (585, .goto 4, 3), (588, .iconst 1, 1), (589, .iadd, 1), (590, .iadd, 1), (591, .istore 14, 2), (593, .aload_n 3, 1), (594, .getfield 167, 3), (597, .iload 15, 2), (599, .aaload, 1), (600, .astore 21, 2), (602, .aload 21, 2), (604, .arraylength, 1), (605, .istore 22, 2), (607, .iconst 0, 1), (608, .istore 23, 2), (610, .iload 23, 2), (612, .iload 22, 2), (614, .if_icmp .ge 28, 3), (617, .aload 21, 2), (619, .iload 23, 2), (621, .iaload, 1), (622, .istore 24, 2), (624, .iload 11, 2), (626, .iload 7, 2), (628, .iload 24, 2), (630, .ishr, 1), (631, .iconst 1, 1), (632, .iand, 1), (633, .iadd, 1), (634, .istore 11, 2), (636, .iinc 23 1, 3), (639, .goto (-29), 3), (642, .aload_n 3, 1), (643, .getfield 163, 3), (646, .iload 15, 2), (648, .aaload, 1), (649, .astore 21, 2), (651, .aload 21, 2), (653, .arraylength, 1), (654, .istore 22, 2), (656, .iconst 0, 1), (657, .istore 23, 2), (659, .iload 23, 2), (661, .iload 22, 2), (663, .if_icmp .ge 30, 3), (666, .aload 21, 2), (668, .iload 23, 2), (670, .iaload, 1), (671, .istore 24, 2), (673, .iload 12, 2), (675, .iconst 1, 1), (676, .iload 7, 2), (678, .iload 24, 2), (680, .ishr, 1), (681, .iconst 1, 1), (682, .iand, 1), (683, .isub, 1), (684, .iadd, 1), (685, .istore 12, 2), (687, .iinc 23 1, 3), (690, .goto (-31), 3), (693, .aload_n 3, 1), (694, .getfield 170, 3), (697, .iload 15, 2), (699, .aaload, 1), (700, .astore 21, 2), (702, .aload 21, 2), (704, .arraylength, 1), (705, .istore 22, 2), (707, .iconst 0, 1), (708, .istore 23, 2), (710, .iload 23, 2), (712, .iload 22, 2), (714, .if_icmp .ge 38, 3), (717, .aload 21, 2), (719, .iload 23, 2), (721, .iaload, 1), (722, .istore 24, 2), (724, .iload 13, 2), (726, .aload_n 1, 1), (727, .iload 24, 2), (729, .iconst 3, 1), (730, .invokevirtual 218, 3), (733, .iload 20, 2), (735, .if_icmp .le 7, 3), (738, .iconst 1, 1), (739, .goto 4, 3), (742, .iconst 0, 1), (743, .iadd, 1), (744, .istore 13, 2), (746, .iinc 23 1, 3), (749, .goto (-39), 3), (752, .iinc 15 1, 3), (755, .goto (-432), 3), (758, .aload_n 1, 1), (759, .bipush 7, 2), (761, .invokevirtual 221, 3), (764, .sipush 6000, 3), (767, .iload 14, 2), (769, .invokestatic 230, 3), (772, .if_icmp .ne 41, 3), (775, .aload_n 1, 1), (776, .bipush 6, 2), (778, .invokevirtual 221, 3), (781, .bipush 60, 2), (783, .if_icmp .ge 32, 3), (786, .aload 10, 2), (788, .iconst 1, 1), (789, .iaload, 1), (790, .iload 11, 2), (792, .if_icmp .ne 21, 3), (795, .aload 10, 2), (797, .iconst 2, 1), (798, .iaload, 1), (799, .iload 12, 2), (801, .if_icmp .ne 12, 3), (804, .aload 10, 2), (806, .iconst 3, 1), (807, .iaload, 1), (808, .iload 13, 2), (810, .if_icmp .eq 5, 3), (813, .iconst 0, 1), (814, .ireturn, 1), (815, .iconst 0, 1), (816, .istore 15, 2), (818, .iconst 0, 1), (819, .istore 16, 2), (821, .iconst 0, 1), (822, .istore 17, 2), (824, .iload 17, 2), (826, .aload_n 3, 1), (827, .getfield 94, 3), (830, .if_icmp .ge 123, 3), (833, .aload_n 1, 1), (834, .iload 17, 2), (836, .iconst 0, 1), (837, .invokevirtual 235, 3), (840, .istore 18, 2), (842, .aload_n 1, 1), (843, .iload 17, 2), (845, .iconst 1, 1), (846, .invokevirtual 235, 3), (849, .istore 19, 2), (851, .iload 18, 2), (853, .ifCond .lt 56, 3), (856, .iload 19, 2), (858, .ifCond .lt 51, 3), (861, .iload 18, 2), (863, .ifCond .ne 7, 3), (866, .iconst 1, 1), (867, .goto 4, 3), (870, .iconst 0, 1), (871, .aload_n 1, 1), (872, .iload 17, 2), (874, .iconst 2, 1), (875, .invokevirtual 235, 3), (878, .ifCond .ge 7, 3), (881, .iconst 1, 1), (882, .goto 4, 3), (885, .iconst 0, 1), (886, .if_icmp .ne 23, 3), (889, .iload 18, 2), (891, .ifCond .le 20, 3), (894, .iload 7, 2), (896, .aload_n 1, 1), (897, .iload 17, 2), (899, .iconst 2, 1), (900, .invokevirtual 235, 3), (903, .ishr, 1), (904, .iconst 1, 1), (905, .iand, 1), (906, .ifCond .ne 5, 3), (909, .iconst 0, 1), (910, .ireturn, 1), (911, .iload 15, 2), (913, .iload 18, 2), (915, .ifCond .ne 8, 3), (918, .iload 19, 2), (920, .goto 4, 3), (923, .iconst 0, 1), (924, .iadd, 1), (925, .istore 15, 2), (927, .iload 16, 2), (929, .iload 18, 2), (931, .ifCond .le 12, 3), (934, .iload 19, 2), (936, .ifCond .ne 7, 3), (939, .iconst 1, 1), (940, .goto 4, 3), (943, .iconst 0, 1), (944, .iadd, 1), (945, .istore 16, 2), (947, .iinc 17 1, 3), (950, .goto (-126), 3), (953, .aload_n 1, 1), (954, .bipush 6, 2), (956, .invokevirtual 221, 3), (959, .bipush 60, 2), (961, .if_icmp .ge 25, 3), (964, .aload 10, 2), (966, .bipush 6, 2), (968, .iaload, 1), (969, .iload 15, 2), (971, .if_icmp .ne 13, 3), (974, .aload 10, 2), (976, .bipush 8, 2), (978, .iaload, 1), (979, .iload 16, 2), (981, .if_icmp .eq 5, 3), (984, .iconst 0, 1), (985, .ireturn, 1), (986, .iconst 0, 1), (987, .istore 17, 2), (989, .iconst 1, 1), (990, .istore 18, 2), (992, .iload 18, 2), (994, .bipush 9, 2), (996, .if_icmp .ge 35, 3), (999, .aload_n 1, 1), (1000, .iload 18, 2), (1002, .invokevirtual 238, 3), (1005, .aload 10, 2), (1007, .iload 18, 2), (1009, .iaload, 1), (1010, .if_icmp .eq 5, 3), (1013, .iconst 0, 1), (1014, .ireturn, 1), (1015, .iload 17, 2), (1017, .aload 10, 2), (1019, .iload 18, 2), (1021, .iaload, 1), (1022, .iadd, 1), (1023, .istore 17, 2), (1025, .iinc 18 1, 3), (1028, .goto (-36), 3), (1031, .iload 17, 2), (1033, .aload_n 1, 1), (1034, .bipush 6, 2), (1036, .invokevirtual 221, 3), (1039, .if_icmp .ne 27, 3), (1042, .aload_n 1, 1), (1043, .invokevirtual 241, 3), (1046, .iload 8, 2), (1048, .ifCond .ne 7, 3), (1051, .dconst 0, 1), (1052, .goto 10, 3), (1055, .iload 17, 2), (1057, .i2d, 1), (1058, .iload 8, 2), (1060, .i2d, 1), (1061, .ddiv, 1), (1062, .dcmp .l, 1), (1063, .ifCond .eq 5, 3), (1066, .iconst 0, 1), (1067, .ireturn, 1), (1068, .iload 6, 2), (1070, .iconst 4, 1), (1071, .ishr, 1), (1072, .iload 4, 2), (1074, .invokestatic 36, 3), (1077, .istore 18, 2), (1079, .aload_n 1, 1), (1080, .iload 18, 2), (1082, .aload_n 1, 1), (1083, .iload 18, 2), (1085, .iconst 0, 1), (1086, .invokevirtual 218, 3), (1089, .iconst 0, 1), (1090, .invokevirtual 245, 3), (1093, .iload 8, 2), (1095, .if_icmp .ne 53, 3), (1098, .aload_n 1, 1), (1099, .iload 18, 2), (1101, .aload_n 1, 1), (1102, .iload 18, 2), (1104, .iconst 0, 1), (1105, .invokevirtual 218, 3), (1108, .iconst 1, 1), (1109, .invokevirtual 245, 3), (1112, .iload 17, 2), (1114, .if_icmp .ne 34, 3), (1117, .aload_n 1, 1), (1118, .iload 18, 2), (1120, .aload_n 1, 1), (1121, .iload 18, 2), (1123, .iconst 0, 1), (1124, .invokevirtual 218, 3), (1127, .iconst 2, 1), (1128, .invokevirtual 245, 3), (1131, .iload 9, 2), (1133, .if_icmp .ne 15, 3), (1136, .aload_n 1, 1), (1137, .iload 18, 2), (1139, .iconst 1, 1), (1140, .iconst 0, 1), (1141, .invokevirtual 245, 3), (1144, .iconst 1, 1), (1145, .if_icmp .ge 5, 3), (1148, .iconst 0, 1), (1149, .ireturn, 1), (1150, .aload_n 1, 1), (1151, .invokevirtual 249, 3), (1154, .istore 19, 2), (1156, .aload_n 1, 1), (1157, .invokevirtual 252, 3), (1160, .istore 20, 2), (1162, .iload 19, 2), (1164, .ifCond .ge 11, 3), (1167, .iload 11, 2), (1169, .iload 12, 2), (1171, .iadd, 1), (1172, .ifCond .eq 36, 3), (1175, .iload 20, 2), (1177, .iload 7, 2), (1179, .iconst (-1), 1), (1180, .ixor, 1), (1181, .iand, 1), (1182, .ifCond .ne 26, 3), (1185, .iload 20, 2), (1187, .ifCond .ne 7, 3), (1190, .iconst 1, 1), (1191, .goto 4, 3), (1194, .iconst 0, 1), (1195, .iload 11, 2), (1197, .ifCond .ne 7, 3), (1200, .iconst 1, 1), (1201, .goto 4, 3), (1204, .iconst 0, 1), (1205, .if_icmp .eq 5, 3), (1208, .iconst 0, 1), (1209, .ireturn, 1), (1210, .iconst 0, 1), (1211, .istore 21, 2), (1213, .iload 21, 2), (1215, .iload 4, 2), (1217, .if_icmp .ge 47, 3), (1220, .iload 19, 2), (1222, .ifCond .le 42, 3), (1225, .iload 19, 2), (1227, .iload 21, 2), (1229, .ishr, 1), (1230, .iconst 1, 1), (1231, .iand, 1), (1232, .iconst 1, 1), (1233, .if_icmp .ne 25, 3), (1236, .aload_n 3, 1), (1237, .getfield 152, 3), (1240, .iload 21, 2), (1242, .baload, 1), (1243, .ifCond .eq 13, 3), (1246, .aload_n 1, 1), (1247, .iload 21, 2), (1249, .iconst 0, 1), (1250, .invokevirtual 218, 3), (1253, .ifCond .lt 5, 3), (1256, .iconst 0, 1), (1257, .ireturn, 1), (1258, .iinc 21 1, 3), (1261, .goto (-48), 3), (1264, .iinc 5 1, 3), (1267, .goto (-1212), 3), (1270, .iconst 1, 1), (1271, .ireturn, 1)]
def z_raws : List (List (Nat × Instr × Nat)) := [zr_0, zr_1, zr_2, zr_3, zr_4, zr_5, zr_6, zr_7, zr_8, zr_9, zr_10, zr_11, zr_12, zr_13, zr_14, zr_15, zr_16, zr_17, zr_18, zr_19, zr_20, zr_21, zr_22, zr_23, zr_24, zr_25, zr_26, zr_27, zr_28, zr_29, zr_30, zr_31, zr_32, zr_33, zr_34, zr_35, zr_36, zr_37, zr_38, zr_39, zr_40, zr_41, zr_42, zr_43, zr_44, zr_45, zr_46, zr_47, zr_48, zr_49, zr_50, zr_51, zr_52, zr_53, zr_54, zr_55, zr_56, zr_57, zr_58, zr_59, zr_60, zr_61, zr_62, zr_63, zr_64, zr_65, zr_66, zr_67, zr_68, zr_69, zr_70, zr_71, zr_72, zr_73, zr_74, zr_75, zr_76, zr_77, zr_78, zr_79, zr_80, zr_81, zr_82, zr_83, zr_84, zr_85, zr_86, zr_87, zr_88, zr_89, zr_90, zr_91, zr_92, zr_93, zr_94, zr_95, zr_96, zr_97, zr_98, zr_99, zr_100, zr_101, zr_102, zr_103, zr_104, zr_105, zr_106, zr_107, zr_108, zr_109, zr_110, zr_111, zr_112, zr_113, zr_114, zr_115, zr_116, zr_117, zr_118, zr_119, zr_120, zr_121, zr_122, zr_123, zr_124, zr_125, zr_126, zr_127, zr_128, zr_129, zr_130, zr_131, zr_132, zr_133, zr_134, zr_135, zr_136, zr_137, zr_138, zr_139, zr_140, zr_141, zr_142, zr_143, zr_144, zr_145, zr_146, zr_147, zr_148, zr_149, zr_150, zr_151, zr_152, zr_153, zr_154, zr_155, zr_156, zr_157, zr_158, zr_159, zr_160, zr_161, zr_162, zr_163, zr_164, zr_165, zr_166, zr_167, zr_168, zr_169, zr_170, zr_171, zr_172, zr_173, zr_174, zr_175, zr_176, zr_177, zr_178, zr_179, zr_180, zr_181, zr_182, zr_183, zr_184, zr_185, zr_186, zr_187, zr_188, zr_189]
def z_raw (k : Nat) : List (Nat × Instr × Nat) := z_raws.getD k []
end
section
/-! The code as it is read (decode) and the linked code say the same: a test that the kernel runs over all methods. -/
def n_pc (raw : List (Nat × Instr × Nat)) (j : Nat) : Nat := (raw.getD j (99999, .nop, 0)).1
def e_jt (raw : List (Nat × Instr × Nat)) (pc : Nat) (off t : Int) : Bool := decide (0 ≤ t) && decide (t.toNat < raw.length) && decide ((pc : Int) + off = (n_pc raw t.toNat : Int))
def e_jts (raw : List (Nat × Instr × Nat)) (pc : Nat) : List Int → List Int → Bool
  | [], [] => true
  | a :: l, b :: m => e_jt raw pc a b && e_jts raw pc l m
  | _, _ => false
def e_ld (i r : Instr) (len : Nat) : Bool := match i with
  | .iload k => match r with
    | .iload j => Nat.beq j k && Nat.beq len 2
    | .iload_n j => Nat.beq j.val k && Nat.beq len 1
    | _ => false
  | .lload k => match r with
    | .lload j => Nat.beq j k && Nat.beq len 2
    | .lload_n j => Nat.beq j.val k && Nat.beq len 1
    | _ => false
  | .aload k => match r with
    | .aload j => Nat.beq j k && Nat.beq len 2
    | .aload_n j => Nat.beq j.val k && Nat.beq len 1
    | _ => false
  | .istore k => match r with
    | .istore j => Nat.beq j k && Nat.beq len 2
    | .istore_n j => Nat.beq j.val k && Nat.beq len 1
    | _ => false
  | .lstore k => match r with
    | .lstore j => Nat.beq j k && Nat.beq len 2
    | .lstore_n j => Nat.beq j.val k && Nat.beq len 1
    | _ => false
  | .astore k => match r with
    | .astore j => Nat.beq j k && Nat.beq len 2
    | .astore_n j => Nat.beq j.val k && Nat.beq len 1
    | _ => false
  | _ => false
/-- constants -/
def e_cn (o : Nat) (n : Int) (r : Instr) (len : Nat) : Bool := match r with
  | .iconst m => decide (n = m) && Nat.beq len 1
  | .bipush m => decide ((Int8.ofInt m).toInt32 = Int32.ofInt n) && Nat.beq len 2
  | .sipush m => decide ((Int16.ofInt m).toInt32 = Int32.ofInt n) && Nat.beq len 3
  | .ldc x => z_lk.any (fun q => Nat.beq q.1 o && Nat.beq q.2.1 x && decide (q.2.2.1 = n)) && Nat.beq len 2
  | .ldc_w x => z_lk.any (fun q => Nat.beq q.1 o && Nat.beq q.2.1 x && decide (q.2.2.1 = n)) && Nat.beq len 3
  | .getstatic x => z_lgi.any (fun q => Nat.beq q.1 o && Nat.beq q.2.1 x && decide (q.2.2.1 = n)) && Nat.beq len 3
  | _ => false
def e_lx (o x k : Nat) : Bool := z_lx.any (fun q => Nat.beq q.1 o && Nat.beq q.2.1 x && Nat.beq q.2.2.1 k)
def e_lm (o x k : Nat) (hows : List Nat) : Bool := z_lm.any (fun q => Nat.beq q.1 o && Nat.beq q.2.1 x && Nat.beq q.2.2.1 k && hows.elem q.2.2.2.1)
def e_rel (o : Nat) (raw : List (Nat × Instr × Nat)) (pc len : Nat) (r i : Instr) : Bool := match i with
  | .athrow => true
  | .iconst n => e_cn o n r len
  | .ldc2_w n => match r with
    | .lconst m => Nat.beq m.val n && Nat.beq len 1
    | .ldc2_w x => z_ll.any (fun q => Nat.beq q.1 o && Nat.beq q.2.1 x && Nat.beq q.2.2.1 n) && Nat.beq len 3
    | _ => false
  | .dconst _ => match r with
    | .dconst m => Nat.beq m.val 0 && Nat.beq len 1
    | _ => false
  | .ldc a => match r with
    | .ldc x => z_ls.any (fun q => Nat.beq q.1 o && Nat.beq q.2.1 x && Nat.beq q.2.2.1 a) && Nat.beq len 2
    | .getstatic x => (z_lg.any (fun q => Nat.beq q.1 o && Nat.beq q.2.1 x && Nat.beq q.2.2.1 a) || z_lgn.any (fun q => Nat.beq q.1 o && Nat.beq q.2.1 x && Nat.beq q.2.2.1 a)) && Nat.beq len 3
    | _ => false
  | .iload k => e_ld (.iload k) r len
  | .lload k => e_ld (.lload k) r len
  | .aload k => e_ld (.aload k) r len
  | .istore k => e_ld (.istore k) r len
  | .lstore k => e_ld (.lstore k) r len
  | .astore k => e_ld (.astore k) r len
  | .iinc k n => match r with
    | .iinc j m => Nat.beq j k && decide (m = n) && Nat.beq len 3
    | _ => false
  | .ifCond c t => match r with
    | .ifCond c1 off => decide (c = c1) && e_jt raw pc off t && Nat.beq len 3
    | _ => false
  | .if_icmp c t => match r with
    | .if_icmp c1 off => decide (c = c1) && e_jt raw pc off t && Nat.beq len 3
    | _ => false
  | .if_acmp c t => match r with
    | .if_acmp c1 off => decide (c = c1) && e_jt raw pc off t && Nat.beq len 3
    | _ => false
  | .ifnull t => match r with
    | .ifnull off => e_jt raw pc off t && Nat.beq len 3
    | _ => false
  | .ifnonnull t => match r with
    | .ifnonnull off => e_jt raw pc off t && Nat.beq len 3
    | _ => false
  | .goto t => match r with
    | .goto off => e_jt raw pc off t && Nat.beq len 3
    | _ => false
  | .tableswitch d lo hi ts => match r with
    | .tableswitch d1 lo1 hi1 offs => decide (lo = lo1) && decide (hi = hi1) && decide (0 ≤ lo) && decide (hi < 100) && decide ((offs.toList.length : Int) = hi - lo + 1) && e_jt raw pc d1 d && e_jts raw pc offs.toList ts.toList
    | _ => false
  | .getfield n => match r with
    | .getfield x => z_lf.any (fun q => Nat.beq q.1 o && Nat.beq q.2.1 x && Nat.beq q.2.2.1 n) && Nat.beq len 3
    | _ => false
  | .putfield n => match r with
    | .putfield x => z_lf.any (fun q => Nat.beq q.1 o && Nat.beq q.2.1 x && Nat.beq q.2.2.1 n) && Nat.beq len 3
    | _ => false
  | .new k => match r with
    | .new x => z_lc.any (fun q => Nat.beq q.1 o && Nat.beq q.2.1 x && Nat.beq q.2.2.1 k) && Nat.beq len 3
    | _ => false
  | .anewarray k => match r with
    | .anewarray x => z_la.any (fun q => Nat.beq q.1 o && Nat.beq q.2.1 x && Nat.beq q.2.2.1 k) && Nat.beq len 3
    | _ => false
  | .newarray t => match r with
    | .newarray t1 => decide (t = t1) && Nat.beq len 2
    | _ => false
  | .castore => decide (r = .bastore) && Nat.beq len 1
  | .checkcast _ => match r with
    | .checkcast _ => Nat.beq len 3
    | _ => false
  | .invokestatic k => match r with
    | .invokestatic x => (match Nat.beq k 900 with
      | true => e_lx o x 900
      | false => e_lm o x k [3, 4]) && Nat.beq len 3
    | _ => false
  | .invokevirtual k => match r with
    | .invokevirtual x => (match Nat.beq k 901 with
      | true => e_lx o x 901
      | false => e_lm o x k [0, 1, 2, 8]) && Nat.beq len 3
    | .invokespecial x => e_lm o x k [7] && Nat.beq len 3 && !Nat.beq k 901
    | _ => false
  | .invokespecial k => match r with
    | .invokespecial x => (match Nat.beq k 902 with
      | true => e_lx o x 902
      | false => e_lm o x k [5, 6]) && Nat.beq len 3
    | _ => false
  | i => decide (i = r) && Nat.beq len 1
/-- nothing comes behind it -/
def e_end (i : Instr) : Bool := match i with
  | .athrow => true
  | .goto _ => true
  | .ireturn => true
  | .areturn => true
  | .dreturn => true
  | .return_ => true
  | .tableswitch .. => true
  | _ => false
def e_at (o : Nat) (raw : List (Nat × Instr × Nat)) (code : List Instr) (j : Nat) : Bool := match raw[j]?, code[j]? with
  | some q, some i => e_rel o raw q.1 q.2.2 q.2.1 i && (e_end i || Nat.beq (n_pc raw (j + 1)) (q.1 + q.2.2))
  | _, _ => false
def e_dec (b : ByteArray) (q : Nat × Instr × Nat) : Bool := decide (decode b q.1 = .ok (q.2.1, q.2.2))
def e_m (k : Nat) : Bool := Nat.beq (z_raw k).length (z_code k).length && (List.range (z_code k).length).all (e_at (z_ow k) (z_raw k) (z_code k))
def e_d (k : Nat) : Bool := (z_raw k).all (e_dec (z_b k))
end
section
/-! The test of 05.read, run by the kernel. -/
theorem e_split {α : Type} {p : α → Bool} {l : List α} (n : Nat) (h1 : (l.take n).all p = true) (h2 : (l.drop n).all p = true) : l.all p = true := by
  rw [← List.take_append_drop n l, List.all_append, h1, h2]; rfl
set_option maxRecDepth 100000 in
theorem e_m_0 : (List.range' 0 60).all e_m = true := by decide +kernel
set_option maxRecDepth 100000 in
theorem e_m_60 : (List.range' 60 60).all e_m = true := by decide +kernel
set_option maxRecDepth 100000 in
theorem e_m_120 : (List.range' 120 40).all e_m = true := by decide +kernel
set_option maxRecDepth 100000 in
theorem e_m_160 : (List.range' 160 29).all e_m = true := by decide +kernel
set_option maxRecDepth 100000 in
theorem e_m_189 : (List.range' 189 1).all e_m = true := by decide +kernel
set_option maxRecDepth 100000 in
theorem e_d_0 : (List.range' 0 20).all e_d = true := by decide +kernel
set_option maxRecDepth 100000 in
theorem e_d_20 : (List.range' 20 27).all e_d = true := by decide +kernel
set_option maxRecDepth 100000 in
theorem e_d_47 : (List.range' 47 2).all e_d = true := by decide +kernel
set_option maxRecDepth 100000 in
theorem e_d_49 : (List.range' 49 2).all e_d = true := by decide +kernel
set_option maxRecDepth 100000 in
theorem e_d_51_0 : (((z_raw 51).drop 0).take 157).all (e_dec (z_b 51)) = true := by decide +kernel
set_option maxRecDepth 100000 in
theorem e_d_51_157 : (((z_raw 51).drop 157).take 33).all (e_dec (z_b 51)) = true := by decide +kernel
set_option maxRecDepth 100000 in
theorem e_d_51 : e_d 51 = true := by
  show (z_raw 51).all (e_dec (z_b 51)) = true
  have h157 : ((z_raw 51).drop 157).all (e_dec (z_b 51)) = true := by
    have h := e_d_51_157
    rwa [List.take_of_length_le (Nat.le_of_ble_eq_true (by decide +kernel))] at h
  have h0 : ((z_raw 51).drop 0).all (e_dec (z_b 51)) = true := e_split 157 e_d_51_0 (by rw [List.drop_drop]; exact h157)
  exact h0
set_option maxRecDepth 100000 in
theorem e_d_52_0 : (((z_raw 52).drop 0).take 164).all (e_dec (z_b 52)) = true := by decide +kernel
set_option maxRecDepth 100000 in
theorem e_d_52_164 : (((z_raw 52).drop 164).take 76).all (e_dec (z_b 52)) = true := by decide +kernel
set_option maxRecDepth 100000 in
theorem e_d_52_240 : (((z_raw 52).drop 240).take 58).all (e_dec (z_b 52)) = true := by decide +kernel
set_option maxRecDepth 100000 in
theorem e_d_52_298 : (((z_raw 52).drop 298).take 48).all (e_dec (z_b 52)) = true := by decide +kernel
set_option maxRecDepth 100000 in
theorem e_d_52_346 : (((z_raw 52).drop 346).take 20).all (e_dec (z_b 52)) = true := by decide +kernel
set_option maxRecDepth 100000 in
theorem e_d_52 : e_d 52 = true := by
  show (z_raw 52).all (e_dec (z_b 52)) = true
  have h346 : ((z_raw 52).drop 346).all (e_dec (z_b 52)) = true := by
    have h := e_d_52_346
    rwa [List.take_of_length_le (Nat.le_of_ble_eq_true (by decide +kernel))] at h
  have h298 : ((z_raw 52).drop 298).all (e_dec (z_b 52)) = true := e_split 48 e_d_52_298 (by rw [List.drop_drop]; exact h346)
  have h240 : ((z_raw 52).drop 240).all (e_dec (z_b 52)) = true := e_split 58 e_d_52_240 (by rw [List.drop_drop]; exact h298)
  have h164 : ((z_raw 52).drop 164).all (e_dec (z_b 52)) = true := e_split 76 e_d_52_164 (by rw [List.drop_drop]; exact h240)
  have h0 : ((z_raw 52).drop 0).all (e_dec (z_b 52)) = true := e_split 164 e_d_52_0 (by rw [List.drop_drop]; exact h164)
  exact h0
set_option maxRecDepth 100000 in
theorem e_d_53 : (List.range' 53 18).all e_d = true := by decide +kernel
set_option maxRecDepth 100000 in
theorem e_d_71 : (List.range' 71 13).all e_d = true := by decide +kernel
end
section
/-! The test of 05.read, run by the kernel. -/
set_option maxRecDepth 100000 in
theorem e_d_84 : (List.range' 84 9).all e_d = true := by decide +kernel
set_option maxRecDepth 100000 in
theorem e_d_93 : (List.range' 93 12).all e_d = true := by decide +kernel
set_option maxRecDepth 100000 in
theorem e_d_105 : (List.range' 105 13).all e_d = true := by decide +kernel
set_option maxRecDepth 100000 in
theorem e_d_118 : (List.range' 118 20).all e_d = true := by decide +kernel
set_option maxRecDepth 100000 in
theorem e_d_138 : (List.range' 138 2).all e_d = true := by decide +kernel
set_option maxRecDepth 100000 in
theorem e_d_140_0 : (((z_raw 140).drop 0).take 122).all (e_dec (z_b 140)) = true := by decide +kernel
set_option maxRecDepth 100000 in
theorem e_d_140_122 : (((z_raw 140).drop 122).take 16).all (e_dec (z_b 140)) = true := by decide +kernel
set_option maxRecDepth 100000 in
theorem e_d_140 : e_d 140 = true := by
  show (z_raw 140).all (e_dec (z_b 140)) = true
  have h122 : ((z_raw 140).drop 122).all (e_dec (z_b 140)) = true := by
    have h := e_d_140_122
    rwa [List.take_of_length_le (Nat.le_of_ble_eq_true (by decide +kernel))] at h
  have h0 : ((z_raw 140).drop 0).all (e_dec (z_b 140)) = true := e_split 122 e_d_140_0 (by rw [List.drop_drop]; exact h122)
  exact h0
set_option maxRecDepth 100000 in
theorem e_d_141 : (List.range' 141 9).all e_d = true := by decide +kernel
set_option maxRecDepth 100000 in
theorem e_d_150 : (List.range' 150 11).all e_d = true := by decide +kernel
set_option maxRecDepth 100000 in
theorem e_d_161 : (List.range' 161 12).all e_d = true := by decide +kernel
set_option maxRecDepth 100000 in
theorem e_d_173 : (List.range' 173 14).all e_d = true := by decide +kernel
set_option maxRecDepth 100000 in
theorem e_d_187 : (List.range' 187 2).all e_d = true := by decide +kernel
set_option maxRecDepth 100000 in
theorem e_d_189_0 : (((z_raw 189).drop 0).take 167).all (e_dec (z_b 189)) = true := by decide +kernel
set_option maxRecDepth 100000 in
theorem e_d_189_167 : (((z_raw 189).drop 167).take 75).all (e_dec (z_b 189)) = true := by decide +kernel
end
section
/-! The test of 05.read, run by the kernel. -/
set_option maxRecDepth 100000 in
theorem e_d_189_242 : (((z_raw 189).drop 242).take 57).all (e_dec (z_b 189)) = true := by decide +kernel
set_option maxRecDepth 100000 in
theorem e_d_189_299 : (((z_raw 189).drop 299).take 47).all (e_dec (z_b 189)) = true := by decide +kernel
set_option maxRecDepth 100000 in
theorem e_d_189_346 : (((z_raw 189).drop 346).take 42).all (e_dec (z_b 189)) = true := by decide +kernel
set_option maxRecDepth 100000 in
theorem e_d_189_388 : (((z_raw 189).drop 388).take 38).all (e_dec (z_b 189)) = true := by decide +kernel
set_option maxRecDepth 100000 in
theorem e_d_189_426 : (((z_raw 189).drop 426).take 35).all (e_dec (z_b 189)) = true := by decide +kernel
set_option maxRecDepth 100000 in
theorem e_d_189_461 : (((z_raw 189).drop 461).take 32).all (e_dec (z_b 189)) = true := by decide +kernel
set_option maxRecDepth 100000 in
theorem e_d_189_493 : (((z_raw 189).drop 493).take 30).all (e_dec (z_b 189)) = true := by decide +kernel
set_option maxRecDepth 100000 in
theorem e_d_189_523 : (((z_raw 189).drop 523).take 28).all (e_dec (z_b 189)) = true := by decide +kernel
set_option maxRecDepth 100000 in
theorem e_d_189_551 : (((z_raw 189).drop 551).take 27).all (e_dec (z_b 189)) = true := by decide +kernel
set_option maxRecDepth 100000 in
theorem e_d_189_578 : (((z_raw 189).drop 578).take 26).all (e_dec (z_b 189)) = true := by decide +kernel
set_option maxRecDepth 100000 in
theorem e_d_189_604 : (((z_raw 189).drop 604).take 25).all (e_dec (z_b 189)) = true := by decide +kernel
set_option maxRecDepth 100000 in
theorem e_d_189_629 : (((z_raw 189).drop 629).take 24).all (e_dec (z_b 189)) = true := by decide +kernel
set_option maxRecDepth 100000 in
theorem e_d_189_653 : (((z_raw 189).drop 653).take 23).all (e_dec (z_b 189)) = true := by decide +kernel
set_option maxRecDepth 100000 in
theorem e_d_189_676 : (((z_raw 189).drop 676).take 1).all (e_dec (z_b 189)) = true := by decide +kernel
set_option maxRecDepth 100000 in
theorem e_d_189 : e_d 189 = true := by
  show (z_raw 189).all (e_dec (z_b 189)) = true
  have h676 : ((z_raw 189).drop 676).all (e_dec (z_b 189)) = true := by
    have h := e_d_189_676
    rwa [List.take_of_length_le (Nat.le_of_ble_eq_true (by decide +kernel))] at h
  have h653 : ((z_raw 189).drop 653).all (e_dec (z_b 189)) = true := e_split 23 e_d_189_653 (by rw [List.drop_drop]; exact h676)
  have h629 : ((z_raw 189).drop 629).all (e_dec (z_b 189)) = true := e_split 24 e_d_189_629 (by rw [List.drop_drop]; exact h653)
  have h604 : ((z_raw 189).drop 604).all (e_dec (z_b 189)) = true := e_split 25 e_d_189_604 (by rw [List.drop_drop]; exact h629)
  have h578 : ((z_raw 189).drop 578).all (e_dec (z_b 189)) = true := e_split 26 e_d_189_578 (by rw [List.drop_drop]; exact h604)
  have h551 : ((z_raw 189).drop 551).all (e_dec (z_b 189)) = true := e_split 27 e_d_189_551 (by rw [List.drop_drop]; exact h578)
  have h523 : ((z_raw 189).drop 523).all (e_dec (z_b 189)) = true := e_split 28 e_d_189_523 (by rw [List.drop_drop]; exact h551)
  have h493 : ((z_raw 189).drop 493).all (e_dec (z_b 189)) = true := e_split 30 e_d_189_493 (by rw [List.drop_drop]; exact h523)
  have h461 : ((z_raw 189).drop 461).all (e_dec (z_b 189)) = true := e_split 32 e_d_189_461 (by rw [List.drop_drop]; exact h493)
  have h426 : ((z_raw 189).drop 426).all (e_dec (z_b 189)) = true := e_split 35 e_d_189_426 (by rw [List.drop_drop]; exact h461)
  have h388 : ((z_raw 189).drop 388).all (e_dec (z_b 189)) = true := e_split 38 e_d_189_388 (by rw [List.drop_drop]; exact h426)
  have h346 : ((z_raw 189).drop 346).all (e_dec (z_b 189)) = true := e_split 42 e_d_189_346 (by rw [List.drop_drop]; exact h388)
  have h299 : ((z_raw 189).drop 299).all (e_dec (z_b 189)) = true := e_split 47 e_d_189_299 (by rw [List.drop_drop]; exact h346)
  have h242 : ((z_raw 189).drop 242).all (e_dec (z_b 189)) = true := e_split 57 e_d_189_242 (by rw [List.drop_drop]; exact h299)
  have h167 : ((z_raw 189).drop 167).all (e_dec (z_b 189)) = true := e_split 75 e_d_189_167 (by rw [List.drop_drop]; exact h242)
  have h0 : ((z_raw 189).drop 0).all (e_dec (z_b 189)) = true := e_split 167 e_d_189_0 (by rw [List.drop_drop]; exact h167)
  exact h0
end
section
/-! The test of 05.read holds of every method. -/
theorem e_m_all (k : Nat) (hk : k < 190) : e_m k = true := by
  have h : ∀ a n : Nat, (List.range' a n).all e_m = true → a ≤ k → k < a + n → e_m k = true := fun a n h h1 h2 => List.all_eq_true.mp h k (List.mem_range'.mpr ⟨k - a, by omega, by omega⟩)
  rcases Nat.lt_or_ge k 60 with q | q
  · exact h 0 60 e_m_0 (by omega) (by omega)
  rcases Nat.lt_or_ge k 120 with q | q
  · exact h 60 60 e_m_60 (by omega) (by omega)
  rcases Nat.lt_or_ge k 160 with q | q
  · exact h 120 40 e_m_120 (by omega) (by omega)
  rcases Nat.lt_or_ge k 189 with q | q
  · exact h 160 29 e_m_160 (by omega) (by omega)
  exact h 189 1 e_m_189 (by omega) (by omega)
theorem e_d_all (k : Nat) (hk : k < 190) : e_d k = true := by
  have h : ∀ a n : Nat, (List.range' a n).all e_d = true → a ≤ k → k < a + n → e_d k = true := fun a n h h1 h2 => List.all_eq_true.mp h k (List.mem_range'.mpr ⟨k - a, by omega, by omega⟩)
  rcases Nat.lt_or_ge k 20 with q | q
  · exact h 0 20 e_d_0 (by omega) (by omega)
  rcases Nat.lt_or_ge k 47 with q | q
  · exact h 20 27 e_d_20 (by omega) (by omega)
  rcases Nat.lt_or_ge k 49 with q | q
  · exact h 47 2 e_d_47 (by omega) (by omega)
  rcases Nat.lt_or_ge k 51 with q | q
  · exact h 49 2 e_d_49 (by omega) (by omega)
  rcases Nat.lt_or_ge k 52 with q | q
  · (rw [show k = 51 by omega]; exact e_d_51)
  rcases Nat.lt_or_ge k 53 with q | q
  · (rw [show k = 52 by omega]; exact e_d_52)
  rcases Nat.lt_or_ge k 71 with q | q
  · exact h 53 18 e_d_53 (by omega) (by omega)
  rcases Nat.lt_or_ge k 84 with q | q
  · exact h 71 13 e_d_71 (by omega) (by omega)
  rcases Nat.lt_or_ge k 93 with q | q
  · exact h 84 9 e_d_84 (by omega) (by omega)
  rcases Nat.lt_or_ge k 105 with q | q
  · exact h 93 12 e_d_93 (by omega) (by omega)
  rcases Nat.lt_or_ge k 118 with q | q
  · exact h 105 13 e_d_105 (by omega) (by omega)
  rcases Nat.lt_or_ge k 138 with q | q
  · exact h 118 20 e_d_118 (by omega) (by omega)
  rcases Nat.lt_or_ge k 140 with q | q
  · exact h 138 2 e_d_138 (by omega) (by omega)
  rcases Nat.lt_or_ge k 141 with q | q
  · (rw [show k = 140 by omega]; exact e_d_140)
  rcases Nat.lt_or_ge k 150 with q | q
  · exact h 141 9 e_d_141 (by omega) (by omega)
  rcases Nat.lt_or_ge k 161 with q | q
  · exact h 150 11 e_d_150 (by omega) (by omega)
  rcases Nat.lt_or_ge k 173 with q | q
  · exact h 161 12 e_d_161 (by omega) (by omega)
  rcases Nat.lt_or_ge k 187 with q | q
  · exact h 173 14 e_d_173 (by omega) (by omega)
  rcases Nat.lt_or_ge k 189 with q | q
  · exact h 187 2 e_d_187 (by omega) (by omega)
  (rw [show k = 189 by omega]; exact e_d_189)
end
section
/-! The machine's world, seen through a picture: which cells stand for what. -/
/-- where the run's own cells begin; the machine's addresses; what a reference is; classes and places of fields; classes of rows; the constants' picture -/
abbrev GG : Type := Nat × (Nat → Nat) × (Nat → Option Nat) × va_G × (Nat → ClassId) × PH
def g_sz (G : GG) : Nat := G.1
def g_ad (G : GG) : Nat → Nat := G.2.1
def g_op (G : GG) : Nat → Option Nat := G.2.2.1
def g_D (G : GG) : va_G := G.2.2.2.1
def g_A (G : GG) : Nat → ClassId := G.2.2.2.2.1
def g_c (G : GG) : PH := G.2.2.2.2.2
/-- what may be written -/
def g_F (G : GG) : Nat → Prop := fun q => g_sz G ≤ q
def g_rv (G : GG) (x : Nat) : Value := va_rf (g_op G x)
def g_v (G : GG) (v : Value) : Value := match v with
  | .ref x => g_rv G x
  | v => v
def g_e (G : GG) (h : PH) (a j : Nat) : Value := match p_kR (p_kd h a) with
  | true => g_rv G (p_rm h a j)
  | false => .int (p_im h a j)
def g_f (G : GG) (h : PH) (a j : Nat) : Value := g_v G (f_get (z_ft (100 * p_kd h a + j)) h a j)
/-- what stands at a's address -/
def g_at (G : GG) (h : PH) (a : Nat) (H : Heap) : Prop := match Nat.ble 100 (p_kd h a) with
  | false => t_OB (g_ad G a) ((g_D G).1 (p_kd h a - 1)) (z_nf (p_kd h a)) ((g_D G).2 (p_kd h a - 1)) H (g_f G h a)
  | true => H[g_ad G a]? = some (arrV (g_A G (p_kd h a)) (p_ln h a) (g_e G h a))
def g_same (h h1 : PH) (a : Nat) : Prop := p_kd h1 a = p_kd h a ∧ p_ln h1 a = p_ln h a ∧ (∀ j, p_im h1 a j = p_im h a j) ∧ ∀ j, p_rm h1 a j = p_rm h a j
/-- the kinds of what the run makes -/
def k_new (k : Nat) : Bool := (Nat.ble 1 k && Nat.ble k 15) || Nat.beq k 100 || Nat.beq k 120 || Nat.beq k 300 || Nat.beq k 310 || Nat.beq k 312 || Nat.beq k 313 || Nat.beq k 314 || Nat.beq k 315
/-- the heap is as the picture -/
def Rep (G : GG) (h : PH) (H : Heap) : Prop :=
  H.size + 1000 = g_sz G + p_nx h ∧ 1000 ≤ p_nx h ∧ (∀ a, p_nx h ≤ a → p_kd h a = 0) ∧ (∀ a, 1000 ≤ a → a < p_nx h → p_kd h a ≠ 0 → g_at G h a H) ∧
  (∀ a j, p_kB (p_kd h a) = true → j < p_ln h a → fits .byte (.int (p_im h a j)) = true) ∧ (∀ a, a < 1000 → g_same (g_c G) h a) ∧ ∀ a, 1000 ≤ a → p_kd h a ≠ 0 → k_new (p_kd h a) = true
def GOK (G : GG) : Prop := g_op G 0 = none ∧ (∀ x, x ≠ 0 → x ≠ 70 → g_op G x = some (g_ad G x)) ∧ (∀ a, 1000 ≤ a → g_ad G a + 1000 = g_sz G + a) ∧ p_kd (g_c G) 0 = 0 ∧ p_kd (g_c G) 70 = 0 ∧
  (∀ a b, a < 1000 → b < 1000 → p_kd (g_c G) a = 16 → p_kd (g_c G) b = 16 → g_ad G a = g_ad G b → a = b)
/-- the types of the rows that the run makes -/
def z_ety (k : Nat) : Option FieldType := match k with
  | 100 => some .int
  | 120 => some .byte
  | 300 => some .boolean
  | 310 => some (.object "ClauseDesk$Kind")
  | 312 => some (.object "ClauseDesk$Clause")
  | 313 => some (.object "ClauseDeskLaw$Item")
  | 314 => some (.array .int)
  | 315 => some (.array (.object "ClauseDeskLaw$Item"))
  | _ => none
/-- the types of the constants' rows -/
def z_cty (k : Nat) : FieldType := match p_kI k with
  | true => .int
  | false => match p_kB k with
    | true => .byte
    | false => .object "ClauseDesk$Kind"
/-- the words that go another way into a callee -/
def z_nw : List Cond := [.fieldLinkNest "ClauseDesk$Tokens" 112 "ClauseDesk" "KINDS" "[LClauseDesk$Kind;" "ClauseDesk", .castable "[B" "java/lang/Cloneable"]
/-- what is true of every state: the classes, the constants -/
def EnvG (G : GG) (U : State) : Prop :=
  (∀ k, 1 ≤ k → k ≤ 15 → u_Kn U (z_kn k) (z_T k) (z_nf k) ((g_D G).1 (k - 1)) ((g_D G).2 (k - 1))) ∧
  (∀ k t, z_ety k = some t → ArrOfT U (g_A G k) t ∧ va_RA U (g_A G k) t ∧ (t.isReference = true → ∃ (kA : Class) (comp : ClassId), U.vm.classes[g_A G k]? = some kA ∧ kA.kind = .array comp t ∧ (k ≤ 313 → U.vm.findClass (z_kn (p_el k)) = some comp) ∧ (314 ≤ k → comp = g_A G (p_el k)))) ∧
  (∀ w ∈ z_nw, va_Nw w U) ∧ (∀ q ∈ z_lm, q.2.2.2.1 = 2 ∨ q.2.2.2.1 = 4 ∨ q.2.2.2.1 = 6 → ∃ host, va_Nw (.methodLinkNest (z_cn q.1) q.2.1 (z_y q.2.2.1) host) U) ∧
  (∀ q ∈ z_la, va_Nw (.arrayOver (match z_ety q.2.2.1 with | some t => t | none => .int)) U) ∧
  (∀ q ∈ z_lg, va_Z q.2.2.2.1.1 q.2.2.2.1.2.1 q.2.2.2.1.2.2 (g_rv G q.2.2.1) (g_F G) U U.heap) ∧ (∀ q ∈ z_lgi, va_Z q.2.2.2.1.1 q.2.2.2.1.2.1 q.2.2.2.1.2.2 (.int (Int32.ofInt q.2.2.1)) (g_F G) U U.heap) ∧
  (∀ q ∈ z_lgn, va_Z q.2.2.2.1 q.2.2.2.2.1 q.2.2.2.2.2 (g_rv G q.2.2.1) (g_F G) U U.heap) ∧
  (∀ q ∈ z_ls, vk_R (z_cn q.1) q.2.1 q.2.2.2 (g_ad G q.2.2.1) U) ∧
  (∀ a, a < 1000 → p_kd (g_c G) a = 14 ∨ p_kd (g_c G) a = 16 → va_O (z_kn (p_kd (g_c G) a)) (g_ad G a) (g_F G) U U.heap ∧ ∀ j, j < z_nf (p_kd (g_c G) a) → va_OF (z_T (p_kd (g_c G) a) j).1 (z_T (p_kd (g_c G) a) j).2.1 (z_T (p_kd (g_c G) a) j).2.2.1 (g_f G (g_c G) a j) (g_ad G a) (g_F G) U U.heap) ∧
  (∀ a, a < 1000 → p_kd (g_c G) a ≠ 0 → p_kd (g_c G) a = 14 ∨ p_kd (g_c G) a = 16 ∨ 100 ≤ p_kd (g_c G) a) ∧
  (∀ a, a < 1000 → 100 ≤ p_kd (g_c G) a → va_T (z_cty (p_kd (g_c G) a)) (g_ad G a) (p_ln (g_c G) a) (g_e G (g_c G) a) (g_F G) U U.heap) ∧ g_sz G ≤ U.heap.size ∧ ∀ a, a < 1000 → 100 ≤ p_kd (g_c G) a → k_new (p_kd (g_c G) a) = false
/-- the places of a frame -/
def LOC (G : GG) (ls : List Slot) (lsm : Array Slot) (n : Nat) : Prop := lsm.size = n ∧ lv_wf lsm ∧ ls.length ≤ n ∧ ∀ (i : Nat) (v : Value), ls[i]? = some (.val v) → lsm[i]? = some (.val (g_v G v))
theorem g_rv_or (G : GG) (x : Nat) : g_rv G x = .null ∨ ∃ a, g_rv G x = .ref a := va_rf_or _
theorem g_cat (G : GG) (v : Value) : (g_v G v).category = v.category := by
  cases v <;> try rfl
  rename_i x
  show (g_rv G x).category = 1
  rcases g_rv_or G x with h | ⟨a, h⟩ <;> rw [h] <;> rfl
theorem g_csum (G : GG) (st : List Value) : ((st.map (g_v G)).map fun v => v.category).sum = c_sum st := by
  unfold c_sum
  rw [List.map_map]
  congr 1
  exact List.map_congr_left (fun v _ => g_cat G v)
theorem g_rv0 {G : GG} (hG : GOK G) : g_rv G 0 = .null := by unfold g_rv; rw [hG.1]; rfl
theorem g_rvr {G : GG} (hG : GOK G) {x : Nat} (h0 : x ≠ 0) (h1 : x ≠ 70) : g_rv G x = .ref (g_ad G x) := by unfold g_rv; rw [hG.2.1 x h0 h1]; rfl
theorem Rep.enum {G : GG} {h : PH} {H : Heap} (R : Rep G h H) (a : Nat) (ha : p_kd h a = 16) : a < 1000 := by
  rcases Nat.lt_or_ge a 1000 with q | q
  · exact q
  · have := R.2.2.2.2.2.2 a q (by omega)
    rw [ha] at this
    cases this
theorem Rep.k70 {G : GG} {h : PH} {H : Heap} (hG : GOK G) (R : Rep G h H) {x : Nat} (hk : p_kd h x ≠ 0) : x ≠ 0 ∧ x ≠ 70 := by
  refine ⟨fun e => ?_, fun e => ?_⟩
  · subst e; exact hk ((R.2.2.2.2.2.1 0 (by omega)).1.trans hG.2.2.2.1)
  · subst e; exact hk ((R.2.2.2.2.2.1 70 (by omega)).1.trans hG.2.2.2.2.1)
theorem Rep.rv {G : GG} {h : PH} {H : Heap} (hG : GOK G) (R : Rep G h H) {x : Nat} (hk : p_kd h x ≠ 0) : g_rv G x = .ref (g_ad G x) := g_rvr hG (R.k70 hG hk).1 (R.k70 hG hk).2
theorem Rep.lt {G : GG} {h : PH} {H : Heap} (R : Rep G h H) {x : Nat} (hk : p_kd h x ≠ 0) : x < p_nx h := by
  rcases Nat.lt_or_ge x (p_nx h) with q | q
  · exact q
  · exact absurd (R.2.2.1 x q) hk
theorem Rep.cell {G : GG} {h : PH} {H : Heap} (R : Rep G h H) {x : Nat} (hk : p_kd h x ≠ 0) (hx : 1000 ≤ x) : g_at G h x H := R.2.2.2.1 x hx (R.lt hk) hk
theorem LOC.keep {G : GG} {ls : List Slot} {lsm : Array Slot} {n : Nat} (L : LOC G ls lsm n) (m : List Bool) : LOC G (l_keep m ls) lsm n := by
  have h : ∀ (m : List Bool) (ls : List Slot), (l_keep m ls).length ≤ ls.length ∧ ∀ (i : Nat) (v : Value), (l_keep m ls)[i]? = some (.val v) → ls[i]? = some (.val v) := by
    intro m
    induction m with
    | nil => intro ls; exact ⟨Nat.zero_le _, fun i v h => by simp [l_keep] at h⟩
    | cons b m ih =>
      intro ls
      cases ls with
      | nil => cases b <;> exact ⟨Nat.zero_le _, fun i v h => by simp [l_keep] at h⟩
      | cons x ls =>
        obtain ⟨h1, h2⟩ := ih ls
        cases b
        · refine ⟨by simp [l_keep]; exact h1, fun i v h => ?_⟩
          cases i with
          | zero => simp [l_keep] at h
          | succ i => simp [l_keep] at h ⊢; exact h2 i v h
        · refine ⟨by simp [l_keep]; exact h1, fun i v h => ?_⟩
          cases i with
          | zero => simp [l_keep] at h ⊢; exact h
          | succ i => simp [l_keep] at h ⊢; exact h2 i v h
  exact ⟨L.1, L.2.1, Nat.le_trans (h m ls).1 L.2.2.1, fun i v q => L.2.2.2 i v ((h m ls).2 i v q)⟩
theorem LOC.kl {G : GG} {ls : List Slot} {lsm : Array Slot} {n : Nat} (L : LOC G ls lsm n) (k pc : Nat) : LOC G (l_kl k pc ls) lsm n := by
  unfold l_kl
  generalize z_lv k = t
  induction t with
  | nil => exact L
  | cons q r ih =>
    obtain ⟨a, m⟩ := q
    simp only [l_look]
    cases Nat.beq a pc
    · exact ih
    · exact L.keep m
end
section
/-! A step of the picture is a step of the machine. -/
/-- a frame of method k, at depth d, entered with the picture h0 -/
def KC (G : GG) (k d : Nat) (p : Program) (R : Room) (s : State) (m : MethodId) (args : Array Value) (meth : Method) (c : Code) (h0 : PH) : Prop :=
  p.tables.exec = Jvm.exec ∧ c.code = z_b k ∧ meth.locks = false ∧ c.maxLocals = z_ml k ∧ s.vm.findClass (z_cn (z_ow k)) = some m.cls ∧ (∀ w ∈ w_g, w.before args s = true) ∧ EnvG G s ∧ (z_ini k = true → meth.name = "<init>") ∧ d + 1 ≤ R.frames ∧ 60 * (d + 1) ≤ R.locals ∧ k < 190
/-- from the next place the machine goes on to Z: then from this one too -/
def STEP (G : GG) (l : Launch) (k pc : Nat) (ls : List Slot) (st : List Value) (h : PH) (pc1 : Nat) (ls1 : List Slot) (st1 : List Value) (h1 : PH) : Prop :=
  ∀ (d : Nat) (p : Program) (e : Env) (R : Room) (s : State) (m : MethodId) (args : Array Value) (below : List Frame) (meth : Method) (c : Code) (H : Heap) (locs : List Loc) (lsm : Array Slot) (h0 : PH) (Z : State → Prop),
    KC G k d p R s m args meth c h0 → Rep G h H → va_S (g_F G) s.heap H locs → LOC G ls lsm (z_ml k) → p_nx h0 ≤ p_nx h → p_us h0 ≤ p_us h → p_nx h1 - p_nx h0 ≤ R.cells → p_us h1 - p_us h0 ≤ R.slots →
    (∀ (H1 : Heap) (locs1 : List Loc) (lsm1 : Array Slot), Rep G h1 H1 → va_S (g_F G) s.heap H1 locs1 → LOC G ls1 lsm1 (z_ml k) → W p l e R s m args below meth c H1 locs1 (p_nx h1 - p_nx h0) (p_us h1 - p_us h0) Z (F0 m (n_pc (z_raw k) pc1) lsm1 (st1.map (g_v G)))) →
    W p l e R s m args below meth c H locs (p_nx h - p_nx h0) (p_us h - p_us h0) Z (F0 m (n_pc (z_raw k) pc) lsm (st.map (g_v G)))
def retI (v : Option Value) : Instr := match v with
  | none => .return_
  | some (.int _) => .ireturn
  | some (.ref _) => .areturn
  | _ => .dreturn
/-- the run from here, at the machine -/
def MOK (G : GG) (l : Launch) : Wp := fun d k pc ls st h Q => ∃ (v : Option Value) (h2 : PH), Q v h2 ∧ p_nx h ≤ p_nx h2 ∧ p_us h ≤ p_us h2 ∧
  ∀ (p : Program) (e : Env) (R : Room) (s : State) (m : MethodId) (args : Array Value) (below : List Frame) (meth : Method) (c : Code) (H : Heap) (locs : List Loc) (lsm : Array Slot) (h0 : PH) (Z : State → Prop),
    KC G k d p R s m args meth c h0 → Rep G h H → va_S (g_F G) s.heap H locs → LOC G ls lsm (z_ml k) → p_nx h0 ≤ p_nx h → p_us h0 ≤ p_us h → p_nx h2 - p_nx h0 ≤ R.cells → p_us h2 - p_us h0 ≤ R.slots →
    (∀ (H1 : Heap) (locs1 : List Loc) (lsm1 : Array Slot) (pc1 : Nat), Rep G h2 H1 → va_S (g_F G) s.heap H1 locs1 → r_ok (z_nr k) v True → decode (z_b k) pc1 = .ok (retI v, 1) → W p l e R s m args below meth c H1 locs1 (p_nx h2 - p_nx h0) (p_us h2 - p_us h0) Z (F0 m pc1 lsm1 (v.toList.map (g_v G)))) →
    W p l e R s m args below meth c H locs (p_nx h - p_nx h0) (p_us h - p_us h0) Z (F0 m (n_pc (z_raw k) pc) lsm (st.map (g_v G)))
theorem MOK.step {G : GG} {l : Launch} {d k pc : Nat} {ls : List Slot} {st : List Value} {h : PH} {pc1 : Nat} {ls1 : List Slot} {st1 : List Value} {h1 : PH} {Q : Option Value → PH → Prop}
    (K : MOK G l d k pc1 (l_kl k pc1 ls1) st1 h1 Q) (S : STEP G l k pc ls st h pc1 ls1 st1 h1) (hn : p_nx h ≤ p_nx h1) (hu : p_us h ≤ p_us h1) : MOK G l d k pc ls st h Q := by
  obtain ⟨v, h2, hQ, n2, u2, K⟩ := K
  refine ⟨v, h2, hQ, Nat.le_trans hn n2, Nat.le_trans hu u2, ?_⟩
  intro p e R s m args below meth c H locs lsm h0 Z C hR hS hL n0 u0 nc uc hret
  exact S d p e R s m args below meth c H locs lsm h0 Z C hR hS hL n0 u0 (by omega) (by omega) (fun H1 locs1 lsm1 hR1 hS1 hL1 => K p e R s m args below meth c H1 locs1 lsm1 h0 Z C hR1 hS1 (hL1.kl k pc1) (by omega) (by omega) nc uc hret)
/-- what the code shows at a place -/
theorem at_pc {k pc : Nat} {i : Instr} (hk : k < 190) (hi : (z_code k)[pc]? = some i) : ∃ (r : Instr) (len : Nat), decode (z_b k) (n_pc (z_raw k) pc) = .ok (r, len) ∧ e_rel (z_ow k) (z_raw k) (n_pc (z_raw k) pc) len r i = true ∧ (e_end i = true ∨ n_pc (z_raw k) (pc + 1) = n_pc (z_raw k) pc + len) := by
  have hlt : pc < (z_code k).length := (List.getElem?_eq_some_iff.mp hi).1
  have h1 := e_m_all k hk
  simp only [e_m, Bool.and_eq_true] at h1
  obtain ⟨h1, h2⟩ := h1
  have h3 := List.all_eq_true.mp h2 pc (List.mem_range.mpr hlt)
  unfold e_at at h3
  rw [hi] at h3
  cases hq : (z_raw k)[pc]? with
  | none => rw [hq] at h3; cases h3
  | some q =>
    obtain ⟨q1, q2, q3⟩ := q
    rw [hq] at h3
    simp only [Bool.and_eq_true, Bool.or_eq_true] at h3
    have hp : n_pc (z_raw k) pc = q1 := by unfold n_pc; rw [List.getD_eq_getElem?_getD, hq]; rfl
    have h4 := List.all_eq_true.mp (e_d_all k hk) _ (List.mem_of_getElem? hq)
    refine ⟨q2, q3, ?_, ?_, ?_⟩
    · rw [hp]; exact of_decide_eq_true h4
    · rw [hp]; exact h3.1
    · rcases h3.2 with h5 | h5
      · exact Or.inl h5
      · right; rw [hp]; exact Nat.eq_of_beq_eq_true h5
theorem code_at {k pc : Nat} {i : Instr} (h : (z_code k).getD pc .athrow = i) (hi : i ≠ .athrow) : (z_code k)[pc]? = some i := by
  rw [List.getD_eq_getElem?_getD] at h
  cases hq : (z_code k)[pc]? with
  | none => rw [hq] at h; exact absurd h.symm hi
  | some j => rw [hq] at h; rw [← h]; rfl
/-- a plain instruction of one byte -/
theorem at1 {k pc : Nat} {i : Instr} (hk : k < 190) (hi : (z_code k)[pc]? = some i) (he : e_end i = false) (hr : ∀ r len, e_rel (z_ow k) (z_raw k) (n_pc (z_raw k) pc) len r i = true → r = i ∧ len = 1) : decode (z_b k) (n_pc (z_raw k) pc) = .ok (i, 1) ∧ n_pc (z_raw k) (pc + 1) = n_pc (z_raw k) pc + 1 := by
  obtain ⟨r, len, h1, h2, h3⟩ := at_pc hk hi
  obtain ⟨rfl, rfl⟩ := hr r len h2
  exact ⟨h1, h3.resolve_left (by rw [he]; decide)⟩
theorem rel1 {i r : Instr} {len : Nat} (h : (decide (i = r) && Nat.beq len 1) = true) : r = i ∧ len = 1 := by
  simp only [Bool.and_eq_true, decide_eq_true_eq] at h
  exact ⟨h.1.symm, Nat.eq_of_beq_eq_true h.2⟩
theorem t_II_inv {st : List Value} {f : Int32 → Int32 → List Value → Prop} (h : t_II st f) : ∃ x y r, st = .int y :: .int x :: r ∧ f x y r := by
  unfold t_II at h
  split at h
  · exact ⟨_, _, _, rfl, h⟩
  · exact h.elim
theorem t_I_inv {st : List Value} {f : Int32 → List Value → Prop} (h : t_I st f) : ∃ x r, st = .int x :: r ∧ f x r := by
  unfold t_I at h
  split at h
  · exact ⟨_, _, rfl, h⟩
  · exact h.elim
theorem t_L_inv {st : List Value} {f : Int64 → List Value → Prop} (h : t_L st f) : ∃ x r, st = .long x :: r ∧ f x r := by
  unfold t_L at h
  split at h
  · exact ⟨_, _, rfl, h⟩
  · exact h.elim
theorem t_LL_inv {st : List Value} {f : Int64 → Int64 → List Value → Prop} (h : t_LL st f) : ∃ x y r, st = .long y :: .long x :: r ∧ f x y r := by
  unfold t_LL at h
  split at h
  · exact ⟨_, _, _, rfl, h⟩
  · exact h.elim
theorem t_D_inv {st : List Value} {f : UInt64 → List Value → Prop} (h : t_D st f) : ∃ x r, st = .double x :: r ∧ f x r := by
  unfold t_D at h
  split at h
  · exact ⟨_, _, rfl, h⟩
  · exact h.elim
theorem t_DD_inv {st : List Value} {f : UInt64 → UInt64 → List Value → Prop} (h : t_DD st f) : ∃ x y r, st = .double y :: .double x :: r ∧ f x y r := by
  unfold t_DD at h
  split at h
  · exact ⟨_, _, _, rfl, h⟩
  · exact h.elim
theorem t_R_inv {st : List Value} {f : Nat → List Value → Prop} (h : t_R st f) : ∃ x r, st = .ref x :: r ∧ f x r := by
  unfold t_R at h
  split at h
  · exact ⟨_, _, rfl, h⟩
  · exact h.elim
theorem t_RR_inv {st : List Value} {f : Nat → Nat → List Value → Prop} (h : t_RR st f) : ∃ x y r, st = .ref y :: .ref x :: r ∧ f x y r := by
  unfold t_RR at h
  split at h
  · exact ⟨_, _, _, rfl, h⟩
  · exact h.elim
theorem t_RI_inv {st : List Value} {f : Nat → Int32 → List Value → Prop} (h : t_RI st f) : ∃ a j r, st = .int j :: .ref a :: r ∧ f a j r := by
  unfold t_RI at h
  split at h
  · exact ⟨_, _, _, rfl, h⟩
  · exact h.elim
theorem t_RII_inv {st : List Value} {f : Nat → Int32 → Int32 → List Value → Prop} (h : t_RII st f) : ∃ a j v r, st = .int v :: .int j :: .ref a :: r ∧ f a j v r := by
  unfold t_RII at h
  split at h
  · exact ⟨_, _, _, _, rfl, h⟩
  · exact h.elim
theorem t_RIR_inv {st : List Value} {f : Nat → Int32 → Nat → List Value → Prop} (h : t_RIR st f) : ∃ a j v r, st = .ref v :: .int j :: .ref a :: r ∧ f a j v r := by
  unfold t_RIR at h
  split at h
  · exact ⟨_, _, _, _, rfl, h⟩
  · exact h.elim
theorem t_V1_inv {st : List Value} {f : Value → List Value → Prop} (h : t_V1 st f) : ∃ v r, st = v :: r ∧ v.category = 1 ∧ f v r := by
  unfold t_V1 at h
  split at h
  · exact ⟨_, _, rfl, rfl, h⟩
  · exact ⟨_, _, rfl, rfl, h⟩
  · exact h.elim
theorem l_ok_inv {b : Bool} {P : Prop} (h : l_ok b P) : b = true ∧ P := by cases b; exact h.elim; exact ⟨rfl, h⟩
end
section
/-! The instructions that touch neither the heap nor other methods. -/
theorem Cx {G : GG} {k d : Nat} {p : Program} {R : Room} {s : State} {m : MethodId} {args : Array Value} {meth : Method} {c : Code} {h0 : PH} (C : KC G k d p R s m args meth c h0) : k < 190 := C.2.2.2.2.2.2.2.2.2.2
section S2
variable {G : GG} {l : Launch} {k pc : Nat} {ls : List Slot} {r : List Value} {h : PH}
theorem S_iadd {x y : Int32} (hi : (z_code k)[pc]? = some .iadd)  : STEP G l k pc ls (.int y :: .int x :: r) h (pc + 1) ls (.int (x + y) :: r) h := by
  intro d p e R s m args below meth c H locs lsm h0 Z C hR hS hL n0 u0 nc uc kk
  obtain ⟨d1, d2⟩ := at1 (Cx C) hi rfl (fun _ _ => rel1)
  have K := kk H locs lsm hR hS hL
  rw [d2] at K
  exact lv_iadd C.1 C.2.1 d1 K
theorem S_isub {x y : Int32} (hi : (z_code k)[pc]? = some .isub)  : STEP G l k pc ls (.int y :: .int x :: r) h (pc + 1) ls (.int (x - y) :: r) h := by
  intro d p e R s m args below meth c H locs lsm h0 Z C hR hS hL n0 u0 nc uc kk
  obtain ⟨d1, d2⟩ := at1 (Cx C) hi rfl (fun _ _ => rel1)
  have K := kk H locs lsm hR hS hL
  rw [d2] at K
  exact lv_isub C.1 C.2.1 d1 K
theorem S_imul {x y : Int32} (hi : (z_code k)[pc]? = some .imul)  : STEP G l k pc ls (.int y :: .int x :: r) h (pc + 1) ls (.int (x * y) :: r) h := by
  intro d p e R s m args below meth c H locs lsm h0 Z C hR hS hL n0 u0 nc uc kk
  obtain ⟨d1, d2⟩ := at1 (Cx C) hi rfl (fun _ _ => rel1)
  have K := kk H locs lsm hR hS hL
  rw [d2] at K
  exact lv_imul C.1 C.2.1 d1 K
theorem S_iand {x y : Int32} (hi : (z_code k)[pc]? = some .iand)  : STEP G l k pc ls (.int y :: .int x :: r) h (pc + 1) ls (.int (x &&& y) :: r) h := by
  intro d p e R s m args below meth c H locs lsm h0 Z C hR hS hL n0 u0 nc uc kk
  obtain ⟨d1, d2⟩ := at1 (Cx C) hi rfl (fun _ _ => rel1)
  have K := kk H locs lsm hR hS hL
  rw [d2] at K
  exact lv_iand C.1 C.2.1 d1 K
theorem S_ior {x y : Int32} (hi : (z_code k)[pc]? = some .ior)  : STEP G l k pc ls (.int y :: .int x :: r) h (pc + 1) ls (.int (x ||| y) :: r) h := by
  intro d p e R s m args below meth c H locs lsm h0 Z C hR hS hL n0 u0 nc uc kk
  obtain ⟨d1, d2⟩ := at1 (Cx C) hi rfl (fun _ _ => rel1)
  have K := kk H locs lsm hR hS hL
  rw [d2] at K
  exact lv_ior C.1 C.2.1 d1 K
theorem S_ixor {x y : Int32} (hi : (z_code k)[pc]? = some .ixor)  : STEP G l k pc ls (.int y :: .int x :: r) h (pc + 1) ls (.int (x ^^^ y) :: r) h := by
  intro d p e R s m args below meth c H locs lsm h0 Z C hR hS hL n0 u0 nc uc kk
  obtain ⟨d1, d2⟩ := at1 (Cx C) hi rfl (fun _ _ => rel1)
  have K := kk H locs lsm hR hS hL
  rw [d2] at K
  exact lv_ixor C.1 C.2.1 d1 K
theorem S_ishl {x y : Int32} (hi : (z_code k)[pc]? = some .ishl)  : STEP G l k pc ls (.int y :: .int x :: r) h (pc + 1) ls (.int (x <<< (y &&& 31)) :: r) h := by
  intro d p e R s m args below meth c H locs lsm h0 Z C hR hS hL n0 u0 nc uc kk
  obtain ⟨d1, d2⟩ := at1 (Cx C) hi rfl (fun _ _ => rel1)
  have K := kk H locs lsm hR hS hL
  rw [d2] at K
  exact lv_ishl C.1 C.2.1 d1 K
theorem S_ishr {x y : Int32} (hi : (z_code k)[pc]? = some .ishr)  : STEP G l k pc ls (.int y :: .int x :: r) h (pc + 1) ls (.int (x >>> (y &&& 31)) :: r) h := by
  intro d p e R s m args below meth c H locs lsm h0 Z C hR hS hL n0 u0 nc uc kk
  obtain ⟨d1, d2⟩ := at1 (Cx C) hi rfl (fun _ _ => rel1)
  have K := kk H locs lsm hR hS hL
  rw [d2] at K
  exact lv_ishr C.1 C.2.1 d1 K
theorem S_iushr {x y : Int32} (hi : (z_code k)[pc]? = some .iushr)  : STEP G l k pc ls (.int y :: .int x :: r) h (pc + 1) ls (.int ((x.toUInt32 >>> (y.toUInt32 &&& Int32.toUInt32 31)).toInt32) :: r) h := by
  intro d p e R s m args below meth c H locs lsm h0 Z C hR hS hL n0 u0 nc uc kk
  obtain ⟨d1, d2⟩ := at1 (Cx C) hi rfl (fun _ _ => rel1)
  have K := kk H locs lsm hR hS hL
  rw [d2] at K
  exact lv_iushr C.1 C.2.1 d1 rfl K
theorem S_idiv {x y : Int32} (hi : (z_code k)[pc]? = some .idiv) (hne : ¬ y = 0) : STEP G l k pc ls (.int y :: .int x :: r) h (pc + 1) ls (.int (x / y) :: r) h := by
  intro d p e R s m args below meth c H locs lsm h0 Z C hR hS hL n0 u0 nc uc kk
  obtain ⟨d1, d2⟩ := at1 (Cx C) hi rfl (fun _ _ => rel1)
  have K := kk H locs lsm hR hS hL
  rw [d2] at K
  exact lv_idiv C.1 C.2.1 d1 hne K
theorem S_irem {x y : Int32} (hi : (z_code k)[pc]? = some .irem) (hne : ¬ y = 0) : STEP G l k pc ls (.int y :: .int x :: r) h (pc + 1) ls (.int (x - x / y * y) :: r) h := by
  intro d p e R s m args below meth c H locs lsm h0 Z C hR hS hL n0 u0 nc uc kk
  obtain ⟨d1, d2⟩ := at1 (Cx C) hi rfl (fun _ _ => rel1)
  have K := kk H locs lsm hR hS hL
  rw [d2] at K
  exact lv_irem C.1 C.2.1 d1 hne K
theorem S_ineg {x : Int32} (hi : (z_code k)[pc]? = some .ineg)  : STEP G l k pc ls (.int x :: r) h (pc + 1) ls (.int (-x) :: r) h := by
  intro d p e R s m args below meth c H locs lsm h0 Z C hR hS hL n0 u0 nc uc kk
  obtain ⟨d1, d2⟩ := at1 (Cx C) hi rfl (fun _ _ => rel1)
  have K := kk H locs lsm hR hS hL
  rw [d2] at K
  exact lv_ineg C.1 C.2.1 d1 K
theorem S_i2b {x : Int32} (hi : (z_code k)[pc]? = some .i2b)  : STEP G l k pc ls (.int x :: r) h (pc + 1) ls (.int x.toInt8.toInt32 :: r) h := by
  intro d p e R s m args below meth c H locs lsm h0 Z C hR hS hL n0 u0 nc uc kk
  obtain ⟨d1, d2⟩ := at1 (Cx C) hi rfl (fun _ _ => rel1)
  have K := kk H locs lsm hR hS hL
  rw [d2] at K
  exact lv_i2b C.1 C.2.1 d1 rfl K
theorem S_i2c {x : Int32} (hi : (z_code k)[pc]? = some .i2c)  : STEP G l k pc ls (.int x :: r) h (pc + 1) ls (.int (x.toUInt32 % 65536).toInt32 :: r) h := by
  intro d p e R s m args below meth c H locs lsm h0 Z C hR hS hL n0 u0 nc uc kk
  obtain ⟨d1, d2⟩ := at1 (Cx C) hi rfl (fun _ _ => rel1)
  have K := kk H locs lsm hR hS hL
  rw [d2] at K
  exact lv_i2c C.1 C.2.1 d1 rfl K
theorem S_i2l {x : Int32} (hi : (z_code k)[pc]? = some .i2l)  : STEP G l k pc ls (.int x :: r) h (pc + 1) ls (.long x.toInt64 :: r) h := by
  intro d p e R s m args below meth c H locs lsm h0 Z C hR hS hL n0 u0 nc uc kk
  obtain ⟨d1, d2⟩ := at1 (Cx C) hi rfl (fun _ _ => rel1)
  have K := kk H locs lsm hR hS hL
  rw [d2] at K
  exact lv_i2l C.1 C.2.1 d1 rfl K
theorem S_i2d {x : Int32} (hi : (z_code k)[pc]? = some .i2d)  : STEP G l k pc ls (.int x :: r) h (pc + 1) ls (.double (FP.i2d x) :: r) h := by
  intro d p e R s m args below meth c H locs lsm h0 Z C hR hS hL n0 u0 nc uc kk
  obtain ⟨d1, d2⟩ := at1 (Cx C) hi rfl (fun _ _ => rel1)
  have K := kk H locs lsm hR hS hL
  rw [d2] at K
  exact lv_i2d C.1 C.2.1 d1 K
theorem S_l2i {x : Int64} (hi : (z_code k)[pc]? = some .l2i)  : STEP G l k pc ls (.long x :: r) h (pc + 1) ls (.int x.toInt32 :: r) h := by
  intro d p e R s m args below meth c H locs lsm h0 Z C hR hS hL n0 u0 nc uc kk
  obtain ⟨d1, d2⟩ := at1 (Cx C) hi rfl (fun _ _ => rel1)
  have K := kk H locs lsm hR hS hL
  rw [d2] at K
  exact lv_l2i C.1 C.2.1 d1 rfl K
theorem S_lneg {x : Int64} (hi : (z_code k)[pc]? = some .lneg)  : STEP G l k pc ls (.long x :: r) h (pc + 1) ls (.long (-x) :: r) h := by
  intro d p e R s m args below meth c H locs lsm h0 Z C hR hS hL n0 u0 nc uc kk
  obtain ⟨d1, d2⟩ := at1 (Cx C) hi rfl (fun _ _ => rel1)
  have K := kk H locs lsm hR hS hL
  rw [d2] at K
  exact lv_lneg C.1 C.2.1 d1 K
theorem S_ladd {x y : Int64} (hi : (z_code k)[pc]? = some .ladd)  : STEP G l k pc ls (.long y :: .long x :: r) h (pc + 1) ls (.long (x + y) :: r) h := by
  intro d p e R s m args below meth c H locs lsm h0 Z C hR hS hL n0 u0 nc uc kk
  obtain ⟨d1, d2⟩ := at1 (Cx C) hi rfl (fun _ _ => rel1)
  have K := kk H locs lsm hR hS hL
  rw [d2] at K
  exact lv_ladd C.1 C.2.1 d1 K
theorem S_ldiv {x y : Int64} (hi : (z_code k)[pc]? = some .ldiv) (hne : ¬ y = 0) : STEP G l k pc ls (.long y :: .long x :: r) h (pc + 1) ls (.long (x / y) :: r) h := by
  intro d p e R s m args below meth c H locs lsm h0 Z C hR hS hL n0 u0 nc uc kk
  obtain ⟨d1, d2⟩ := at1 (Cx C) hi rfl (fun _ _ => rel1)
  have K := kk H locs lsm hR hS hL
  rw [d2] at K
  exact lv_ldiv C.1 C.2.1 d1 hne K
theorem S_lrem {x y : Int64} (hi : (z_code k)[pc]? = some .lrem) (hne : ¬ y = 0) : STEP G l k pc ls (.long y :: .long x :: r) h (pc + 1) ls (.long (x - x / y * y) :: r) h := by
  intro d p e R s m args below meth c H locs lsm h0 Z C hR hS hL n0 u0 nc uc kk
  obtain ⟨d1, d2⟩ := at1 (Cx C) hi rfl (fun _ _ => rel1)
  have K := kk H locs lsm hR hS hL
  rw [d2] at K
  exact lv_lrem C.1 C.2.1 d1 hne K
theorem S_lcmp {x y : Int64} (hi : (z_code k)[pc]? = some .lcmp)  : STEP G l k pc ls (.long y :: .long x :: r) h (pc + 1) ls (.int (lg_cmp x y) :: r) h := by
  intro d p e R s m args below meth c H locs lsm h0 Z C hR hS hL n0 u0 nc uc kk
  obtain ⟨d1, d2⟩ := at1 (Cx C) hi rfl (fun _ _ => rel1)
  have K := kk H locs lsm hR hS hL
  rw [d2] at K
  exact W.lcmp C.1 C.2.1 d1 K
theorem S_ddiv {x y : UInt64} (hi : (z_code k)[pc]? = some .ddiv) (hne : vf_n64 (FP.ddiv x y)) : STEP G l k pc ls (.double y :: .double x :: r) h (pc + 1) ls (.double (FP.ddiv x y) :: r) h := by
  intro d p e R s m args below meth c H locs lsm h0 Z C hR hS hL n0 u0 nc uc kk
  obtain ⟨d1, d2⟩ := at1 (Cx C) hi rfl (fun _ _ => rel1)
  have K := kk H locs lsm hR hS hL
  rw [d2] at K
  exact lv_ddiv C.1 C.2.1 d1 hne K
theorem S_dcmp {x y : UInt64} {op : Jvm.ClassFile.CmpOp} (hi : (z_code k)[pc]? = some (.dcmp op))  : STEP G l k pc ls (.double y :: .double x :: r) h (pc + 1) ls (.int (Op.cmpValue (FP.dcmp x y) op) :: r) h := by
  intro d p e R s m args below meth c H locs lsm h0 Z C hR hS hL n0 u0 nc uc kk
  obtain ⟨d1, d2⟩ := at1 (Cx C) hi rfl (fun _ _ => rel1)
  have K := kk H locs lsm hR hS hL
  rw [d2] at K
  exact lv_dcmp C.1 C.2.1 d1 K
theorem S_dup {v : Value} (hi : (z_code k)[pc]? = some .dup) (hv : v.category = 1) : STEP G l k pc ls (v :: r) h (pc + 1) ls (v :: v :: r) h := by
  intro d p e R s m args below meth c H locs lsm h0 Z C hR hS hL n0 u0 nc uc kk
  obtain ⟨d1, d2⟩ := at1 (Cx C) hi rfl (fun _ _ => rel1)
  have K := kk H locs lsm hR hS hL
  rw [d2] at K
  exact lv_dup C.1 C.2.1 d1 ((g_cat G v).trans hv) K
theorem S_pop {v : Value} (hi : (z_code k)[pc]? = some .pop) (hv : v.category = 1) : STEP G l k pc ls (v :: r) h (pc + 1) ls (r) h := by
  intro d p e R s m args below meth c H locs lsm h0 Z C hR hS hL n0 u0 nc uc kk
  obtain ⟨d1, d2⟩ := at1 (Cx C) hi rfl (fun _ _ => rel1)
  have K := kk H locs lsm hR hS hL
  rw [d2] at K
  exact lv_pop C.1 C.2.1 d1 ((g_cat G v).trans hv) K
theorem S_dup_x1 {v w : Value} (hi : (z_code k)[pc]? = some .dup_x1) (hv : v.category = 1) (hw : w.category = 1) : STEP G l k pc ls (v :: w :: r) h (pc + 1) ls (v :: w :: v :: r) h := by
  intro d p e R s m args below meth c H locs lsm h0 Z C hR hS hL n0 u0 nc uc kk
  obtain ⟨d1, d2⟩ := at1 (Cx C) hi rfl (fun _ _ => rel1)
  have K := kk H locs lsm hR hS hL
  rw [d2] at K
  exact lv_dup_x1 C.1 C.2.1 d1 ((g_cat G v).trans hv) ((g_cat G w).trans hw) K
theorem S_dup2 {v w : Value} (hi : (z_code k)[pc]? = some .dup2) (hv : v.category = 1) (hw : w.category = 1) : STEP G l k pc ls (v :: w :: r) h (pc + 1) ls (v :: w :: v :: w :: r) h := by
  intro d p e R s m args below meth c H locs lsm h0 Z C hR hS hL n0 u0 nc uc kk
  obtain ⟨d1, d2⟩ := at1 (Cx C) hi rfl (fun _ _ => rel1)
  have K := kk H locs lsm hR hS hL
  rw [d2] at K
  exact lv_dup2_11 C.1 C.2.1 d1 ((g_cat G v).trans hv) ((g_cat G w).trans hw) K
theorem S_null (hG : GOK G) (hi : (z_code k)[pc]? = some .aconst_null) : STEP G l k pc ls r h (pc + 1) ls (.ref 0 :: r) h := by
  intro d p e R s m args below meth c H locs lsm h0 Z C hR hS hL n0 u0 nc uc kk
  obtain ⟨d1, d2⟩ := at1 (Cx C) hi rfl (fun _ _ => rel1)
  have K := kk H locs lsm hR hS hL
  rw [d2] at K
  rw [List.map_cons, show g_v G (.ref 0) = .null from g_rv0 hG] at K
  exact lv_null C.1 C.2.1 d1 K
theorem ld_iload {j len : Nat} {i : Instr} (h : e_ld (.iload j) i len = true) : (i = .iload j ∧ len = 2) ∨ ∃ f : Fin 4, i = .iload_n f ∧ (f : Nat) = j ∧ len = 1 := by
  cases i <;> first
    | exact absurd h (by intro h; cases h)
    | (have h := Bool.and_eq_true_iff.mp h; exact Or.inl ⟨by rw [Nat.eq_of_beq_eq_true h.1], Nat.eq_of_beq_eq_true h.2⟩)
    | (have h := Bool.and_eq_true_iff.mp h; exact Or.inr ⟨_, rfl, Nat.eq_of_beq_eq_true h.1, Nat.eq_of_beq_eq_true h.2⟩)
theorem ld_istore {j len : Nat} {i : Instr} (h : e_ld (.istore j) i len = true) : (i = .istore j ∧ len = 2) ∨ ∃ f : Fin 4, i = .istore_n f ∧ (f : Nat) = j ∧ len = 1 := by
  cases i <;> first
    | exact absurd h (by intro h; cases h)
    | (have h := Bool.and_eq_true_iff.mp h; exact Or.inl ⟨by rw [Nat.eq_of_beq_eq_true h.1], Nat.eq_of_beq_eq_true h.2⟩)
    | (have h := Bool.and_eq_true_iff.mp h; exact Or.inr ⟨_, rfl, Nat.eq_of_beq_eq_true h.1, Nat.eq_of_beq_eq_true h.2⟩)
theorem ld_lload {j len : Nat} {i : Instr} (h : e_ld (.lload j) i len = true) : (i = .lload j ∧ len = 2) ∨ ∃ f : Fin 4, i = .lload_n f ∧ (f : Nat) = j ∧ len = 1 := by
  cases i <;> first
    | exact absurd h (by intro h; cases h)
    | (have h := Bool.and_eq_true_iff.mp h; exact Or.inl ⟨by rw [Nat.eq_of_beq_eq_true h.1], Nat.eq_of_beq_eq_true h.2⟩)
    | (have h := Bool.and_eq_true_iff.mp h; exact Or.inr ⟨_, rfl, Nat.eq_of_beq_eq_true h.1, Nat.eq_of_beq_eq_true h.2⟩)
theorem ld_lstore {j len : Nat} {i : Instr} (h : e_ld (.lstore j) i len = true) : (i = .lstore j ∧ len = 2) ∨ ∃ f : Fin 4, i = .lstore_n f ∧ (f : Nat) = j ∧ len = 1 := by
  cases i <;> first
    | exact absurd h (by intro h; cases h)
    | (have h := Bool.and_eq_true_iff.mp h; exact Or.inl ⟨by rw [Nat.eq_of_beq_eq_true h.1], Nat.eq_of_beq_eq_true h.2⟩)
    | (have h := Bool.and_eq_true_iff.mp h; exact Or.inr ⟨_, rfl, Nat.eq_of_beq_eq_true h.1, Nat.eq_of_beq_eq_true h.2⟩)
theorem ld_aload {j len : Nat} {i : Instr} (h : e_ld (.aload j) i len = true) : (i = .aload j ∧ len = 2) ∨ ∃ f : Fin 4, i = .aload_n f ∧ (f : Nat) = j ∧ len = 1 := by
  cases i <;> first
    | exact absurd h (by intro h; cases h)
    | (have h := Bool.and_eq_true_iff.mp h; exact Or.inl ⟨by rw [Nat.eq_of_beq_eq_true h.1], Nat.eq_of_beq_eq_true h.2⟩)
    | (have h := Bool.and_eq_true_iff.mp h; exact Or.inr ⟨_, rfl, Nat.eq_of_beq_eq_true h.1, Nat.eq_of_beq_eq_true h.2⟩)
theorem ld_astore {j len : Nat} {i : Instr} (h : e_ld (.astore j) i len = true) : (i = .astore j ∧ len = 2) ∨ ∃ f : Fin 4, i = .astore_n f ∧ (f : Nat) = j ∧ len = 1 := by
  cases i <;> first
    | exact absurd h (by intro h; cases h)
    | (have h := Bool.and_eq_true_iff.mp h; exact Or.inl ⟨by rw [Nat.eq_of_beq_eq_true h.1], Nat.eq_of_beq_eq_true h.2⟩)
    | (have h := Bool.and_eq_true_iff.mp h; exact Or.inr ⟨_, rfl, Nat.eq_of_beq_eq_true h.1, Nat.eq_of_beq_eq_true h.2⟩)
theorem S_iload {x : Int32} {j : Nat} (hi : (z_code k)[pc]? = some (.iload j)) (hl : ls[j]? = some (.val (.int x))) : STEP G l k pc ls r h (pc + 1) ls (.int x :: r) h := by
  intro d p e R s m args below meth c H locs lsm h0 Z C hR hS hL n0 u0 nc uc kk
  obtain ⟨q, len, d1, d2, d3⟩ := at_pc (Cx C) hi
  have d3 := d3.resolve_left (by intro h; cases h)
  have K := kk H locs lsm hR hS hL
  have L := hL.2.2.2 j _ hl
  rcases ld_iload (j := j) d2 with ⟨rfl, rfl⟩ | ⟨f, rfl, hf, rfl⟩
  · rw [d3] at K
    exact lv_iload C.1 C.2.1 d1 L K
  · rw [d3] at K
    exact lv_iload_n C.1 C.2.1 d1 hf L K
theorem S_lload {x : Int64} {j : Nat} (hi : (z_code k)[pc]? = some (.lload j)) (hl : ls[j]? = some (.val (.long x))) : STEP G l k pc ls r h (pc + 1) ls (.long x :: r) h := by
  intro d p e R s m args below meth c H locs lsm h0 Z C hR hS hL n0 u0 nc uc kk
  obtain ⟨q, len, d1, d2, d3⟩ := at_pc (Cx C) hi
  have d3 := d3.resolve_left (by intro h; cases h)
  have K := kk H locs lsm hR hS hL
  have L := hL.2.2.2 j _ hl
  rcases ld_lload (j := j) d2 with ⟨rfl, rfl⟩ | ⟨f, rfl, hf, rfl⟩
  · rw [d3] at K
    exact lv_lload C.1 C.2.1 d1 L K
  · rw [d3] at K
    exact lv_lload_n C.1 C.2.1 d1 hf L K
theorem S_aload {x : Nat} {j : Nat} (hi : (z_code k)[pc]? = some (.aload j)) (hl : ls[j]? = some (.val (.ref x))) : STEP G l k pc ls r h (pc + 1) ls (.ref x :: r) h := by
  intro d p e R s m args below meth c H locs lsm h0 Z C hR hS hL n0 u0 nc uc kk
  obtain ⟨q, len, d1, d2, d3⟩ := at_pc (Cx C) hi
  have d3 := d3.resolve_left (by intro h; cases h)
  have K := kk H locs lsm hR hS hL
  have L := hL.2.2.2 j _ hl
  rw [List.map_cons] at K
  rw [show g_v G (.ref x) = g_rv G x from rfl] at K L
  rcases ld_aload (j := j) d2 with ⟨rfl, rfl⟩ | ⟨f, rfl, hf, rfl⟩
  · rw [d3] at K
    rcases g_rv_or G x with q | ⟨a, q⟩
    · rw [q] at K L; exact lv_aloadN C.1 C.2.1 d1 L K
    · rw [q] at K L; exact lv_aload C.1 C.2.1 d1 L K
  · rw [d3] at K
    rcases g_rv_or G x with q | ⟨a, q⟩
    · rw [q] at K L; exact lv_aload_nN C.1 C.2.1 d1 hf L K
    · rw [q] at K L; exact lv_aload_n C.1 C.2.1 d1 hf L K
def lvl (G : GG) (ls : List Slot) : List (Nat × Value) := (List.range ls.length).filterMap (fun i : Nat => match ls[i]? with
  | some (.val v) => some (i, g_v G v)
  | _ => none)
theorem lvl_in {ls : List Slot} {i : Nat} {v : Value} (h : ls[i]? = some (.val v)) : (i, g_v G v) ∈ lvl G ls := by
  refine List.mem_filterMap.mpr ⟨i, List.mem_range.mpr (List.getElem?_eq_some_iff.mp h).1, ?_⟩
  rw [h]
theorem LOC.has {lsm : Array Slot} {n : Nat} (L : LOC G ls lsm n) : lv_has lsm n (lvl G ls) := by
  refine ⟨L.1, L.2.1, fun q hq => ?_⟩
  obtain ⟨i, -, hi⟩ := List.mem_filterMap.mp hq
  split at hi
  next v hv => cases hi; exact L.2.2.2 i v hv
  next => cases hi
theorem LOC.set1 {lsm : Array Slot} {n j : Nat} {v : Value} (hl : ls.length ≤ n) (hj : j < ls.length) (h1 : l_1 ls j = true) (L : lv_has lsm n ((j, g_v G v) :: (lvl G ls).filter (fun q => !(q.1 == j) && !(q.1 + 1 == j && q.2.category == 2)))) : LOC G (l_s1 ls j v) lsm n := by
  refine ⟨L.1, L.2.1, by simpa [l_s1] using hl, fun i w hw => ?_⟩
  unfold l_s1 at hw
  by_cases hij : i = j
  · subst hij
    rw [List.getElem?_set_self hj] at hw
    cases hw
    exact L.2.2 _ List.mem_cons_self
  · rw [List.getElem?_set_ne (Ne.symm hij)] at hw
    refine L.2.2 (i, g_v G w) (List.mem_cons_of_mem _ (List.mem_filter.mpr ⟨lvl_in hw, ?_⟩))
    have hc : ¬ (i + 1 = j ∧ (g_v G w).category = 2) := by
      rintro ⟨rfl, hc⟩
      rw [g_cat] at hc
      simp only [l_1, hw] at h1
      cases w <;> simp_all [Value.category]
    simp only [Bool.and_eq_true, Bool.not_eq_true', beq_eq_false_iff_ne, Bool.and_eq_false_iff]
    refine ⟨hij, ?_⟩
    by_cases z : i + 1 = j
    · exact Or.inr (fun z2 => hc ⟨z, z2⟩)
    · exact Or.inl z
theorem LOC.set2 {lsm : Array Slot} {n j : Nat} {v : Value} (hl : ls.length ≤ n) (hj : j + 1 < ls.length) (h1 : l_1 ls j = true) (L : lv_has lsm n ((j, g_v G v) :: (lvl G ls).filter (fun q => !(q.1 == j) && (!(q.1 == j + 1) && !(q.1 + 1 == j && q.2.category == 2))))) : LOC G (l_s2 ls j v) lsm n := by
  refine ⟨L.1, L.2.1, by simpa [l_s2] using hl, fun i w hw => ?_⟩
  unfold l_s2 at hw
  by_cases hij : i = j + 1
  · subst hij
    rw [List.getElem?_set_self (by simpa using hj)] at hw
    cases hw
  rw [List.getElem?_set_ne (Ne.symm hij)] at hw
  by_cases hij2 : i = j
  · subst hij2
    rw [List.getElem?_set_self (by omega)] at hw
    cases hw
    exact L.2.2 _ List.mem_cons_self
  · rw [List.getElem?_set_ne (Ne.symm hij2)] at hw
    refine L.2.2 (i, g_v G w) (List.mem_cons_of_mem _ (List.mem_filter.mpr ⟨lvl_in hw, ?_⟩))
    have hc : ¬ (i + 1 = j ∧ (g_v G w).category = 2) := by
      rintro ⟨rfl, hc⟩
      rw [g_cat] at hc
      simp only [l_1, hw] at h1
      cases w <;> simp_all [Value.category]
    simp only [Bool.and_eq_true, Bool.not_eq_true', beq_eq_false_iff_ne, Bool.and_eq_false_iff]
    refine ⟨hij2, hij, ?_⟩
    by_cases z : i + 1 = j
    · exact Or.inr (fun z2 => hc ⟨z, z2⟩)
    · exact Or.inl z
theorem S_istore {x : Int32} {j : Nat} (hi : (z_code k)[pc]? = some (.istore j)) (hj : j < ls.length) (h1 : l_1 ls j = true) : STEP G l k pc ls (.int x :: r) h (pc + 1) (l_s1 ls j (.int x)) r h := by
  intro d p e R s m args below meth c H locs lsm h0 Z C hR hS hL n0 u0 nc uc kk
  obtain ⟨q, len, d1, d2, d3⟩ := at_pc (Cx C) hi
  have d3 := d3.resolve_left (by intro h; cases h)
  rcases ld_istore (j := j) d2 with ⟨rfl, rfl⟩ | ⟨f, rfl, hf, rfl⟩
  · refine lv_istore C.1 C.2.1 d1 hL.has (Nat.lt_of_lt_of_le hj hL.2.2.1) rfl (fun lsm1 h2 => ?_)
    have K := kk H locs lsm1 hR hS (LOC.set1 (v := .int x) hL.2.2.1 hj h1 h2)
    rw [d3] at K
    exact K
  · refine lv_istore_n C.1 C.2.1 d1 hf hL.has (Nat.lt_of_lt_of_le hj hL.2.2.1) rfl (fun lsm1 h2 => ?_)
    have K := kk H locs lsm1 hR hS (LOC.set1 (v := .int x) hL.2.2.1 hj h1 h2)
    rw [d3] at K
    exact K
theorem S_lstore {x : Int64} {j : Nat} (hi : (z_code k)[pc]? = some (.lstore j)) (hj : j + 1 < ls.length) (h1 : l_1 ls j = true) : STEP G l k pc ls (.long x :: r) h (pc + 1) (l_s2 ls j (.long x)) r h := by
  intro d p e R s m args below meth c H locs lsm h0 Z C hR hS hL n0 u0 nc uc kk
  obtain ⟨q, len, d1, d2, d3⟩ := at_pc (Cx C) hi
  have d3 := d3.resolve_left (by intro h; cases h)
  rcases ld_lstore (j := j) d2 with ⟨rfl, rfl⟩ | ⟨f, rfl, hf, rfl⟩
  · refine lv_lstore C.1 C.2.1 d1 hL.has (Nat.lt_of_lt_of_le hj hL.2.2.1) rfl (fun lsm1 h2 => ?_)
    have K := kk H locs lsm1 hR hS (LOC.set2 (v := .long x) hL.2.2.1 hj h1 h2)
    rw [d3] at K
    exact K
  · refine lv_lstore_n C.1 C.2.1 d1 hf hL.has (Nat.lt_of_lt_of_le hj hL.2.2.1) rfl (fun lsm1 h2 => ?_)
    have K := kk H locs lsm1 hR hS (LOC.set2 (v := .long x) hL.2.2.1 hj h1 h2)
    rw [d3] at K
    exact K
theorem S_astore {x : Nat} {j : Nat} (hi : (z_code k)[pc]? = some (.astore j)) (hj : j < ls.length) (h1 : l_1 ls j = true) : STEP G l k pc ls (.ref x :: r) h (pc + 1) (l_s1 ls j (.ref x)) r h := by
  intro d p e R s m args below meth c H locs lsm h0 Z C hR hS hL n0 u0 nc uc kk
  obtain ⟨q, len, d1, d2, d3⟩ := at_pc (Cx C) hi
  have d3 := d3.resolve_left (by intro h; cases h)
  have hs : ∀ lsm1, lv_has lsm1 (z_ml k) ((j, g_v G (.ref x)) :: (lvl G ls).filter (fun q => !(q.1 == j) && !(q.1 + 1 == j && q.2.category == 2))) → W p l e R s m args below meth c H locs (p_nx h - p_nx h0) (p_us h - p_us h0) Z (F0 m (n_pc (z_raw k) pc + len) lsm1 (r.map (g_v G))) := by
    intro lsm1 h2
    have K := kk H locs lsm1 hR hS (LOC.set1 (v := .ref x) hL.2.2.1 hj h1 h2)
    rw [d3] at K
    exact K
  rw [List.map_cons]
  rw [show g_v G (.ref x) = g_rv G x from rfl] at hs ⊢
  rcases ld_astore (j := j) d2 with ⟨rfl, rfl⟩ | ⟨f, rfl, hf, rfl⟩
  · rcases g_rv_or G x with q | ⟨a, q⟩
    · rw [q] at hs ⊢; exact lv_astoreN C.1 C.2.1 d1 hL.has (Nat.lt_of_lt_of_le hj hL.2.2.1) rfl hs
    · rw [q] at hs ⊢; exact lv_astore C.1 C.2.1 d1 hL.has (Nat.lt_of_lt_of_le hj hL.2.2.1) rfl hs
  · rcases g_rv_or G x with q | ⟨a, q⟩
    · rw [q] at hs ⊢; exact lv_astore_nN C.1 C.2.1 d1 hf hL.has (Nat.lt_of_lt_of_le hj hL.2.2.1) rfl hs
    · rw [q] at hs ⊢; exact lv_astore_n C.1 C.2.1 d1 hf hL.has (Nat.lt_of_lt_of_le hj hL.2.2.1) rfl hs
theorem S_iinc {x : Int32} {j : Nat} {n : Int} (hi : (z_code k)[pc]? = some (.iinc j n)) (hl : ls[j]? = some (.val (.int x))) (h1 : l_1 ls j = true) : STEP G l k pc ls r h (pc + 1) (l_s1 ls j (.int (x + Int32.ofInt n))) r h := by
  intro d p e R s m args below meth c H locs lsm h0 Z C hR hS hL n0 u0 nc uc kk
  obtain ⟨q, len, d1, d2, d3⟩ := at_pc (Cx C) hi
  have d4 := d3.resolve_left (by intro h; cases h)
  have hj : j < ls.length := (List.getElem?_eq_some_iff.mp hl).1
  cases q <;> first
    | exact absurd d2 (by intro h; cases h)
    | skip
  rename_i j2 n2
  simp only [e_rel, Bool.and_eq_true, decide_eq_true_eq] at d2
  obtain ⟨⟨e1, rfl⟩, e3⟩ := d2
  have e1 := Nat.eq_of_beq_eq_true e1
  have e3 := Nat.eq_of_beq_eq_true e3
  subst e1; subst e3
  obtain ⟨kx, hk⟩ := List.getElem?_of_mem (lvl_in (G := G) hl)
  refine lv_iinc C.1 C.2.1 d1 hL.has hk rfl (Nat.lt_of_lt_of_le hj hL.2.2.1) rfl (fun lsm1 h2 => ?_)
  have K := kk H locs lsm1 hR hS (LOC.set1 (v := .int (x + Int32.ofInt n2)) hL.2.2.1 hj h1 h2)
  rw [d4] at K
  exact K
end S2
end
section
/-! Branches. -/
theorem jt_inv {raw : List (Nat × Instr × Nat)} {pc : Nat} {off t : Int} (h : e_jt raw pc off t = true) : (pc : Int) + off = ((n_pc raw t.toNat : Nat) : Int) := by
  simp only [e_jt, Bool.and_eq_true, decide_eq_true_eq] at h
  exact h.2
section S3
variable {G : GG} {l : Launch} {k pc : Nat} {ls : List Slot} {r : List Value} {h : PH}
theorem at_if {c : Jvm.ClassFile.Cond} {t : Int} (hk : k < 190) (hi : (z_code k)[pc]? = some (.ifCond c t)) : ∃ off : Int, decode (z_b k) (n_pc (z_raw k) pc) = .ok (.ifCond c off, 3) ∧ ((n_pc (z_raw k) pc : Nat) : Int) + off = ((n_pc (z_raw k) t.toNat : Nat) : Int) ∧ n_pc (z_raw k) (pc + 1) = n_pc (z_raw k) pc + 3 := by
  obtain ⟨q, len, d1, d2, d3⟩ := at_pc hk hi
  have d3 := d3.resolve_left (by intro h; cases h)
  cases q <;> first
    | exact absurd d2 (by intro h; cases h)
    | skip
  rename_i c1 off
  simp only [e_rel, Bool.and_eq_true, decide_eq_true_eq] at d2
  obtain ⟨⟨rfl, e2⟩, e3⟩ := d2
  have e3 := Nat.eq_of_beq_eq_true e3
  subst e3
  exact ⟨off, d1, jt_inv e2, d3⟩
theorem at_ic {c : Jvm.ClassFile.Cond} {t : Int} (hk : k < 190) (hi : (z_code k)[pc]? = some (.if_icmp c t)) : ∃ off : Int, decode (z_b k) (n_pc (z_raw k) pc) = .ok (.if_icmp c off, 3) ∧ ((n_pc (z_raw k) pc : Nat) : Int) + off = ((n_pc (z_raw k) t.toNat : Nat) : Int) ∧ n_pc (z_raw k) (pc + 1) = n_pc (z_raw k) pc + 3 := by
  obtain ⟨q, len, d1, d2, d3⟩ := at_pc hk hi
  have d3 := d3.resolve_left (by intro h; cases h)
  cases q <;> first
    | exact absurd d2 (by intro h; cases h)
    | skip
  rename_i c1 off
  simp only [e_rel, Bool.and_eq_true, decide_eq_true_eq] at d2
  obtain ⟨⟨rfl, e2⟩, e3⟩ := d2
  have e3 := Nat.eq_of_beq_eq_true e3
  subst e3
  exact ⟨off, d1, jt_inv e2, d3⟩
theorem at_ac {c : Jvm.ClassFile.ACond} {t : Int} (hk : k < 190) (hi : (z_code k)[pc]? = some (.if_acmp c t)) : ∃ off : Int, decode (z_b k) (n_pc (z_raw k) pc) = .ok (.if_acmp c off, 3) ∧ ((n_pc (z_raw k) pc : Nat) : Int) + off = ((n_pc (z_raw k) t.toNat : Nat) : Int) ∧ n_pc (z_raw k) (pc + 1) = n_pc (z_raw k) pc + 3 := by
  obtain ⟨q, len, d1, d2, d3⟩ := at_pc hk hi
  have d3 := d3.resolve_left (by intro h; cases h)
  cases q <;> first
    | exact absurd d2 (by intro h; cases h)
    | skip
  rename_i c1 off
  simp only [e_rel, Bool.and_eq_true, decide_eq_true_eq] at d2
  obtain ⟨⟨rfl, e2⟩, e3⟩ := d2
  have e3 := Nat.eq_of_beq_eq_true e3
  subst e3
  exact ⟨off, d1, jt_inv e2, d3⟩
theorem at_ifnull {t : Int} (hk : k < 190) (hi : (z_code k)[pc]? = some (.ifnull t)) : ∃ off : Int, decode (z_b k) (n_pc (z_raw k) pc) = .ok (.ifnull off, 3) ∧ ((n_pc (z_raw k) pc : Nat) : Int) + off = ((n_pc (z_raw k) t.toNat : Nat) : Int) ∧ n_pc (z_raw k) (pc + 1) = n_pc (z_raw k) pc + 3 := by
  obtain ⟨q, len, d1, d2, d3⟩ := at_pc hk hi
  cases q <;> first
    | exact absurd d2 (by intro h; cases h)
    | skip
  rename_i off
  simp only [e_rel, Bool.and_eq_true, decide_eq_true_eq] at d2
  obtain ⟨e2, e3⟩ := d2
  have e3 := Nat.eq_of_beq_eq_true e3
  subst e3
  exact ⟨off, d1, jt_inv e2, d3.resolve_left (by intro h; cases h)⟩
theorem at_ifnonnull {t : Int} (hk : k < 190) (hi : (z_code k)[pc]? = some (.ifnonnull t)) : ∃ off : Int, decode (z_b k) (n_pc (z_raw k) pc) = .ok (.ifnonnull off, 3) ∧ ((n_pc (z_raw k) pc : Nat) : Int) + off = ((n_pc (z_raw k) t.toNat : Nat) : Int) ∧ n_pc (z_raw k) (pc + 1) = n_pc (z_raw k) pc + 3 := by
  obtain ⟨q, len, d1, d2, d3⟩ := at_pc hk hi
  cases q <;> first
    | exact absurd d2 (by intro h; cases h)
    | skip
  rename_i off
  simp only [e_rel, Bool.and_eq_true, decide_eq_true_eq] at d2
  obtain ⟨e2, e3⟩ := d2
  have e3 := Nat.eq_of_beq_eq_true e3
  subst e3
  exact ⟨off, d1, jt_inv e2, d3.resolve_left (by intro h; cases h)⟩
theorem at_goto {t : Int} (hk : k < 190) (hi : (z_code k)[pc]? = some (.goto t)) : ∃ off : Int, decode (z_b k) (n_pc (z_raw k) pc) = .ok (.goto off, 3) ∧ ((n_pc (z_raw k) pc : Nat) : Int) + off = ((n_pc (z_raw k) t.toNat : Nat) : Int) := by
  obtain ⟨q, len, d1, d2, d3⟩ := at_pc hk hi
  cases q <;> first
    | exact absurd d2 (by intro h; cases h)
    | skip
  rename_i off
  simp only [e_rel, Bool.and_eq_true, decide_eq_true_eq] at d2
  obtain ⟨e2, e3⟩ := d2
  have e3 := Nat.eq_of_beq_eq_true e3
  subst e3
  exact ⟨off, d1, jt_inv e2⟩
theorem S_if_eq_j {x : Int32} {t : Int} (hi : (z_code k)[pc]? = some (.ifCond .eq t)) (hc : x = 0) : STEP G l k pc ls (.int x :: r) h t.toNat ls r h := by
  intro d p e R s m args below meth c H locs lsm h0 Z C hR hS hL n0 u0 nc uc kk
  obtain ⟨off, d1, d2, d3⟩ := at_if (Cx C) hi
  have K := kk H locs lsm hR hS hL
  exact lv_if_eq C.1 C.2.1 d1 d2 (fun q => K) (fun q => absurd hc q)
theorem S_if_eq_n {x : Int32} {t : Int} (hi : (z_code k)[pc]? = some (.ifCond .eq t)) (hc : ¬ x = 0) : STEP G l k pc ls (.int x :: r) h (pc + 1) ls r h := by
  intro d p e R s m args below meth c H locs lsm h0 Z C hR hS hL n0 u0 nc uc kk
  obtain ⟨off, d1, d2, d3⟩ := at_if (Cx C) hi
  have K := kk H locs lsm hR hS hL
  rw [d3] at K
  exact lv_if_eq C.1 C.2.1 d1 d2 (fun q => absurd q hc) (fun q => K)
theorem S_if_ne_j {x : Int32} {t : Int} (hi : (z_code k)[pc]? = some (.ifCond .ne t)) (hc : ¬ x = 0) : STEP G l k pc ls (.int x :: r) h t.toNat ls r h := by
  intro d p e R s m args below meth c H locs lsm h0 Z C hR hS hL n0 u0 nc uc kk
  obtain ⟨off, d1, d2, d3⟩ := at_if (Cx C) hi
  have K := kk H locs lsm hR hS hL
  exact lv_if_ne C.1 C.2.1 d1 d2 (fun q => K) (fun q => absurd q hc)
theorem S_if_ne_n {x : Int32} {t : Int} (hi : (z_code k)[pc]? = some (.ifCond .ne t)) (hc : x = 0) : STEP G l k pc ls (.int x :: r) h (pc + 1) ls r h := by
  intro d p e R s m args below meth c H locs lsm h0 Z C hR hS hL n0 u0 nc uc kk
  obtain ⟨off, d1, d2, d3⟩ := at_if (Cx C) hi
  have K := kk H locs lsm hR hS hL
  rw [d3] at K
  exact lv_if_ne C.1 C.2.1 d1 d2 (fun q => absurd hc q) (fun q => K)
theorem S_if_lt_j {x : Int32} {t : Int} (hi : (z_code k)[pc]? = some (.ifCond .lt t)) (hc : x < 0) : STEP G l k pc ls (.int x :: r) h t.toNat ls r h := by
  intro d p e R s m args below meth c H locs lsm h0 Z C hR hS hL n0 u0 nc uc kk
  obtain ⟨off, d1, d2, d3⟩ := at_if (Cx C) hi
  have K := kk H locs lsm hR hS hL
  exact lv_if_lt C.1 C.2.1 d1 d2 (fun q => K) (fun q => absurd hc q)
theorem S_if_lt_n {x : Int32} {t : Int} (hi : (z_code k)[pc]? = some (.ifCond .lt t)) (hc : ¬ x < 0) : STEP G l k pc ls (.int x :: r) h (pc + 1) ls r h := by
  intro d p e R s m args below meth c H locs lsm h0 Z C hR hS hL n0 u0 nc uc kk
  obtain ⟨off, d1, d2, d3⟩ := at_if (Cx C) hi
  have K := kk H locs lsm hR hS hL
  rw [d3] at K
  exact lv_if_lt C.1 C.2.1 d1 d2 (fun q => absurd q hc) (fun q => K)
theorem S_if_ge_j {x : Int32} {t : Int} (hi : (z_code k)[pc]? = some (.ifCond .ge t)) (hc : ¬ x < 0) : STEP G l k pc ls (.int x :: r) h t.toNat ls r h := by
  intro d p e R s m args below meth c H locs lsm h0 Z C hR hS hL n0 u0 nc uc kk
  obtain ⟨off, d1, d2, d3⟩ := at_if (Cx C) hi
  have K := kk H locs lsm hR hS hL
  exact lv_if_ge C.1 C.2.1 d1 d2 (fun q => K) (fun q => absurd (Int32.not_lt.mp hc) q)
theorem S_if_ge_n {x : Int32} {t : Int} (hi : (z_code k)[pc]? = some (.ifCond .ge t)) (hc : x < 0) : STEP G l k pc ls (.int x :: r) h (pc + 1) ls r h := by
  intro d p e R s m args below meth c H locs lsm h0 Z C hR hS hL n0 u0 nc uc kk
  obtain ⟨off, d1, d2, d3⟩ := at_if (Cx C) hi
  have K := kk H locs lsm hR hS hL
  rw [d3] at K
  exact lv_if_ge C.1 C.2.1 d1 d2 (fun q => absurd hc (Int32.not_lt.mpr q)) (fun q => K)
theorem S_if_gt_j {x : Int32} {t : Int} (hi : (z_code k)[pc]? = some (.ifCond .gt t)) (hc : 0 < x) : STEP G l k pc ls (.int x :: r) h t.toNat ls r h := by
  intro d p e R s m args below meth c H locs lsm h0 Z C hR hS hL n0 u0 nc uc kk
  obtain ⟨off, d1, d2, d3⟩ := at_if (Cx C) hi
  have K := kk H locs lsm hR hS hL
  exact lv_if_gt C.1 C.2.1 d1 d2 (fun q => K) (fun q => absurd hc q)
theorem S_if_gt_n {x : Int32} {t : Int} (hi : (z_code k)[pc]? = some (.ifCond .gt t)) (hc : ¬ 0 < x) : STEP G l k pc ls (.int x :: r) h (pc + 1) ls r h := by
  intro d p e R s m args below meth c H locs lsm h0 Z C hR hS hL n0 u0 nc uc kk
  obtain ⟨off, d1, d2, d3⟩ := at_if (Cx C) hi
  have K := kk H locs lsm hR hS hL
  rw [d3] at K
  exact lv_if_gt C.1 C.2.1 d1 d2 (fun q => absurd q hc) (fun q => K)
theorem S_if_le_j {x : Int32} {t : Int} (hi : (z_code k)[pc]? = some (.ifCond .le t)) (hc : ¬ 0 < x) : STEP G l k pc ls (.int x :: r) h t.toNat ls r h := by
  intro d p e R s m args below meth c H locs lsm h0 Z C hR hS hL n0 u0 nc uc kk
  obtain ⟨off, d1, d2, d3⟩ := at_if (Cx C) hi
  have K := kk H locs lsm hR hS hL
  exact lv_if_le C.1 C.2.1 d1 d2 (fun q => K) (fun q => absurd (Int32.not_lt.mp hc) q)
theorem S_if_le_n {x : Int32} {t : Int} (hi : (z_code k)[pc]? = some (.ifCond .le t)) (hc : 0 < x) : STEP G l k pc ls (.int x :: r) h (pc + 1) ls r h := by
  intro d p e R s m args below meth c H locs lsm h0 Z C hR hS hL n0 u0 nc uc kk
  obtain ⟨off, d1, d2, d3⟩ := at_if (Cx C) hi
  have K := kk H locs lsm hR hS hL
  rw [d3] at K
  exact lv_if_le C.1 C.2.1 d1 d2 (fun q => absurd hc (Int32.not_lt.mpr q)) (fun q => K)
theorem S_ic_eq_j {x y : Int32} {t : Int} (hi : (z_code k)[pc]? = some (.if_icmp .eq t)) (hc : x = y) : STEP G l k pc ls (.int y :: .int x :: r) h t.toNat ls r h := by
  intro d p e R s m args below meth c H locs lsm h0 Z C hR hS hL n0 u0 nc uc kk
  obtain ⟨off, d1, d2, d3⟩ := at_ic (Cx C) hi
  have K := kk H locs lsm hR hS hL
  exact lv_icmp_eq C.1 C.2.1 d1 d2 (fun q => K) (fun q => absurd hc q)
theorem S_ic_eq_n {x y : Int32} {t : Int} (hi : (z_code k)[pc]? = some (.if_icmp .eq t)) (hc : ¬ x = y) : STEP G l k pc ls (.int y :: .int x :: r) h (pc + 1) ls r h := by
  intro d p e R s m args below meth c H locs lsm h0 Z C hR hS hL n0 u0 nc uc kk
  obtain ⟨off, d1, d2, d3⟩ := at_ic (Cx C) hi
  have K := kk H locs lsm hR hS hL
  rw [d3] at K
  exact lv_icmp_eq C.1 C.2.1 d1 d2 (fun q => absurd q hc) (fun q => K)
theorem S_ic_ne_j {x y : Int32} {t : Int} (hi : (z_code k)[pc]? = some (.if_icmp .ne t)) (hc : ¬ x = y) : STEP G l k pc ls (.int y :: .int x :: r) h t.toNat ls r h := by
  intro d p e R s m args below meth c H locs lsm h0 Z C hR hS hL n0 u0 nc uc kk
  obtain ⟨off, d1, d2, d3⟩ := at_ic (Cx C) hi
  have K := kk H locs lsm hR hS hL
  exact lv_icmp_ne C.1 C.2.1 d1 d2 (fun q => K) (fun q => absurd q hc)
theorem S_ic_ne_n {x y : Int32} {t : Int} (hi : (z_code k)[pc]? = some (.if_icmp .ne t)) (hc : x = y) : STEP G l k pc ls (.int y :: .int x :: r) h (pc + 1) ls r h := by
  intro d p e R s m args below meth c H locs lsm h0 Z C hR hS hL n0 u0 nc uc kk
  obtain ⟨off, d1, d2, d3⟩ := at_ic (Cx C) hi
  have K := kk H locs lsm hR hS hL
  rw [d3] at K
  exact lv_icmp_ne C.1 C.2.1 d1 d2 (fun q => absurd hc q) (fun q => K)
theorem S_ic_lt_j {x y : Int32} {t : Int} (hi : (z_code k)[pc]? = some (.if_icmp .lt t)) (hc : x < y) : STEP G l k pc ls (.int y :: .int x :: r) h t.toNat ls r h := by
  intro d p e R s m args below meth c H locs lsm h0 Z C hR hS hL n0 u0 nc uc kk
  obtain ⟨off, d1, d2, d3⟩ := at_ic (Cx C) hi
  have K := kk H locs lsm hR hS hL
  exact lv_icmp_lt C.1 C.2.1 d1 d2 (fun q => K) (fun q => absurd hc q)
theorem S_ic_lt_n {x y : Int32} {t : Int} (hi : (z_code k)[pc]? = some (.if_icmp .lt t)) (hc : ¬ x < y) : STEP G l k pc ls (.int y :: .int x :: r) h (pc + 1) ls r h := by
  intro d p e R s m args below meth c H locs lsm h0 Z C hR hS hL n0 u0 nc uc kk
  obtain ⟨off, d1, d2, d3⟩ := at_ic (Cx C) hi
  have K := kk H locs lsm hR hS hL
  rw [d3] at K
  exact lv_icmp_lt C.1 C.2.1 d1 d2 (fun q => absurd q hc) (fun q => K)
theorem S_ic_ge_j {x y : Int32} {t : Int} (hi : (z_code k)[pc]? = some (.if_icmp .ge t)) (hc : ¬ x < y) : STEP G l k pc ls (.int y :: .int x :: r) h t.toNat ls r h := by
  intro d p e R s m args below meth c H locs lsm h0 Z C hR hS hL n0 u0 nc uc kk
  obtain ⟨off, d1, d2, d3⟩ := at_ic (Cx C) hi
  have K := kk H locs lsm hR hS hL
  exact lv_icmp_ge C.1 C.2.1 d1 d2 (fun q => K) (fun q => absurd (Int32.not_lt.mp hc) q)
theorem S_ic_ge_n {x y : Int32} {t : Int} (hi : (z_code k)[pc]? = some (.if_icmp .ge t)) (hc : x < y) : STEP G l k pc ls (.int y :: .int x :: r) h (pc + 1) ls r h := by
  intro d p e R s m args below meth c H locs lsm h0 Z C hR hS hL n0 u0 nc uc kk
  obtain ⟨off, d1, d2, d3⟩ := at_ic (Cx C) hi
  have K := kk H locs lsm hR hS hL
  rw [d3] at K
  exact lv_icmp_ge C.1 C.2.1 d1 d2 (fun q => absurd hc (Int32.not_lt.mpr q)) (fun q => K)
theorem S_ic_gt_j {x y : Int32} {t : Int} (hi : (z_code k)[pc]? = some (.if_icmp .gt t)) (hc : y < x) : STEP G l k pc ls (.int y :: .int x :: r) h t.toNat ls r h := by
  intro d p e R s m args below meth c H locs lsm h0 Z C hR hS hL n0 u0 nc uc kk
  obtain ⟨off, d1, d2, d3⟩ := at_ic (Cx C) hi
  have K := kk H locs lsm hR hS hL
  exact lv_icmp_gt C.1 C.2.1 d1 d2 (fun q => K) (fun q => absurd hc q)
theorem S_ic_gt_n {x y : Int32} {t : Int} (hi : (z_code k)[pc]? = some (.if_icmp .gt t)) (hc : ¬ y < x) : STEP G l k pc ls (.int y :: .int x :: r) h (pc + 1) ls r h := by
  intro d p e R s m args below meth c H locs lsm h0 Z C hR hS hL n0 u0 nc uc kk
  obtain ⟨off, d1, d2, d3⟩ := at_ic (Cx C) hi
  have K := kk H locs lsm hR hS hL
  rw [d3] at K
  exact lv_icmp_gt C.1 C.2.1 d1 d2 (fun q => absurd q hc) (fun q => K)
theorem S_ic_le_j {x y : Int32} {t : Int} (hi : (z_code k)[pc]? = some (.if_icmp .le t)) (hc : ¬ y < x) : STEP G l k pc ls (.int y :: .int x :: r) h t.toNat ls r h := by
  intro d p e R s m args below meth c H locs lsm h0 Z C hR hS hL n0 u0 nc uc kk
  obtain ⟨off, d1, d2, d3⟩ := at_ic (Cx C) hi
  have K := kk H locs lsm hR hS hL
  exact lv_icmp_le C.1 C.2.1 d1 d2 (fun q => K) (fun q => absurd (Int32.not_lt.mp hc) q)
theorem S_ic_le_n {x y : Int32} {t : Int} (hi : (z_code k)[pc]? = some (.if_icmp .le t)) (hc : y < x) : STEP G l k pc ls (.int y :: .int x :: r) h (pc + 1) ls r h := by
  intro d p e R s m args below meth c H locs lsm h0 Z C hR hS hL n0 u0 nc uc kk
  obtain ⟨off, d1, d2, d3⟩ := at_ic (Cx C) hi
  have K := kk H locs lsm hR hS hL
  rw [d3] at K
  exact lv_icmp_le C.1 C.2.1 d1 d2 (fun q => absurd hc (Int32.not_lt.mpr q)) (fun q => K)
theorem S_goto {t : Int} (hi : (z_code k)[pc]? = some (.goto t)) : STEP G l k pc ls r h t.toNat ls r h := by
  intro d p e R s m args below meth c H locs lsm h0 Z C hR hS hL n0 u0 nc uc kk
  obtain ⟨off, d1, d2⟩ := at_goto (Cx C) hi
  exact lv_goto C.1 C.2.1 d1 d2 (kk H locs lsm hR hS hL)
theorem g_op_eq (hG : GOK G) {H : Heap} (R : Rep G h H) {x y : Nat} (hx : x = 0 ∨ p_kd h x = 16) (hy : y = 0 ∨ p_kd h y = 16) (henum : ∀ a, p_kd h a = 16 → a < 1000) : g_op G x = g_op G y ↔ x = y := by
  constructor
  · intro q
    rcases hx with rfl | hx <;> rcases hy with rfl | hy
    · rfl
    · have := R.k70 hG (x := y) (by omega)
      rw [hG.1, hG.2.1 y this.1 this.2] at q; cases q
    · have := R.k70 hG (x := x) (by omega)
      rw [hG.1, hG.2.1 x this.1 this.2] at q; cases q
    · have h1 := R.k70 hG (x := x) (by omega)
      have h2 := R.k70 hG (x := y) (by omega)
      rw [hG.2.1 y h2.1 h2.2, hG.2.1 x h1.1 h1.2] at q
      have hx1 := henum x hx
      have hy1 := henum y hy
      exact hG.2.2.2.2.2 x y hx1 hy1 ((R.2.2.2.2.2.1 x hx1).1.symm.trans hx) ((R.2.2.2.2.2.1 y hy1).1.symm.trans hy) (Option.some.inj q)
  · rintro rfl; rfl
theorem S_ac_eq_j (hG : GOK G) {x y : Nat} {t : Int} (hi : (z_code k)[pc]? = some (.if_acmp .eq t)) (hx : x = 0 ∨ p_kd h x = 16) (hy : y = 0 ∨ p_kd h y = 16) (hc : x = y) : STEP G l k pc ls (.ref y :: .ref x :: r) h t.toNat ls r h := by
  intro d p e R s m args below meth c H locs lsm h0 Z C hR hS hL n0 u0 nc uc kk
  obtain ⟨off, d1, d2, d3⟩ := at_ac (Cx C) hi
  have K := kk H locs lsm hR hS hL
  have E := g_op_eq hG hR hx hy hR.enum
  exact lv_acmp_eq C.1 C.2.1 d1 d2 (fun q => K) (fun q => absurd (E.mpr hc) q)
theorem S_ac_eq_n (hG : GOK G) {x y : Nat} {t : Int} (hi : (z_code k)[pc]? = some (.if_acmp .eq t)) (hx : x = 0 ∨ p_kd h x = 16) (hy : y = 0 ∨ p_kd h y = 16) (hc : ¬ x = y) : STEP G l k pc ls (.ref y :: .ref x :: r) h (pc + 1) ls r h := by
  intro d p e R s m args below meth c H locs lsm h0 Z C hR hS hL n0 u0 nc uc kk
  obtain ⟨off, d1, d2, d3⟩ := at_ac (Cx C) hi
  have K := kk H locs lsm hR hS hL
  have E := g_op_eq hG hR hx hy hR.enum
  rw [d3] at K
  exact lv_acmp_eq C.1 C.2.1 d1 d2 (fun q => absurd (E.mp q) hc) (fun q => K)
theorem S_ac_ne_j (hG : GOK G) {x y : Nat} {t : Int} (hi : (z_code k)[pc]? = some (.if_acmp .ne t)) (hx : x = 0 ∨ p_kd h x = 16) (hy : y = 0 ∨ p_kd h y = 16) (hc : ¬ x = y) : STEP G l k pc ls (.ref y :: .ref x :: r) h t.toNat ls r h := by
  intro d p e R s m args below meth c H locs lsm h0 Z C hR hS hL n0 u0 nc uc kk
  obtain ⟨off, d1, d2, d3⟩ := at_ac (Cx C) hi
  have K := kk H locs lsm hR hS hL
  have E := g_op_eq hG hR hx hy hR.enum
  exact lv_acmp_ne C.1 C.2.1 d1 d2 (fun q => K) (fun q => absurd (E.mp q) hc)
theorem S_ac_ne_n (hG : GOK G) {x y : Nat} {t : Int} (hi : (z_code k)[pc]? = some (.if_acmp .ne t)) (hx : x = 0 ∨ p_kd h x = 16) (hy : y = 0 ∨ p_kd h y = 16) (hc : x = y) : STEP G l k pc ls (.ref y :: .ref x :: r) h (pc + 1) ls r h := by
  intro d p e R s m args below meth c H locs lsm h0 Z C hR hS hL n0 u0 nc uc kk
  obtain ⟨off, d1, d2, d3⟩ := at_ac (Cx C) hi
  have K := kk H locs lsm hR hS hL
  have E := g_op_eq hG hR hx hy hR.enum
  rw [d3] at K
  exact lv_acmp_ne C.1 C.2.1 d1 d2 (fun q => absurd (E.mpr hc) q) (fun q => K)
theorem S_ifnull_z (hG : GOK G) {t : Int} (hi : (z_code k)[pc]? = some (.ifnull t)) : STEP G l k pc ls (.ref 0 :: r) h t.toNat ls r h := by
  intro d p e R s m args below meth c H locs lsm h0 Z C hR hS hL n0 u0 nc uc kk
  obtain ⟨off, d1, d2, d3⟩ := at_ifnull (Cx C) hi
  have K := kk H locs lsm hR hS hL
  rw [List.map_cons, show g_v G (.ref 0) = .null from g_rv0 hG]
  exact lv_ifnullN C.1 C.2.1 d1 d2 K
theorem S_ifnull_r (hG : GOK G) {x : Nat} (hx : ¬ p_kd h x = 0) {t : Int} (hi : (z_code k)[pc]? = some (.ifnull t)) : STEP G l k pc ls (.ref x :: r) h (pc + 1) ls r h := by
  intro d p e R s m args below meth c H locs lsm h0 Z C hR hS hL n0 u0 nc uc kk
  obtain ⟨off, d1, d2, d3⟩ := at_ifnull (Cx C) hi
  have K := kk H locs lsm hR hS hL
  rw [d3] at K
  rw [List.map_cons, show g_v G (.ref x) = .ref (g_ad G x) from hR.rv hG hx]
  exact lv_ifnull C.1 C.2.1 d1 K
theorem S_ifnonnull_z (hG : GOK G) {t : Int} (hi : (z_code k)[pc]? = some (.ifnonnull t)) : STEP G l k pc ls (.ref 0 :: r) h (pc + 1) ls r h := by
  intro d p e R s m args below meth c H locs lsm h0 Z C hR hS hL n0 u0 nc uc kk
  obtain ⟨off, d1, d2, d3⟩ := at_ifnonnull (Cx C) hi
  have K := kk H locs lsm hR hS hL
  rw [d3] at K
  rw [List.map_cons, show g_v G (.ref 0) = .null from g_rv0 hG]
  exact lv_ifnonnullN C.1 C.2.1 d1 K
theorem S_ifnonnull_r (hG : GOK G) {x : Nat} (hx : ¬ p_kd h x = 0) {t : Int} (hi : (z_code k)[pc]? = some (.ifnonnull t)) : STEP G l k pc ls (.ref x :: r) h t.toNat ls r h := by
  intro d p e R s m args below meth c H locs lsm h0 Z C hR hS hL n0 u0 nc uc kk
  obtain ⟨off, d1, d2, d3⟩ := at_ifnonnull (Cx C) hi
  have K := kk H locs lsm hR hS hL
  rw [List.map_cons, show g_v G (.ref x) = .ref (g_ad G x) from hR.rv hG hx]
  exact lv_ifnonnull C.1 C.2.1 d1 d2 K
end S3
end
section
/-- the places of the words that lay out the classes -/
def z_lp : List (List Nat) := [[484, 486, 488, 490, 492, 494, 496, 498, 500, 502, 504, 506, 508, 510], [292, 294, 296, 298, 300, 302, 304, 306, 308, 310, 312, 314], [251, 253, 255, 257, 259, 261], [139, 141, 143, 145, 147, 149, 151], [167, 169, 171], [218, 220, 222, 224, 226, 228, 230, 232, 234, 236, 238], [443, 445, 447, 449, 451, 453, 455, 457, 459, 461], [334, 336, 338, 340], [359, 361, 363, 365, 367, 369, 371, 373], [414, 416, 418, 420, 422, 424, 426], [392, 394], [1397, 1399, 1401, 1403, 1405, 1407, 1409, 1411, 1413, 1415, 1417, 1419, 1421, 1423, 1425, 1427, 1429, 1431, 1433, 1435, 1437, 1439, 1441, 1443, 1445, 1447, 1449, 1451], [1372, 1374, 1376, 1378], [1610, 1612], [1668, 1670, 1672, 1674, 1676]]
end
section
/-! Objects: fields read and written, objects made. -/
def z_fok (k j : Nat) : Bool := match z_ft (100 * k + j) with
  | 0 => (match parseFieldDescriptor (z_T k j).2.2.1 with
    | some (.object _) => true
    | some (.array _) => true
    | _ => false)
  | 1 => decide (parseFieldDescriptor (z_T k j).2.2.1 = some .int)
  | _ => decide (parseFieldDescriptor (z_T k j).2.2.1 = some .boolean) || decide (parseFieldDescriptor (z_T k j).2.2.1 = some .byte)
def lf_chk (q : Nat × Nat × Nat × Nat) : Bool := decide (w_all[q.2.2.2]? = some (Cond.fieldLink (z_cn q.1) q.2.1 (z_T (q.2.2.1 / 100) (q.2.2.1 % 100)).1 (z_T (q.2.2.1 / 100) (q.2.2.1 % 100)).2.1 (z_T (q.2.2.1 / 100) (q.2.2.1 % 100)).2.2.1)) && Nat.ble 1 (q.2.2.1 / 100) && Nat.ble (q.2.2.1 / 100) 16 && Nat.blt (q.2.2.1 % 100) (z_nf (q.2.2.1 / 100))
set_option maxRecDepth 100000 in
theorem lf_all : z_lf.all lf_chk = true := by decide +kernel
set_option maxRecDepth 100000 in
theorem fok_all : (List.range' 1 15).all (fun k => (List.range (z_nf k)).all (z_fok k)) = true := by decide +kernel
set_option maxRecDepth 100000 in
theorem nm_all : (List.range' 1 15).all (fun k => (List.range (z_nf k)).all (fun a => (List.range (z_nf k)).all (fun b => Nat.beq a b || !decide ((z_T k a).2.1 = (z_T k b).2.1)))) = true := by decide +kernel
def lp_chk (k : Nat) : Bool := Nat.beq (z_lp.getD (k - 1) []).length (z_nf k) && (List.range (z_nf k)).all (fun j => decide (w_all[(z_lp.getD (k - 1) []).getD j 0]? = some (u_lay (z_kn k) (z_T k) j)) && goodWord (u_lay (z_kn k) (z_T k) j))
set_option maxRecDepth 100000 in
theorem lp_all : (List.range' 1 15).all lp_chk = true := by decide +kernel
def fin_chk (k : Nat) : Bool := (z_code k).all (fun i => match i with
  | .putfield n => !(z_T (n / 100) (n % 100)).2.2.2 || (z_ini k && decide (z_cn (z_ow k) = (z_T (n / 100) (n % 100)).1))
  | _ => true)
set_option maxRecDepth 100000 in
theorem fin_all : (List.range 190).all fin_chk = true := by decide +kernel
theorem lays_in {k : Nat} (h1 : 1 ≤ k) (h2 : k ≤ 15) : ∀ w ∈ u_ws (z_kn k) (z_T k) (z_nf k), w ∈ w_g := by
  intro w hw
  have h := List.all_eq_true.mp lp_all k (List.mem_range'.mpr ⟨k - 1, by omega, by omega⟩)
  simp only [lp_chk, Bool.and_eq_true] at h
  obtain ⟨j, hj, rfl⟩ := List.mem_map.mp hw
  have h3 := List.all_eq_true.mp h.2 j hj
  simp only [Bool.and_eq_true, decide_eq_true_eq] at h3
  exact w_at h3.1 h3.2
theorem z_ty {k j : Nat} (h1 : 1 ≤ k) (h2 : k ≤ 15) (hj : j < z_nf k) : z_fok k j = true := by
  have h := List.all_eq_true.mp fok_all k (List.mem_range'.mpr ⟨k - 1, by omega, by omega⟩)
  exact List.all_eq_true.mp h j (List.mem_range.mpr hj)
theorem z_some {k j : Nat} (h : z_fok k j = true) : ∃ t, parseFieldDescriptor (z_T k j).2.2.1 = some t := by
  unfold z_fok at h
  cases hp : parseFieldDescriptor (z_T k j).2.2.1 with
  | some t => exact ⟨t, rfl⟩
  | none =>
    rw [hp] at h
    split at h
    · cases h
    · simp at h
    · simp at h
theorem z_names {k a b : Nat} (h1 : 1 ≤ k) (h2 : k ≤ 15) (ha : a < z_nf k) (hb : b < z_nf k) (hne : a ≠ b) : (z_T k a).2.1 ≠ (z_T k b).2.1 := by
  have h := List.all_eq_true.mp nm_all k (List.mem_range'.mpr ⟨k - 1, by omega, by omega⟩)
  have h := List.all_eq_true.mp (List.all_eq_true.mp h a (List.mem_range.mpr ha)) b (List.mem_range.mpr hb)
  simp only [Bool.or_eq_true, Bool.not_eq_true', decide_eq_false_iff_not] at h
  rcases h with h | h
  · exact absurd (Nat.eq_of_beq_eq_true h) hne
  · exact h
theorem g_at.kept {G : GG} {h h1 : PH} {H H1 : Heap} {b : Nat} (hk : p_kd h1 b = p_kd h b) (hl : p_ln h1 b = p_ln h b) (hi : ∀ j, p_im h1 b j = p_im h b j) (hr : ∀ j, p_rm h1 b j = p_rm h b j) (hq : H1[g_ad G b]? = H[g_ad G b]?) (A : g_at G h b H) : g_at G h1 b H1 := by
  have e0 : ∀ t j, f_get t h1 b j = f_get t h b j := by
    intro t j
    unfold f_get
    split
    · rw [hr]
    · rw [hi]
  have e1 : g_f G h1 b = g_f G h b := by
    funext j
    unfold g_f
    rw [hk, e0]
  have e2 : g_e G h1 b = g_e G h b := by
    funext j
    unfold g_e
    rw [hk, hr, hi]
  unfold g_at at A ⊢
  rw [hk, hl, e1, e2]
  cases hb : Nat.ble 100 (p_kd h b)
  · rw [hb] at A; exact A.kept hq
  · rw [hb] at A; exact hq.trans A
theorem g_ad_ne {G : GG} (hG : GOK G) {a b : Nat} (ha : 1000 ≤ a) (hb : 1000 ≤ b) (hne : b ≠ a) : g_ad G b ≠ g_ad G a := by
  have h1 := hG.2.2.1 a ha
  have h2 := hG.2.2.1 b hb
  omega
/-- one object or row of the run's own has changed -/
theorem Rep.put {G : GG} (hG : GOK G) {h h1 : PH} {H H1 : Heap} {a : Nat} (R : Rep G h H) (ha : 1000 ≤ a) (hn : p_nx h1 = p_nx h) (hk : p_kd h1 = p_kd h) (hl : p_ln h1 = p_ln h) (ho : ∀ b, b ≠ a → (∀ j, p_im h1 b j = p_im h b j) ∧ ∀ j, p_rm h1 b j = p_rm h b j)
    (hz : H1.size = H.size) (oq : ∀ q, q ≠ g_ad G a → H1[q]? = H[q]?) (hc : g_at G h1 a H1) (hb : p_kB (p_kd h a) = true → ∀ j, j < p_ln h a → fits .byte (.int (p_im h1 a j)) = true) : Rep G h1 H1 := by
  obtain ⟨r1, r2, r3, r4, r5, r6, r7⟩ := R
  refine ⟨by rw [hz, hn]; exact r1, by rw [hn]; exact r2, fun b hb => by rw [hk]; exact r3 b (by rw [← hn]; exact hb), fun b h1 h2 h3 => ?_, fun b j h1 h2 => ?_, fun b hb => ?_, fun b hb hb1 => by rw [hk] at hb1 ⊢; exact r7 b hb hb1⟩
  · by_cases hba : b = a
    · subst hba; exact hc
    · rw [hn] at h2
      rw [hk] at h3
      exact (r4 b h1 h2 h3).kept (by rw [hk]) (by rw [hl]) (ho b hba).1 (ho b hba).2 (oq _ (g_ad_ne hG ha h1 hba))
  · rw [hk] at h1
    rw [hl] at h2
    by_cases hba : b = a
    · subst hba; exact hb h1 j h2
    · rw [(ho b hba).1 j]; exact r5 b j h1 h2
  · obtain ⟨s1, s2, s3, s4⟩ := r6 b hb
    have hba : b ≠ a := by omega
    exact ⟨by rw [hk]; exact s1, by rw [hl]; exact s2, fun j => by rw [(ho b hba).1 j]; exact s3 j, fun j => by rw [(ho b hba).2 j]; exact s4 j⟩
/-- one more -/
theorem Rep.push {G : GG} (hG : GOK G) {h h1 : PH} {H H1 : Heap} (R : Rep G h H) (hn : p_nx h1 = p_nx h + 1) (ho : ∀ b, b ≠ p_nx h → p_kd h1 b = p_kd h b ∧ p_ln h1 b = p_ln h b ∧ (∀ j, p_im h1 b j = p_im h b j) ∧ ∀ j, p_rm h1 b j = p_rm h b j)
    (hz : H1.size = H.size + 1) (oq : ∀ q, q < H.size → H1[q]? = H[q]?) (hc : g_at G h1 (p_nx h) H1) (hb : p_kB (p_kd h1 (p_nx h)) = true → ∀ j, j < p_ln h1 (p_nx h) → fits .byte (.int (p_im h1 (p_nx h) j)) = true) (he : k_new (p_kd h1 (p_nx h)) = true) : Rep G h1 H1 := by
  obtain ⟨r1, r2, r3, r4, r5, r6, r7⟩ := R
  refine ⟨by omega, by omega, fun b hb => ?_, fun b h1 h2 h3 => ?_, fun b j h1 h2 => ?_, fun b hb => ?_, fun b hb hb1 => ?_⟩
  · rw [(ho b (by omega)).1]; exact r3 b (by omega)
  · by_cases hba : b = p_nx h
    · subst hba; exact hc
    · obtain ⟨o1, o2, o3, o4⟩ := ho b hba
      rw [o1] at h3
      have had := hG.2.2.1 b h1
      exact (r4 b h1 (by omega) h3).kept o1 o2 o3 o4 (oq _ (by omega))
  · by_cases hba : b = p_nx h
    · subst hba; exact hb h1 j h2
    · obtain ⟨o1, o2, o3, o4⟩ := ho b hba
      rw [o1] at h1
      rw [o2] at h2
      rw [o3]; exact r5 b j h1 h2
  · obtain ⟨s1, s2, s3, s4⟩ := r6 b hb
    obtain ⟨o1, o2, o3, o4⟩ := ho b (by omega)
    exact ⟨o1.trans s1, o2.trans s2, fun j => (o3 j).trans (s3 j), fun j => (o4 j).trans (s4 j)⟩
  · by_cases hba : b = p_nx h
    · subst hba; exact he
    · rw [(ho b hba).1] at hb1 ⊢; exact r7 b hb hb1
theorem va_S.more {A : Nat → Prop} {H0 H H1 : Heap} {locs : List Loc} (h : va_S A H0 H locs) (z : H.size ≤ H1.size) (oq : ∀ q, q < H.size → H1[q]? = H[q]?) : va_S A H0 H1 locs :=
  ⟨Nat.le_trans h.1 z, fun q h1 h2 => (oq q (Nat.lt_of_lt_of_le h1 h.1)).trans (h.2.1 q h1 h2), h.2.2⟩
theorem g_free {G : GG} (hG : GOK G) {a : Nat} (ha : 1000 ≤ a) : g_F G (g_ad G a) := by
  have := hG.2.2.1 a ha
  show g_sz G ≤ _
  omega
theorem lf_use {o x n : Nat} (h : z_lf.any (fun q => Nat.beq q.1 o && Nat.beq q.2.1 x && Nat.beq q.2.2.1 n) = true) : Cond.fieldLink (z_cn o) x (z_T (n / 100) (n % 100)).1 (z_T (n / 100) (n % 100)).2.1 (z_T (n / 100) (n % 100)).2.2.1 ∈ w_g ∧ 1 ≤ n / 100 ∧ n / 100 ≤ 16 ∧ n % 100 < z_nf (n / 100) := by
  obtain ⟨q, hq, h1⟩ := List.any_eq_true.mp h
  simp only [Bool.and_eq_true] at h1
  obtain ⟨⟨e1, e2⟩, e3⟩ := h1
  have e1 := Nat.eq_of_beq_eq_true e1
  have e2 := Nat.eq_of_beq_eq_true e2
  have e3 := Nat.eq_of_beq_eq_true e3
  have h2 := List.all_eq_true.mp lf_all q hq
  simp only [lf_chk, Bool.and_eq_true, decide_eq_true_eq] at h2
  obtain ⟨⟨⟨a1, a2⟩, a3⟩, a4⟩ := h2
  rw [e1, e2, e3] at a1
  rw [e3] at a2 a3 a4
  exact ⟨w_at a1 rfl, Nat.le_of_ble_eq_true a2, Nat.le_of_ble_eq_true a3, Nat.le_of_ble_eq_true (n := n % 100 + 1) a4⟩
section S4
variable {G : GG} {l : Launch} {k pc : Nat} {ls : List Slot} {r : List Value} {h : PH}
theorem at_getf {n : Nat} (hk : k < 190) (hi : (z_code k)[pc]? = some (.getfield n)) : ∃ x, decode (z_b k) (n_pc (z_raw k) pc) = .ok (.getfield x, 3) ∧ z_lf.any (fun q => Nat.beq q.1 (z_ow k) && Nat.beq q.2.1 x && Nat.beq q.2.2.1 n) = true ∧ n_pc (z_raw k) (pc + 1) = n_pc (z_raw k) pc + 3 := by
  obtain ⟨q, len, d1, d2, d3⟩ := at_pc hk hi
  have d3 := d3.resolve_left (by intro h; cases h)
  cases q <;> first
    | exact absurd d2 (by intro h; cases h)
    | skip
  rename_i x
  have d2 := Bool.and_eq_true_iff.mp d2
  have e3 := Nat.eq_of_beq_eq_true d2.2
  subst e3
  exact ⟨x, d1, d2.1, d3⟩
theorem at_putf {n : Nat} (hk : k < 190) (hi : (z_code k)[pc]? = some (.putfield n)) : ∃ x, decode (z_b k) (n_pc (z_raw k) pc) = .ok (.putfield x, 3) ∧ z_lf.any (fun q => Nat.beq q.1 (z_ow k) && Nat.beq q.2.1 x && Nat.beq q.2.2.1 n) = true ∧ n_pc (z_raw k) (pc + 1) = n_pc (z_raw k) pc + 3 := by
  obtain ⟨q, len, d1, d2, d3⟩ := at_pc hk hi
  have d3 := d3.resolve_left (by intro h; cases h)
  cases q <;> first
    | exact absurd d2 (by intro h; cases h)
    | skip
  rename_i x
  have d2 := Bool.and_eq_true_iff.mp d2
  have e3 := Nat.eq_of_beq_eq_true d2.2
  subst e3
  exact ⟨x, d1, d2.1, d3⟩
theorem S_getfield (hG : GOK G) {n x : Nat} (hi : (z_code k)[pc]? = some (.getfield n)) (hx : p_kd h x = n / 100) (h0 : ¬ x = 0) : STEP G l k pc ls (.ref x :: r) h (pc + 1) ls (f_get (z_ft n) h x (n % 100) :: r) h := by
  intro d p e R s m args below meth c H locs lsm h0 Z C hR hS hL n0 u0 nc uc kk
  obtain ⟨ix, d1, d2, d3⟩ := at_getf (Cx C) hi
  obtain ⟨w1, w2, w3, w4⟩ := lf_use d2
  have K := kk H locs lsm hR hS hL
  rw [d3] at K
  obtain ⟨C1, C2, C3, C4, C5, C6, E, C8, C9⟩ := C
  have hkd : p_kd h x ≠ 0 := by omega
  have hn : 100 * (n / 100) + n % 100 = n := Nat.div_add_mod n 100
  rw [List.map_cons, show g_v G (.ref x) = g_rv G x from rfl, hR.rv hG hkd]
  rw [List.map_cons] at K
  rcases Nat.lt_or_ge x 1000 with hlt | hge
  · obtain ⟨s1, s2, s3, s4⟩ := hR.2.2.2.2.2.1 x hlt
    obtain ⟨-, -, -, -, -, -, -, -, -, E10, E11, -⟩ := E
    have hkc : p_kd (g_c G) x = n / 100 := by rw [← s1]; exact hx
    have h14 := (E11 x hlt (by omega)).imp_right (fun q => q.resolve_right (by omega))
    have hE := (E10 x hlt h14).2 (n % 100) (by rw [hkc]; exact w4)
    rw [hkc] at hE
    refine vk_getf C1 C2 hE hS C5 (C6 _ w1) (fun _ q => q) d1 ?_
    have e1 : g_f G (g_c G) x (n % 100) = g_v G (f_get (z_ft n) h x (n % 100)) := by
      unfold g_f
      rw [hkc, hn]
      congr 1
      unfold f_get
      split
      · rw [s4]
      · rw [s3]
    rw [e1]
    exact K
  · have h16 : n / 100 ≠ 16 := fun q => absurd (hR.enum x (by rw [hx]; exact q)) (by omega)
    have A := hR.cell hkd hge
    unfold g_at at A
    have hb : Nat.ble 100 (p_kd h x) = false := by
      rw [hx]
      cases hz : Nat.ble 100 (n / 100)
      · rfl
      · have := Nat.le_of_ble_eq_true hz; omega
    rw [hb, hx] at A
    obtain ⟨cell, q1, q2, q3, q4⟩ := A
    obtain ⟨hS1, hfc, kC, hkC, hkind⟩ := E.1 (n / 100) w2 (by omega)
    obtain ⟨cf, kf, fi, f, hif, hsl⟩ := hS1 (n % 100) w4
    refine W.getf C1 C2 C5 (C6 _ w1) hif (u_facts hfc hkC (u_lays C6 (lays_in w2 (by omega)) w4) hif).1 q1 (by rw [q3]; exact fun h => by cases h) (v := g_v G (f_get (z_ft n) h x (n % 100))) ?_ rfl rfl d1 K
    rw [hsl, q4 _ w4]
    unfold g_f
    rw [hx, hn]
end S4
theorem z_apart {G : GG} {s : State} {args : Array Value} (hts : ∀ w ∈ w_g, w.before args s = true) (E : EnvG G s) {k : Nat} (h1 : 1 ≤ k) (h2 : k ≤ 15) : ∀ a b, a < z_nf k → b < z_nf k → a ≠ b → (g_D G).2 (k - 1) a ≠ (g_D G).2 (k - 1) b := by
  intro a b ha hb hne
  obtain ⟨hS, -⟩ := E.1 k h1 (by omega)
  obtain ⟨_, _, _, fa, hia, ea⟩ := hS a ha
  obtain ⟨_, _, _, fb, hib, eb⟩ := hS b hb
  rw [← ea, ← eb]
  obtain ⟨ta, pa⟩ := z_some (z_ty h1 h2 ha)
  obtain ⟨tb, pb⟩ := z_some (z_ty h1 h2 hb)
  refine u_apart (u_lays hts (lays_in h1 h2) ha) (u_lays hts (lays_in h1 h2) hb) hia hib ?_
  rw [(State.fieldFound?_type hia pa).1, (State.fieldFound?_type hib pb).1]
  exact z_names h1 h2 ha hb hne
/-- what fits a field -/
def v_fit (t : Nat) (v : Value) : Prop := match t with
  | 0 => v = .null ∨ ∃ a, v = .ref a
  | 1 => ∃ x, v = .int x
  | _ => v = .int 0 ∨ v = .int 1
theorem v_fits {k j : Nat} {v : Value} (h : z_fok k j = true) (hv : v_fit (z_ft (100 * k + j)) v) : ∃ t, parseFieldDescriptor (z_T k j).2.2.1 = some t ∧ narrow t v = v ∧ fits t v = true := by
  unfold z_fok at h
  cases hp : parseFieldDescriptor (z_T k j).2.2.1 with
  | none => obtain ⟨t, ht⟩ := z_some (k := k) (j := j) h; rw [hp] at ht; cases ht
  | some t =>
    refine ⟨t, rfl, ?_⟩
    rw [hp] at h
    cases hz : z_ft (100 * k + j) with
    | zero =>
      rw [hz] at h hv
      cases t <;> first
        | exact absurd h (by decide)
        | (rcases hv with rfl | ⟨a, rfl⟩ <;> exact ⟨rfl, rfl⟩)
    | succ z =>
      cases z with
      | zero =>
        rw [hz] at h hv
        simp only [decide_eq_true_eq, Option.some.injEq] at h
        subst h
        obtain ⟨x, rfl⟩ := hv
        exact ⟨rfl, rfl⟩
      | succ z =>
        rw [hz] at h hv
        simp only [Bool.or_eq_true, decide_eq_true_eq, Option.some.injEq] at h
        rcases h with rfl | rfl <;> rcases hv with rfl | rfl <;> exact ⟨by decide, by decide⟩
/-- a field is written: the picture h1 has v there, and else nothing new -/
theorem S_put {G : GG} {l : Launch} {k pc : Nat} {ls : List Slot} {r : List Value} {h : PH} (hG : GOK G) {n x : Nat} {v : Value} {h1 : PH} (hi : (z_code k)[pc]? = some (.putfield n)) (hx : p_kd h x = n / 100) (h0x : 1000 ≤ x) (hv : v_fit (z_ft n) (g_v G v)) (hn : p_nx h1 = p_nx h) (hu : p_us h1 = p_us h) (hk : p_kd h1 = p_kd h) (hl : p_ln h1 = p_ln h)
    (ho : ∀ b, b ≠ x → (∀ j, p_im h1 b j = p_im h b j) ∧ ∀ j, p_rm h1 b j = p_rm h b j) (hf : ∀ j, g_f G h1 x j = if j = n % 100 then g_v G v else g_f G h x j) : STEP G l k pc ls (v :: .ref x :: r) h (pc + 1) ls r h1 := by
  intro d p e R s m args below meth c H locs lsm h0 Z C hR hS hL n0 u0 nc uc kk
  obtain ⟨ix, d1, d2, d3⟩ := at_putf (Cx C) hi
  have hk190 := Cx C
  obtain ⟨w1, w2, w3, w4⟩ := lf_use d2
  obtain ⟨C1, C2, C3, C4, C5, C6, E, C8, C9⟩ := C
  have hkd : p_kd h x ≠ 0 := by omega
  have hn100 : 100 * (n / 100) + n % 100 = n := Nat.div_add_mod n 100
  have h16 : n / 100 ≠ 16 := fun q => absurd (hR.enum x (by rw [hx]; exact q)) (by omega)
  have w3 : n / 100 ≤ 15 := by omega
  rw [List.map_cons, List.map_cons, show g_v G (.ref x) = g_rv G x from rfl, hR.rv hG hkd]
  have A := hR.cell hkd h0x
  unfold g_at at A
  have hb : Nat.ble 100 (p_kd h x) = false := by
    rw [hx]
    cases hz : Nat.ble 100 (n / 100)
    · rfl
    · have := Nat.le_of_ble_eq_true hz; omega
  rw [hb, hx] at A
  obtain ⟨cell, q1, q2, q3, q4⟩ := A
  obtain ⟨hS1, hfc, kC, hkC, hkind⟩ := E.1 (n / 100) w2 (by omega)
  obtain ⟨cf, kf, fi, f, hif, hsl⟩ := hS1 (n % 100) w4
  have hap := z_apart C6 E w2 w3
  have hst := (u_facts hfc hkC (u_lays C6 (lays_in w2 w3) w4) hif).1
  obtain ⟨t, ht, ht1, ht2⟩ := v_fits (z_ty w2 w3 w4) (by rw [hn100]; exact hv)
  have hlay := C6 _ (lays_in w2 w3 _ (u_in_lay w4))
  have fin : ∀ H' : Heap, H'[g_ad G x]? = some (cell.setSlot f.slot (g_v G v)) → H'.size = H.size → (∀ q, q ≠ g_ad G x → H'[q]? = H[q]?) → W p l e R s m args below meth c H' (locs ++ [⟨g_ad G x, f.slot⟩]) (p_nx h - p_nx h0) (p_us h - p_us h0) Z (F0 m (n_pc (z_raw k) pc + 3) lsm (r.map (g_v G))) := by
    intro H' e1 e2 e3
    have hR1 : Rep G h1 H' := by
      refine hR.put hG h0x hn hk hl ho e2 e3 ?_ ?_
      · unfold g_at
        rw [hk, hb, hx]
        rw [hsl] at e1
        exact t_OB.to (V := updV (g_f G h x) (n % 100) (g_v G v)) ⟨_, e1, q2, q3, t_set q4 hap w4 (g_v G v)⟩ (fun j _ => (hf j).symm)
      · intro hB
        rw [hx] at hB
        unfold p_kB at hB
        simp only [Bool.and_eq_true] at hB
        have := Nat.le_of_ble_eq_true hB.1
        omega
    have K := kk H' (locs ++ [⟨g_ad G x, f.slot⟩]) lsm hR1 (hS.put e2 e3 (g_free hG h0x)) hL
    rw [d3, hn, hu] at K
    exact K
  cases hfl : (z_T (n / 100) (n % 100)).2.2.2 with
  | false =>
    unfold u_lay at hlay
    rw [if_neg (by rw [hfl]; decide)] at hlay
    have h6 := u_store hfc hkC hkind hlay hif ht ht1 ht2
    exact W.putK C1 C2 (f := f) ⟨C5, C6 _ w1, ⟨_, _, _, hif⟩, hst⟩ (by rw [q2]; exact h6) q1 q3 (by rw [hsl]; exact k2_hasslot (q4 _ w4)) rfl rfl d1 fin
  | true =>
    have hfk := List.all_eq_true.mp (List.all_eq_true.mp fin_all k (List.mem_range.mpr hk190)) _ (List.mem_of_getElem? hi)
    simp only [hfl, Bool.not_true, Bool.false_or, Bool.and_eq_true, decide_eq_true_eq] at hfk
    unfold u_lay at hlay
    rw [if_pos hfl] at hlay
    have hcf : m.cls = cf := by
      obtain ⟨_, _, c', _, _, _, -, -, hf', -, -, -, hown2, -⟩ := Cond.laysFinal_spec hlay
      have e1 : c' = cf := by have := hif.symm.trans hf'; simp at this; exact this.1.symm
      rw [← hfk.2] at hown2
      rw [← e1]; exact Option.some.inj (C5.symm.trans hown2)
    have h6 := u_fits hfc hkC hkind (Or.inr hlay) hif ht ht1 ht2
    exact W.putFinK C1 C2 C5 (C6 _ w1) hif hst hcf (C8 hfk.1) (by rw [q2]; exact h6) q1 q3 (by rw [hsl]; exact k2_hasslot (q4 _ w4)) rfl rfl d1 fin
end
section
/-! Objects and rows are made. -/
def lc_chk (q : Nat × Nat × Nat × Nat × Nat × Nat) : Bool := decide (w_all[q.2.2.2.1]? = some (Cond.classLink (z_cn q.1) q.2.1 (z_kn q.2.2.1))) && decide (w_all[q.2.2.2.2.1]? = some (Cond.instantiable (z_kn q.2.2.1) (z_sl q.2.2.1))) && decide (w_all[q.2.2.2.2.2]? = some (Cond.initialized (z_kn q.2.2.1))) && Nat.ble 1 q.2.2.1 && Nat.ble q.2.2.1 15
set_option maxRecDepth 100000 in
theorem lc_all : z_lc.all lc_chk = true := by decide +kernel
def la_chk (q : Nat × Nat × Nat × String × Nat) : Bool := decide (w_all[q.2.2.2.2]? = some (Cond.classLink (z_cn q.1) q.2.1 q.2.2.2.1)) && (match z_ety q.2.2.1 with
  | some (.object C) => decide (C = q.2.2.2.1)
  | some (.array t) => decide ((FieldType.array t).toString = q.2.2.2.1)
  | _ => false)
set_option maxRecDepth 100000 in
theorem la_all : z_la.all la_chk = true := by decide +kernel
set_option maxRecDepth 100000 in
theorem w_ac : (Cond.arrayClass .int ∈ w_all ∧ Cond.arrayClass .byte ∈ w_all) ∧ Cond.arrayClass .boolean ∈ w_all := by decide +kernel
theorem z_dflt {G : GG} (hG : GOK G) {h : PH} {k j a : Nat} {t : FieldType} (hf : z_fok k j = true) (ht : parseFieldDescriptor (z_T k j).2.2.1 = some t) (hk : p_kd h a = k) (hi : p_im h a j = 0) (hr : p_rm h a j = 0) : defaultValue t = g_f G h a j := by
  unfold g_f
  rw [hk]
  unfold z_fok at hf
  rw [ht] at hf
  cases hz : z_ft (100 * k + j) with
  | zero =>
    rw [hz] at hf
    show _ = g_rv G (p_rm h a j)
    rw [hr, g_rv0 hG]
    cases t <;> first
      | exact absurd hf (by decide)
      | rfl
  | succ z =>
    show _ = Value.int (p_im h a j)
    rw [hi]
    rw [hz] at hf
    cases z with
    | zero =>
      simp only [decide_eq_true_eq, Option.some.injEq] at hf
      subst hf; rfl
    | succ z =>
      simp only [Bool.or_eq_true, decide_eq_true_eq, Option.some.injEq] at hf
      rcases hf with rfl | rfl <;> rfl
theorem push_at {H : Heap} {c : Cell} {q : Nat} (h : q < H.size) : (H.push c)[q]? = H[q]? := by simp [Array.getElem?_push, Nat.ne_of_lt h]
theorem push_end {H : Heap} {c : Cell} : (H.push c)[H.size]? = some c := by simp
section S5
variable {G : GG} {l : Launch} {k pc : Nat} {ls : List Slot} {r : List Value} {h : PH}
theorem new_kd {k1 n u : Nat} : p_kd (p_new h k1 n u) (p_nx h) = k1 := by simp [p_new, p_kd]
theorem new_ln {k1 n u : Nat} : p_ln (p_new h k1 n u) (p_nx h) = n := by simp [p_new, p_ln]
theorem new_im {k1 n u j : Nat} : p_im (p_new h k1 n u) (p_nx h) j = 0 := by simp [p_new, p_im]
theorem new_rm {k1 n u j : Nat} : p_rm (p_new h k1 n u) (p_nx h) j = 0 := by simp [p_new, p_rm]
theorem new_o {k1 n u : Nat} : ∀ b, b ≠ p_nx h → p_kd (p_new h k1 n u) b = p_kd h b ∧ p_ln (p_new h k1 n u) b = p_ln h b ∧ (∀ j, p_im (p_new h k1 n u) b j = p_im h b j) ∧ ∀ j, p_rm (p_new h k1 n u) b j = p_rm h b j := by
  intro b hb
  simp [p_new, p_kd, p_ln, p_im, p_rm, hb]
theorem S_new (hG : GOK G) {c1 : Nat} (hi : (z_code k)[pc]? = some (.new c1)) : STEP G l k pc ls r h (pc + 1) ls (.ref (p_nx h) :: r) (p_new h c1 0 (z_sl c1)) := by
  intro d p e R s m args below meth c H locs lsm h0 Z C hR hS hL n0 u0 nc uc kk
  obtain ⟨q, len, d1, d2, d3⟩ := at_pc (Cx C) hi
  have d4 := d3.resolve_left (by intro h; cases h)
  obtain ⟨C1, C2, C3, C4, C5, C6, E, C8, C9⟩ := C
  cases q <;> first
    | exact absurd d2 (by intro h; cases h)
    | skip
  rename_i x
  have d2 := Bool.and_eq_true_iff.mp d2
  have e3 := Nat.eq_of_beq_eq_true d2.2
  subst e3
  obtain ⟨q, hq, h1⟩ := List.any_eq_true.mp d2.1
  simp only [Bool.and_eq_true] at h1
  obtain ⟨⟨e1, e2⟩, e3⟩ := h1
  have e1 := Nat.eq_of_beq_eq_true e1
  have e2 := Nat.eq_of_beq_eq_true e2
  have e3 := Nat.eq_of_beq_eq_true e3
  have h2 := List.all_eq_true.mp lc_all q hq
  simp only [lc_chk, Bool.and_eq_true, decide_eq_true_eq] at h2
  obtain ⟨⟨⟨⟨a1, a2⟩, a3⟩, a4⟩, a5⟩ := h2
  rw [e1, e2, e3] at a1
  rw [e3] at a2 a3 a4 a5
  have a4 := Nat.le_of_ble_eq_true a4
  have a5 := Nat.le_of_ble_eq_true a5
  have hKn := E.1 c1 a4 (by omega)
  have hsz := hR.1
  have hge := hR.2.1
  have hnx : p_nx (p_new h c1 0 (z_sl c1)) = p_nx h + 1 := rfl
  have hus : p_us (p_new h c1 0 (z_sl c1)) = p_us h + z_sl c1 := rfl
  rw [hnx] at nc
  rw [hus] at uc
  refine W.newcK C1 C2 C5 (C6 _ (w_at a1 rfl)) (C6 _ (w_at a2 rfl)) (C6 _ (w_at a3 rfl)) rfl d1 (by omega) (by omega) hKn.2.1 rfl fun H1 kC hkC g1 z1 o1 => ?_
  have had := hG.2.2.1 (p_nx h) hge
  have hae : g_ad G (p_nx h) = H.size := by omega
  have hb : Nat.ble 100 c1 = false := by
    cases hz : Nat.ble 100 c1
    · rfl
    · have := Nat.le_of_ble_eq_true hz; omega
  have hR1 : Rep G (p_new h c1 0 (z_sl c1)) H1 := by
    refine hR.push hG hnx new_o (by omega) o1 ?_ ?_ ?_
    · unfold g_at
      rw [new_kd, hb, hae]
      exact (u_born (fun j => (parseFieldDescriptor (z_T c1 j).2.2.1).getD .int) C6 (lays_in a4 a5) hKn hkC g1 (fun j hj => by
        obtain ⟨t, ht⟩ := z_some (z_ty a4 a5 hj)
        rw [ht]; rfl)).to (fun j hj => by
        obtain ⟨t, ht⟩ := z_some (z_ty a4 a5 hj)
        show defaultValue ((parseFieldDescriptor (z_T c1 j).2.2.1).getD .int) = _
        rw [ht]
        exact z_dflt hG (z_ty a4 a5 hj) ht new_kd new_im new_rm)
    · intro hB
      rw [new_kd] at hB
      unfold p_kB at hB
      simp only [Bool.and_eq_true] at hB
      have := Nat.le_of_ble_eq_true hB.1
      omega
    · rw [new_kd]
      unfold k_new
      rw [show Nat.ble 1 c1 = true from Nat.ble_eq_true_of_le a4, show Nat.ble c1 15 = true from Nat.ble_eq_true_of_le a5]
      rfl
  have K := kk H1 locs lsm hR1 (hS.more (by omega) o1) hL
  rw [d4, hnx, hus] at K
  rw [List.map_cons, show g_v G (.ref (p_nx h)) = g_rv G (p_nx h) from rfl, hR1.rv hG (by rw [new_kd]; omega), hae] at K
  have t1 : p_nx h - p_nx h0 + 1 = p_nx h + 1 - p_nx h0 := by omega
  have t2 : p_us h - p_us h0 + z_sl c1 = p_us h + z_sl c1 - p_us h0 := by omega
  rw [t1, t2]
  exact K
/-- a row is made -/
theorem S_row (hG : GOK G) {n : Int32} {k1 : Nat} {t : FieldType} {H : Heap} {s : State} {cA : ClassId} (hR : Rep G h H) (E : EnvG G s) (hk : z_ety k1 = some t) (hk1 : k_new k1 = true) (hk2 : 100 ≤ k1) (hd : ∀ j, g_e G (p_new h k1 n.toNatClampNeg n.toNatClampNeg) (p_nx h) j = defaultValue t) (hcA : cA = g_A G k1) :
    Rep G (p_new h k1 n.toNatClampNeg n.toNatClampNeg) (H.push { cls := cA, slots := Array.replicate n.toNatClampNeg (defaultValue t), vm := .none }) ∧ g_rv G (p_nx h) = .ref H.size := by
  have hsz := hR.1
  have hge := hR.2.1
  have had := hG.2.2.1 (p_nx h) hge
  have hae : g_ad G (p_nx h) = H.size := by omega
  refine ⟨?_, ?_⟩
  · refine hR.push hG rfl new_o (by simp) (fun q hq => push_at hq) ?_ ?_ ?_
    · unfold g_at
      rw [new_kd, show Nat.ble 100 k1 = true from Nat.ble_eq_true_of_le hk2, hae]
      show _ = some (arrV _ _ _)
      rw [push_end, hcA, arrV_new, new_ln]
      congr 2
      funext j
      exact (hd j).symm
    · intro hB j hj
      rw [new_im]
      decide
    · rw [new_kd]; exact hk1
  · rw [g_rvr hG (by omega) (by omega), hae]
end S5
end
section
/-! Rows: made, read, written. -/
section S6
variable {G : GG} {l : Launch} {k pc : Nat} {ls : List Slot} {r : List Value} {h : PH}
theorem n_pos {n : Int32} (h : ¬ n < 0) : 0 ≤ n.toInt := by
  have := Int32.not_lt.mp h
  simpa using Int32.le_iff_toInt_le.mp this
theorem p_in_vp {j : Int32} {n : Nat} (h : p_in j n) : vp_in j n := by
  intro q
  rcases q with q | q
  · have := Int32.lt_iff_toInt_lt.mp q
    have h1 := h.1
    simp at this
    omega
  · have := h.2
    omega
theorem S_newarray (hG : GOK G) {t : Jvm.ClassFile.ArrayType} {k1 : Nat} {n : Int32} (hi : (z_code k)[pc]? = some (.newarray t)) (hk1 : (t = .int ∧ k1 = 100) ∨ (t = .byte ∧ k1 = 120) ∨ (t = .boolean ∧ k1 = 300)) (hn : ¬ n < 0) (hcap : p_us h + n.toNatClampNeg ≤ p_CS) : STEP G l k pc ls (.int n :: r) h (pc + 1) ls (.ref (p_nx h) :: r) (p_new h k1 n.toNatClampNeg n.toNatClampNeg) := by
  intro d p e R s m args below meth c H locs lsm h0 Z C hR hS hL n0 u0 nc uc kk
  obtain ⟨q, len, d1, d2, d3⟩ := at_pc (Cx C) hi
  have d4 := d3.resolve_left (by intro h; cases h)
  obtain ⟨C1, C2, C3, C4, C5, C6, E, C8, C9⟩ := C
  cases q <;> first
    | exact absurd d2 (by intro h; cases h)
    | skip
  rename_i t1
  have d2 := Bool.and_eq_true_iff.mp d2
  have e3 := Nat.eq_of_beq_eq_true d2.2
  subst e3
  have e1 := of_decide_eq_true d2.1
  subst e1
  have hnx : p_nx (p_new h k1 n.toNatClampNeg n.toNatClampNeg) = p_nx h + 1 := rfl
  have hus : p_us (p_new h k1 n.toNatClampNeg n.toNatClampNeg) = p_us h + n.toNatClampNeg := rfl
  rw [hnx] at nc
  rw [hus] at uc
  have hety : z_ety k1 = some (newarray.typeOf t) ∧ k_new k1 = true ∧ 100 ≤ k1 ∧ p_kR k1 = false ∧ defaultValue (newarray.typeOf t) = .int 0 ∧ (Cond.arrayClass (newarray.typeOf t)) ∈ w_all ∧ ∃ z, newarray.typeOf t = z ∧ (z = .int ∨ z = .byte ∨ z = .boolean) := by
    rcases hk1 with ⟨rfl, rfl⟩ | ⟨rfl, rfl⟩ | ⟨rfl, rfl⟩
    · exact ⟨rfl, rfl, by decide, rfl, rfl, w_ac.1.1, _, rfl, Or.inl rfl⟩
    · exact ⟨rfl, rfl, by decide, rfl, rfl, w_ac.1.2, _, rfl, Or.inr (Or.inl rfl)⟩
    · exact ⟨rfl, rfl, by decide, rfl, rfl, w_ac.2, _, rfl, Or.inr (Or.inr rfl)⟩
  obtain ⟨y1, y2, y3, y4, y5, y6, y7⟩ := hety
  have hbytes : n.toNatClampNeg * componentBytes (newarray.typeOf t) ≤ 536870912 := by
    have hb : componentBytes (newarray.typeOf t) ≤ 4 := by
      rcases hk1 with ⟨rfl, rfl⟩ | ⟨rfl, rfl⟩ | ⟨rfl, rfl⟩ <;> decide
    have := Nat.mul_le_mul_left n.toNatClampNeg hb
    unfold p_CS at hcap
    omega
  refine W.newa C1 C2 (C6 _ (List.mem_filter.mpr ⟨y6, rfl⟩)) rfl d1 rfl hn hbytes (by omega) (by omega) (fun cA kA comp f1 f2 f3 => ?_)
  have hcA : cA = g_A G k1 := by
    have := (E.2.1 k1 _ y1).2.1
    have h2 : s.vm.findClass ("[" ++ (newarray.typeOf t).toString) = some (g_A G k1) := by
      obtain ⟨z, hz, hz2⟩ := y7
      rw [hz] at this ⊢
      rcases hz2 with rfl | rfl | rfl <;> exact this
    exact Option.some.inj (f1.symm.trans h2)
  obtain ⟨hR1, hrv⟩ := S_row (n := n) hG hR E y1 y2 y3 (fun j => by
    unfold g_e
    rw [new_kd, y4, new_im]
    exact y5.symm) hcA
  have K := kk _ locs lsm hR1 (hS.more (by simp) (fun q hq => push_at hq)) hL
  rw [d4, hnx, hus, List.map_cons, show g_v G (.ref (p_nx h)) = g_rv G (p_nx h) from rfl, hrv] at K
  have t1 : p_nx h - p_nx h0 + 1 = p_nx h + 1 - p_nx h0 := by omega
  have t2 : p_us h - p_us h0 + n.toNatClampNeg = p_us h + n.toNatClampNeg - p_us h0 := by omega
  rw [t1, t2]
  exact K
theorem S_anewarray (hG : GOK G) {k1 : Nat} {n : Int32} (hi : (z_code k)[pc]? = some (.anewarray k1)) (hn : ¬ n < 0) (hcap : p_us h + n.toNatClampNeg ≤ p_CS) : STEP G l k pc ls (.int n :: r) h (pc + 1) ls (.ref (p_nx h) :: r) (p_new h k1 n.toNatClampNeg n.toNatClampNeg) := by
  intro d p e R s m args below meth c H locs lsm h0 Z C hR hS hL n0 u0 nc uc kk
  obtain ⟨q, len, d1, d2, d3⟩ := at_pc (Cx C) hi
  have d4 := d3.resolve_left (by intro h; cases h)
  obtain ⟨C1, C2, C3, C4, C5, C6, E, C8, C9⟩ := C
  cases q <;> first
    | exact absurd d2 (by intro h; cases h)
    | skip
  rename_i x
  have d2 := Bool.and_eq_true_iff.mp d2
  have e3 := Nat.eq_of_beq_eq_true d2.2
  subst e3
  obtain ⟨q, hq, h1⟩ := List.any_eq_true.mp d2.1
  simp only [Bool.and_eq_true] at h1
  obtain ⟨⟨e1, e2⟩, e3⟩ := h1
  have e1 := Nat.eq_of_beq_eq_true e1
  have e2 := Nat.eq_of_beq_eq_true e2
  have e3 := Nat.eq_of_beq_eq_true e3
  have h2 := List.all_eq_true.mp la_all q hq
  simp only [la_chk, Bool.and_eq_true, decide_eq_true_eq] at h2
  obtain ⟨a1, a2⟩ := h2
  have hover := E.2.2.2.2.1 q hq
  rw [e1, e2] at a1
  rw [e3] at a2 hover
  have hnx : p_nx (p_new h k1 n.toNatClampNeg n.toNatClampNeg) = p_nx h + 1 := rfl
  have hus : p_us (p_new h k1 n.toNatClampNeg n.toNatClampNeg) = p_us h + n.toNatClampNeg := rfl
  rw [hnx] at nc
  rw [hus] at uc
  have hbytes : n.toNatClampNeg * 4 ≤ 536870912 := by
    unfold p_CS at hcap
    omega
  have hmem : ∀ q ∈ z_la, k_new q.2.2.1 = true ∧ 100 ≤ q.2.2.1 ∧ p_kR q.2.2.1 = true := by decide +kernel
  have hm := hmem q hq
  rw [e3] at hm
  obtain ⟨y2, y3, y4⟩ := hm
  have fin : ∀ (t : FieldType) (cA : ClassId), z_ety k1 = some t → defaultValue t = .null → cA = g_A G k1 → W p l e R s m args below meth c (H.push { cls := cA, slots := Array.replicate n.toNatClampNeg .null, vm := .none }) locs (p_nx h - p_nx h0 + 1) (p_us h - p_us h0 + n.toNatClampNeg) Z (F0 m (n_pc (z_raw k) pc + 3) lsm (.ref H.size :: r.map (g_v G))) := by
    intro t cA y1 yd hcA
    obtain ⟨hR1, hrv⟩ := S_row (n := n) hG hR E y1 y2 y3 (fun j => by
      unfold g_e
      rw [new_kd, y4, new_rm]
      exact (g_rv0 hG).trans yd.symm) hcA
    rw [yd] at hR1
    have K := kk _ locs lsm hR1 (hS.more (by simp) (fun q hq => push_at hq)) hL
    rw [d4, hnx, hus, List.map_cons, show g_v G (.ref (p_nx h)) = g_rv G (p_nx h) from rfl, hrv] at K
    have t1 : p_nx h - p_nx h0 + 1 = p_nx h + 1 - p_nx h0 := by omega
    have t2 : p_us h - p_us h0 + n.toNatClampNeg = p_us h + n.toNatClampNeg - p_us h0 := by omega
    rw [t1, t2]
    exact K
  cases hz : z_ety k1 with
  | none => rw [hz] at a2; cases a2
  | some t =>
    rw [hz] at a2 hover
    have hRA := (E.2.1 k1 t hz).2.1
    cases t <;> first
      | exact absurd (show false = true from a2) Bool.false_ne_true
      | skip
    · rename_i C
      have a2 := of_decide_eq_true a2
      rw [← a2] at a1
      refine W.anew C1 C2 C5 (C6 _ (w_at a1 rfl)) hover rfl d1 rfl hn hbytes (by omega) (by omega) (fun cA kA comp f1 f2 f3 f4 => fin _ cA hz rfl ?_)
      obtain ⟨kA2, comp2, g1, g2, g3, g4⟩ := hRA
      exact Option.some.inj (f1.symm.trans g4)
    · rename_i t1
      have a2 := of_decide_eq_true a2
      rw [← a2] at a1
      refine W.anewA C1 C2 C5 (C6 _ (w_at a1 rfl)) hover rfl d1 rfl hn hbytes (by omega) (by omega) (fun cA kA comp f1 f2 f3 f4 => fin _ cA hz rfl ?_)
      exact Option.some.inj (f1.symm.trans hRA)
/-- the cell of a row of the run's own -/
theorem Rep.row {H : Heap} (hR : Rep G h H) {a : Nat} (ha : 1000 ≤ a) (hk : 100 ≤ p_kd h a) : H[g_ad G a]? = some (arrV (g_A G (p_kd h a)) (p_ln h a) (g_e G h a)) ∧ k_new (p_kd h a) = true := by
  have A := hR.cell (x := a) (by omega) ha
  unfold g_at at A
  rw [show Nat.ble 100 (p_kd h a) = true from Nat.ble_eq_true_of_le hk] at A
  exact ⟨A, hR.2.2.2.2.2.2 a ha (by omega)⟩
theorem vp_in_size {cA : ClassId} {n : Nat} {f : Nat → Value} {j : Int32} (h : p_in j n) : ¬ (j < 0 ∨ (arrV cA n f).slots.size ≤ j.toNatClampNeg) := by
  rw [arrV_size]
  exact p_in_vp h
theorem kI_new {k1 : Nat} (h1 : p_kI k1 = true) (h2 : k_new k1 = true) : k1 = 100 := by
  simp only [p_kI, Bool.and_eq_true] at h1
  have a1 := Nat.le_of_ble_eq_true h1.1
  have a2 := Nat.le_of_ble_eq_true h1.2
  simp only [k_new, Bool.or_eq_true, Bool.and_eq_true] at h2
  rcases h2 with (((((((⟨q1, q2⟩ | q) | q) | q) | q) | q) | q) | q) | q
  · have := Nat.le_of_ble_eq_true q2; omega
  all_goals (have := Nat.eq_of_beq_eq_true q; omega)
theorem kB_new {k1 : Nat} (h1 : p_kB k1 = true) (h2 : k_new k1 = true) : k1 = 120 := by
  simp only [p_kB, Bool.and_eq_true] at h1
  have a1 := Nat.le_of_ble_eq_true h1.1
  have a2 := Nat.le_of_ble_eq_true h1.2
  simp only [k_new, Bool.or_eq_true, Bool.and_eq_true] at h2
  rcases h2 with (((((((⟨q1, q2⟩ | q) | q) | q) | q) | q) | q) | q) | q
  · have := Nat.le_of_ble_eq_true q2; omega
  all_goals (have := Nat.eq_of_beq_eq_true q; omega)
theorem kR_new {k1 : Nat} (h1 : p_kR k1 = true) (h2 : k_new k1 = true) : k1 = 310 ∨ k1 = 312 ∨ k1 = 313 ∨ k1 = 314 ∨ k1 = 315 := by
  simp only [p_kR, Bool.and_eq_true] at h1
  have a1 := Nat.le_of_ble_eq_true h1.1
  have a2 := Nat.le_of_ble_eq_true h1.2
  simp only [k_new, Bool.or_eq_true, Bool.and_eq_true] at h2
  rcases h2 with (((((((⟨q1, q2⟩ | q) | q) | q) | q) | q) | q) | q) | q
  · have := Nat.le_of_ble_eq_true q2; omega
  all_goals (have := Nat.eq_of_beq_eq_true q; omega)
theorem g_e_c {H : Heap} (hR : Rep G h H) {a : Nat} (ha : a < 1000) (j : Nat) : g_e G (g_c G) a j = g_e G h a j := by
  obtain ⟨s1, s2, s3, s4⟩ := hR.2.2.2.2.2.1 a ha
  unfold g_e
  rw [s1, s3, s4]
theorem S_iaload (hG : GOK G) {a : Nat} {j : Int32} (hi : (z_code k)[pc]? = some .iaload) (hk : p_kI (p_kd h a) = true) (hj : p_in j (p_ln h a)) : STEP G l k pc ls (.int j :: .ref a :: r) h (pc + 1) ls (.int (p_im h a j.toNatClampNeg) :: r) h := by
  intro d p e R s m args below meth c H locs lsm h0 Z C hR hS hL n0 u0 nc uc kk
  obtain ⟨d1, d2⟩ := at1 (Cx C) hi rfl (fun _ _ => rel1)
  have K := kk H locs lsm hR hS hL
  rw [d2] at K
  obtain ⟨C1, C2, C3, C4, C5, C6, E, C8, C9⟩ := C
  have hk2 := hk
  simp only [p_kI, Bool.and_eq_true] at hk2
  have a1 := Nat.le_of_ble_eq_true hk2.1
  have a2 := Nat.le_of_ble_eq_true hk2.2
  have hkR : p_kR (p_kd h a) = false := by
    unfold p_kR
    cases hz : Nat.ble 310 (p_kd h a)
    · rfl
    · have := Nat.le_of_ble_eq_true hz; omega
  have hge : g_e G h a j.toNatClampNeg = .int (p_im h a j.toNatClampNeg) := by unfold g_e; rw [hkR]
  rw [List.map_cons, List.map_cons, show g_v G (.ref a) = g_rv G a from rfl, hR.rv hG (x := a) (by omega)]
  rcases Nat.lt_or_ge a 1000 with hlt | hge2
  · obtain ⟨s1, s2, s3, s4⟩ := hR.2.2.2.2.2.1 a hlt
    have hT := E.2.2.2.2.2.2.2.2.2.2.2.1 a hlt (by omega)
    rw [show z_cty (p_kd (g_c G) a) = .int by unfold z_cty; rw [← s1, hk]] at hT
    exact va_ti C1 C2 hT hS (p_in_vp (by rw [← s2]; exact hj)) ((g_e_c hR hlt _).trans hge) d1 K
  · obtain ⟨q1, q2⟩ := hR.row hge2 a1
    have h100 := kI_new hk q2
    have hO := (E.2.1 (p_kd h a) .int (by rw [h100]; rfl)).1
    exact W.iald (v := .int (p_im h a j.toNatClampNeg)) C1 C2 q1 (hO _ _) (by intro h; cases h) (vp_in_size hj) (by rw [arrV_read _ _ hj.2, hge]) rfl rfl d1 K
theorem S_baload (hG : GOK G) {a : Nat} {j : Int32} (hi : (z_code k)[pc]? = some .baload) (hk : p_kB (p_kd h a) = true ∨ p_kZ (p_kd h a) = true) (hj : p_in j (p_ln h a)) : STEP G l k pc ls (.int j :: .ref a :: r) h (pc + 1) ls (.int (p_im h a j.toNatClampNeg) :: r) h := by
  intro d p e R s m args below meth c H locs lsm h0 Z C hR hS hL n0 u0 nc uc kk
  obtain ⟨d1, d2⟩ := at1 (Cx C) hi rfl (fun _ _ => rel1)
  have K := kk H locs lsm hR hS hL
  rw [d2] at K
  obtain ⟨C1, C2, C3, C4, C5, C6, E, C8, C9⟩ := C
  have hk2 : 120 ≤ p_kd h a ∧ p_kd h a ≤ 300 := by
    rcases hk with hk | hk
    · simp only [p_kB, Bool.and_eq_true] at hk
      have a1 := Nat.le_of_ble_eq_true hk.1
      have a2 := Nat.le_of_ble_eq_true hk.2
      omega
    · have := Nat.eq_of_beq_eq_true hk
      omega
  have hkR : p_kR (p_kd h a) = false := by
    unfold p_kR
    cases hz : Nat.ble 310 (p_kd h a)
    · rfl
    · have := Nat.le_of_ble_eq_true hz; omega
  have hge : g_e G h a j.toNatClampNeg = .int (p_im h a j.toNatClampNeg) := by unfold g_e; rw [hkR]
  rw [List.map_cons, List.map_cons, show g_v G (.ref a) = g_rv G a from rfl, hR.rv hG (x := a) (by omega)]
  rcases Nat.lt_or_ge a 1000 with hlt | hge2
  · obtain ⟨s1, s2, s3, s4⟩ := hR.2.2.2.2.2.1 a hlt
    have hT := E.2.2.2.2.2.2.2.2.2.2.2.1 a hlt (by omega)
    have hkI : p_kI (p_kd h a) = false := by
      unfold p_kI
      cases hz : Nat.ble (p_kd h a) 119
      · simp
      · have := Nat.le_of_ble_eq_true hz; omega
    rcases hk with hk | hk
    · rw [show z_cty (p_kd (g_c G) a) = .byte by unfold z_cty; rw [← s1, hkI, hk]] at hT
      exact va_tb C1 C2 hT hS (p_in_vp (by rw [← s2]; exact hj)) ((g_e_c hR hlt _).trans hge) d1 K
    · have h9 := E.2.2.2.2.2.2.2.2.2.2.2.2.2 a hlt (by omega)
      rw [← s1, Nat.eq_of_beq_eq_true hk] at h9
      cases h9
  · obtain ⟨q1, q2⟩ := hR.row hge2 (by omega)
    rcases hk with hk | hk
    · have h100 := kB_new hk q2
      have hO := (E.2.1 (p_kd h a) .byte (by rw [h100]; rfl)).1
      exact W.bald (v := .int (p_im h a j.toNatClampNeg)) C1 C2 q1 (hO _ _) (by intro h; cases h) (vp_in_size hj) (by rw [arrV_read _ _ hj.2, hge]) rfl rfl d1 K
    · have h100 := Nat.eq_of_beq_eq_true hk
      have hO := (E.2.1 (p_kd h a) .boolean (by rw [h100]; rfl)).1
      exact W.zald (v := .int (p_im h a j.toNatClampNeg)) C1 C2 q1 (hO _ _) (by intro h; cases h) (vp_in_size hj) (by rw [arrV_read _ _ hj.2, hge]) rfl rfl d1 K
theorem S_aaload (hG : GOK G) {a : Nat} {j : Int32} (hi : (z_code k)[pc]? = some .aaload) (hk : p_kR (p_kd h a) = true) (hj : p_in j (p_ln h a)) : STEP G l k pc ls (.int j :: .ref a :: r) h (pc + 1) ls (.ref (p_rm h a j.toNatClampNeg) :: r) h := by
  intro d p e R s m args below meth c H locs lsm h0 Z C hR hS hL n0 u0 nc uc kk
  obtain ⟨d1, d2⟩ := at1 (Cx C) hi rfl (fun _ _ => rel1)
  have K := kk H locs lsm hR hS hL
  rw [d2] at K
  obtain ⟨C1, C2, C3, C4, C5, C6, E, C8, C9⟩ := C
  have hk2 := hk
  simp only [p_kR, Bool.and_eq_true] at hk2
  have a1 := Nat.le_of_ble_eq_true hk2.1
  have a2 := Nat.le_of_ble_eq_true hk2.2
  have hge : g_e G h a j.toNatClampNeg = g_v G (.ref (p_rm h a j.toNatClampNeg)) := by unfold g_e; rw [hk]; rfl
  rw [List.map_cons] at K
  rw [List.map_cons, List.map_cons, show g_v G (.ref a) = g_rv G a from rfl, hR.rv hG (x := a) (by omega)]
  rcases Nat.lt_or_ge a 1000 with hlt | hge2
  · obtain ⟨s1, s2, s3, s4⟩ := hR.2.2.2.2.2.1 a hlt
    have hT := E.2.2.2.2.2.2.2.2.2.2.2.1 a hlt (by omega)
    have hkI : p_kI (p_kd h a) = false := by
      unfold p_kI
      cases hz : Nat.ble (p_kd h a) 119
      · simp
      · have := Nat.le_of_ble_eq_true hz; omega
    have hkB : p_kB (p_kd h a) = false := by
      unfold p_kB
      cases hz : Nat.ble (p_kd h a) 299
      · simp
      · have := Nat.le_of_ble_eq_true hz; omega
    rw [show z_cty (p_kd (g_c G) a) = .object "ClauseDesk$Kind" by unfold z_cty; rw [← s1, hkI, hkB]] at hT
    exact vb_tq C1 C2 hT hS (p_in_vp (by rw [← s2]; exact hj)) ((g_e_c hR hlt _).trans hge) d1 K
  · obtain ⟨q1, q2⟩ := hR.row hge2 (by omega)
    have hty : ∃ t, z_ety (p_kd h a) = some t ∧ t.isReference = true := by
      rcases kR_new hk q2 with q | q | q | q | q <;> rw [q] <;> exact ⟨_, rfl, rfl⟩
    obtain ⟨t, ht, href⟩ := hty
    have hO := (E.2.1 (p_kd h a) t ht).1
    exact W.aald C1 C2 q1 (hO _ _) href (by intro h; cases h) (vp_in_size hj) (by rw [arrV_read _ _ hj.2, hge]) rfl rfl d1 K
end S6
end
section
/-! Rows written; lengths; bytes copied. -/
section S7
variable {G : GG} {l : Launch} {k pc : Nat} {ls : List Slot} {r : List Value} {h : PH}
theorem wi_o {a i : Nat} {v : Int32} : ∀ b, b ≠ a → (∀ j, p_im (p_wi h a i v) b j = p_im h b j) ∧ ∀ j, p_rm (p_wi h a i v) b j = p_rm h b j := by
  intro b hb
  refine ⟨fun j => ?_, fun j => rfl⟩
  show (if b = a ∧ j = i then v else p_im h b j) = p_im h b j
  rw [if_neg (fun q => hb q.1)]
theorem wr_o {a i : Nat} {v : Nat} : ∀ b, b ≠ a → (∀ j, p_im (p_wr h a i v) b j = p_im h b j) ∧ ∀ j, p_rm (p_wr h a i v) b j = p_rm h b j := by
  intro b hb
  refine ⟨fun j => rfl, fun j => ?_⟩
  show (if b = a ∧ j = i then v else p_rm h b j) = p_rm h b j
  rw [if_neg (fun q => hb q.1)]
/-- a row of numbers is written at one place -/
theorem S_set (hG : GOK G) {H H1 : Heap} {a i : Nat} {v : Int32} (hR : Rep G h H) (ha : 1000 ≤ a) (hk : 100 ≤ p_kd h a) (hkR : p_kR (p_kd h a) = false) (e1 : H1[g_ad G a]? = some ((arrV (g_A G (p_kd h a)) (p_ln h a) (g_e G h a)).setSlot i (.int v))) (e2 : H1.size = H.size) (e3 : ∀ q, q ≠ g_ad G a → H1[q]? = H[q]?)
    (hb : p_kB (p_kd h a) = true → fits .byte (.int v) = true) : Rep G (p_wi h a i v) H1 := by
  refine hR.put hG ha rfl rfl rfl wi_o e2 e3 ?_ ?_
  · unfold g_at
    show (match Nat.ble 100 (p_kd h a) with
      | false => _
      | true => H1[g_ad G a]? = some (arrV (g_A G (p_kd h a)) (p_ln h a) (g_e G (p_wi h a i v) a)))
    rw [show Nat.ble 100 (p_kd h a) = true from Nat.ble_eq_true_of_le hk]
    show H1[g_ad G a]? = _
    rw [e1, arrV_store]
    congr 2
    funext j
    unfold updV g_e
    show (if j = i then Value.int v else _) = (match p_kR (p_kd h a) with
      | true => _
      | false => Value.int (if a = a ∧ j = i then v else p_im h a j))
    rw [hkR]
    by_cases hj : j = i
    · rw [if_pos hj, if_pos ⟨rfl, hj⟩]
    · rw [if_neg hj, if_neg (fun q => hj q.2)]
  · intro hB j hj
    show fits .byte (.int (if a = a ∧ j = i then v else p_im h a j)) = true
    by_cases hji : j = i
    · rw [if_pos ⟨rfl, hji⟩]; exact hb hB
    · rw [if_neg (fun q => hji q.2)]; exact hR.2.2.2.2.1 a j hB hj
theorem S_iastore (hG : GOK G) {a : Nat} {j v : Int32} (hi : (z_code k)[pc]? = some .iastore) (hk : p_kd h a = 100) (ha : 1000 ≤ a) (hj : p_in j (p_ln h a)) : STEP G l k pc ls (.int v :: .int j :: .ref a :: r) h (pc + 1) ls r (p_wi h a j.toNatClampNeg v) := by
  intro d p e R s m args below meth c H locs lsm h0 Z C hR hS hL n0 u0 nc uc kk
  obtain ⟨d1, d2⟩ := at1 (Cx C) hi rfl (fun _ _ => rel1)
  obtain ⟨C1, C2, C3, C4, C5, C6, E, C8, C9⟩ := C
  rw [List.map_cons, List.map_cons, List.map_cons, show g_v G (.ref a) = g_rv G a from rfl, hR.rv hG (x := a) (by omega)]
  obtain ⟨q1, q2⟩ := hR.row ha (by omega)
  have hO := (E.2.1 (p_kd h a) .int (by rw [hk]; rfl)).1
  refine W.iast C1 C2 q1 (hO _ _) (by intro h; cases h) (vp_in_size hj) rfl rfl d1 (fun H1 e1 e2 e3 => ?_)
  have K := kk H1 (locs ++ [⟨g_ad G a, j.toNatClampNeg⟩]) lsm (S_set hG hR ha (by omega) (by rw [hk]; rfl) e1 e2 e3 (by rw [hk]; intro h; cases h)) (hS.put e2 e3 (g_free hG ha)) hL
  rw [d2] at K
  exact K
theorem b_fits (v : Int32) : fits .byte (.int v.toInt8.toInt32) = true := pk_fb v
theorem S_bastore (hG : GOK G) {a : Nat} {j v : Int32} (hi : (z_code k)[pc]? = some .bastore) (hk : p_kd h a = 120) (ha : 1000 ≤ a) (hj : p_in j (p_ln h a)) : STEP G l k pc ls (.int v :: .int j :: .ref a :: r) h (pc + 1) ls r (p_wi h a j.toNatClampNeg v.toInt8.toInt32) := by
  intro d p e R s m args below meth c H locs lsm h0 Z C hR hS hL n0 u0 nc uc kk
  obtain ⟨d1, d2⟩ := at1 (Cx C) hi rfl (fun _ _ => rel1)
  obtain ⟨C1, C2, C3, C4, C5, C6, E, C8, C9⟩ := C
  rw [List.map_cons, List.map_cons, List.map_cons, show g_v G (.ref a) = g_rv G a from rfl, hR.rv hG (x := a) (by omega)]
  obtain ⟨q1, q2⟩ := hR.row ha (by omega)
  have hO := (E.2.1 (p_kd h a) .byte (by rw [hk]; rfl)).1
  refine W.bast C1 C2 q1 (hO _ _) (by intro h; cases h) (vp_in_size hj) rfl rfl d1 (fun H1 e1 e2 e3 => ?_)
  have K := kk H1 (locs ++ [⟨g_ad G a, j.toNatClampNeg⟩]) lsm (S_set hG hR ha (by omega) (by rw [hk]; rfl) e1 e2 e3 (fun _ => b_fits v)) (hS.put e2 e3 (g_free hG ha)) hL
  rw [d2] at K
  exact K
theorem S_castore (hG : GOK G) {a : Nat} {j v : Int32} (hi : (z_code k)[pc]? = some .castore) (hk : p_kd h a = 300) (hv : v = 0 ∨ v = 1) (ha : 1000 ≤ a) (hj : p_in j (p_ln h a)) : STEP G l k pc ls (.int v :: .int j :: .ref a :: r) h (pc + 1) ls r (p_wi h a j.toNatClampNeg v) := by
  intro d p e R s m args below meth c H locs lsm h0 Z C hR hS hL n0 u0 nc uc kk
  obtain ⟨q, len, d1, d2, d3⟩ := at_pc (Cx C) hi
  have d4 := d3.resolve_left (by intro h; cases h)
  have d2 := Bool.and_eq_true_iff.mp d2
  have e5 := of_decide_eq_true d2.1
  have e6 := Nat.eq_of_beq_eq_true d2.2
  subst e5; subst e6
  obtain ⟨C1, C2, C3, C4, C5, C6, E, C8, C9⟩ := C
  rw [List.map_cons, List.map_cons, List.map_cons, show g_v G (.ref a) = g_rv G a from rfl, hR.rv hG (x := a) (by omega)]
  obtain ⟨q1, q2⟩ := hR.row ha (by omega)
  have hO := (E.2.1 (p_kd h a) .boolean (by rw [hk]; rfl)).1
  refine W.zast C1 C2 q1 (hO _ _) (by intro h; cases h) (vp_in_size hj) rfl rfl d1 (fun H1 e1 e2 e3 => ?_)
  have hnar : narrow .boolean (.int v) = .int v := by rcases hv with rfl | rfl <;> decide
  rw [hnar] at e1
  have K := kk H1 (locs ++ [⟨g_ad G a, j.toNatClampNeg⟩]) lsm (S_set hG hR ha (by omega) (by rw [hk]; rfl) e1 e2 e3 (by rw [hk]; intro h; cases h)) (hS.put e2 e3 (g_free hG ha)) hL
  rw [d4] at K
  exact K
theorem S_len (hG : GOK G) {a : Nat} (hi : (z_code k)[pc]? = some .arraylength) (hk : Nat.ble 100 (p_kd h a) = true) : STEP G l k pc ls (.ref a :: r) h (pc + 1) ls (.int (Int32.ofNat (p_ln h a)) :: r) h := by
  intro d p e R s m args below meth c H locs lsm h0 Z C hR hS hL n0 u0 nc uc kk
  obtain ⟨d1, d2⟩ := at1 (Cx C) hi rfl (fun _ _ => rel1)
  have K := kk H locs lsm hR hS hL
  rw [d2] at K
  obtain ⟨C1, C2, C3, C4, C5, C6, E, C8, C9⟩ := C
  have hk := Nat.le_of_ble_eq_true hk
  rw [List.map_cons, show g_v G (.ref a) = g_rv G a from rfl, hR.rv hG (x := a) (by omega)]
  rcases Nat.lt_or_ge a 1000 with hlt | hge2
  · obtain ⟨s1, s2, s3, s4⟩ := hR.2.2.2.2.2.1 a hlt
    have hT := E.2.2.2.2.2.2.2.2.2.2.2.1 a hlt (by omega)
    exact va_tlen C1 C2 hT hS (by rw [s2]) d1 K
  · obtain ⟨q1, q2⟩ := hR.row hge2 hk
    have hty : ∃ t, z_ety (p_kd h a) = some t := by
      simp only [k_new, Bool.or_eq_true, Bool.and_eq_true] at q2
      rcases q2 with (((((((⟨q3, q2⟩ | q) | q) | q) | q) | q) | q) | q) | q
      · have := Nat.le_of_ble_eq_true q2; omega
      all_goals (rw [Nat.eq_of_beq_eq_true q]; exact ⟨_, rfl⟩)
    obtain ⟨t, ht⟩ := hty
    have hO := (E.2.1 (p_kd h a) t ht).1
    exact W.alen C1 C2 q1 (hO _ _) (by rw [arrV_size]) rfl rfl d1 K
theorem S_aastore (hG : GOK G) {a v : Nat} {j : Int32} (hi : (z_code k)[pc]? = some .aastore) (hk : p_kR (p_kd h a) = true) (ha : 1000 ≤ a) (hv : p_kd h v = p_el (p_kd h a) ∧ ¬ v = 0) (hj : p_in j (p_ln h a)) : STEP G l k pc ls (.ref v :: .int j :: .ref a :: r) h (pc + 1) ls r (p_wr h a j.toNatClampNeg v) := by
  intro d p e R s m args below meth c H locs lsm h0 Z C hR hS hL n0 u0 nc uc kk
  obtain ⟨d1, d2⟩ := at1 (Cx C) hi rfl (fun _ _ => rel1)
  obtain ⟨C1, C2, C3, C4, C5, C6, E, C8, C9⟩ := C
  have hk2 := hk
  simp only [p_kR, Bool.and_eq_true] at hk2
  have a1 := Nat.le_of_ble_eq_true hk2.1
  have a2 := Nat.le_of_ble_eq_true hk2.2
  rw [List.map_cons, List.map_cons, List.map_cons, show g_v G (.ref a) = g_rv G a from rfl, hR.rv hG (x := a) (by omega), show g_v G (.ref v) = g_rv G v from rfl]
  obtain ⟨q1, q2⟩ := hR.row ha (by omega)
  have hkn := kR_new hk q2
  have hty : ∃ t, z_ety (p_kd h a) = some t ∧ t.isReference = true := by
    rcases hkn with q | q | q | q | q <;> rw [q] <;> exact ⟨_, rfl, rfl⟩
  obtain ⟨t, ht, href⟩ := hty
  obtain ⟨hO, hRA, hcl⟩ := E.2.1 (p_kd h a) t ht
  obtain ⟨kA, comp, g1, g2, g3, g4⟩ := hcl href
  have fin : ∀ (H1 : Heap), H1[g_ad G a]? = some ((arrV (g_A G (p_kd h a)) (p_ln h a) (g_e G h a)).setSlot j.toNatClampNeg (g_rv G v)) → H1.size = H.size → (∀ q, q ≠ g_ad G a → H1[q]? = H[q]?) → W p l e R s m args below meth c H1 (locs ++ [⟨g_ad G a, j.toNatClampNeg⟩]) (p_nx h - p_nx h0) (p_us h - p_us h0) Z (F0 m (n_pc (z_raw k) pc + 1) lsm (r.map (g_v G))) := by
    intro H1 e1 e2 e3
    have hR1 : Rep G (p_wr h a j.toNatClampNeg v) H1 := by
      refine hR.put hG ha rfl rfl rfl wr_o e2 e3 ?_ ?_
      · unfold g_at
        show (match Nat.ble 100 (p_kd h a) with
          | false => _
          | true => H1[g_ad G a]? = some (arrV (g_A G (p_kd h a)) (p_ln h a) (g_e G (p_wr h a j.toNatClampNeg v) a)))
        rw [show Nat.ble 100 (p_kd h a) = true from Nat.ble_eq_true_of_le (by omega)]
        show H1[g_ad G a]? = _
        rw [e1, arrV_store]
        congr 2
        funext i
        unfold updV g_e
        show (if i = j.toNatClampNeg then g_rv G v else _) = (match p_kR (p_kd h a) with
          | true => g_rv G (if a = a ∧ i = j.toNatClampNeg then v else p_rm h a i)
          | false => _)
        rw [hk]
        by_cases hji : i = j.toNatClampNeg
        · rw [if_pos hji, if_pos ⟨rfl, hji⟩]
        · rw [if_neg hji, if_neg (fun q => hji q.2)]
      · intro hB
        have := kB_new hB q2
        omega
    have K := kk H1 (locs ++ [⟨g_ad G a, j.toNatClampNeg⟩]) lsm hR1 (hS.put e2 e3 (g_free hG ha)) hL
    rw [d2] at K
    exact K
  obtain ⟨hv, hv0⟩ := hv
  have hvk : p_kd h v ≠ 0 := by rw [hv]; rcases hkn with q | q | q | q | q <;> rw [q] <;> decide
  rw [hR.rv hG hvk] at fin ⊢
  have hcv : ∃ (cv : Cell) (kv : Class), H[g_ad G v]? = some cv ∧ (∀ q, cv.vm ≠ .statics q) ∧ s.vm.classes[cv.cls]? = some kv ∧ cv.cls = comp := by
    have obj : ∀ (k1 : Nat), 1 ≤ k1 → k1 ≤ 15 → k1 ≠ 14 → p_kd h v = k1 → s.vm.findClass (z_kn k1) = some comp → ∃ (cv : Cell) (kv : Class), H[g_ad G v]? = some cv ∧ (∀ q, cv.vm ≠ .statics q) ∧ s.vm.classes[cv.cls]? = some kv ∧ cv.cls = comp := by
      intro k1 b1 b2 b14 b3 b4
      obtain ⟨-, hfc, kC, hkC, -⟩ := E.1 k1 b1 (by omega)
      have hge : 1000 ≤ v := by
        rcases Nat.lt_or_ge v 1000 with q | q
        · obtain ⟨s1, -⟩ := hR.2.2.2.2.2.1 v q
          obtain ⟨-, -, -, -, -, -, -, -, -, -, E11, -⟩ := E
          rcases E11 v q (by rw [← s1, b3]; omega) with z | z | z <;> rw [← s1, b3] at z
          · exact absurd z b14
          · omega
          · omega
        · exact q
      have A := hR.cell hvk hge
      unfold g_at at A
      rw [b3, show Nat.ble 100 k1 = false by
        cases hz : Nat.ble 100 k1
        · rfl
        · have := Nat.le_of_ble_eq_true hz; omega] at A
      obtain ⟨cell, w1, w2, w3, -⟩ := A
      exact ⟨cell, kC, w1, (fun q => by rw [w3]; intro h; cases h), by rw [w2]; exact hkC, by rw [w2]; exact Option.some.inj (hfc.symm.trans b4)⟩
    have arr : ∀ (k1 : Nat), 100 ≤ k1 → k_new k1 = true → p_kd h v = k1 → comp = g_A G k1 → (∃ t, z_ety k1 = some t) → ∃ (cv : Cell) (kv : Class), H[g_ad G v]? = some cv ∧ (∀ q, cv.vm ≠ .statics q) ∧ s.vm.classes[cv.cls]? = some kv ∧ cv.cls = comp := by
      intro k1 b1 bn b2 b4 ⟨t1, b5⟩
      have b3 : 1000 ≤ v := by
        rcases Nat.lt_or_ge v 1000 with q | q
        · obtain ⟨s1, -⟩ := hR.2.2.2.2.2.1 v q
          have h9 := E.2.2.2.2.2.2.2.2.2.2.2.2.2 v q (by rw [← s1, b2]; exact b1)
          rw [← s1, b2, bn] at h9
          cases h9
        · exact q
      obtain ⟨w1, w2⟩ := hR.row b3 (by omega)
      obtain ⟨hO1, -, -⟩ := E.2.1 k1 t1 b5
      obtain ⟨-, kv, hkv, -⟩ := hO1 0 (fun _ => .null)
      exact ⟨_, kv, w1, (fun q => by intro h; cases h), by rw [b2]; exact hkv, by rw [b2]; exact b4.symm⟩
    rcases hkn with q | q | q | q | q
    · rw [q] at hv g3
      have hlt := hR.enum v hv
      obtain ⟨s1, -⟩ := hR.2.2.2.2.2.1 v hlt
      have hO16 := (E.2.2.2.2.2.2.2.2.2.1 v hlt (Or.inr (s1.symm.trans hv))).1
      rw [← s1, hv] at hO16
      obtain ⟨cell, w1, w2, w3, w4⟩ := hO16.kept hS.2.1
      obtain ⟨kC, hkC, -⟩ := Vm.findClass_spec w3
      have e1 : cell.cls = comp := Option.some.inj (w3.symm.trans (g3 (by omega)))
      exact ⟨cell, kC, w1, (fun z hz => by rw [hz] at w2; cases w2), hkC, e1⟩
    · rw [q] at hv g3
      exact obj 6 (by omega) (by omega) (by omega) hv (g3 (by omega))
    · rw [q] at hv g3
      exact obj 15 (by omega) (by omega) (by omega) hv (g3 (by omega))
    · rw [q] at hv g4
      exact arr 100 (by omega) rfl hv (g4 (by omega)) ⟨_, rfl⟩
    · rw [q] at hv g4
      exact arr 313 (by omega) rfl hv (g4 (by omega)) ⟨_, rfl⟩
  obtain ⟨cv, kv, c1, c2, c3, c4⟩ := hcv
  exact W.aast C1 C2 q1 (fun q => by intro h; cases h) (by intro h; cases h) g1 g2 href (by rw [← c4]; exact c3) ⟨fun q => absurd (n_pos (n := j) (fun _ => p_in_vp hj (Or.inl q))) (by have := Int32.lt_iff_toInt_lt.mp q; simp at this; omega), by rw [arrV_size]; exact hj.2⟩ c1 c2 c3 (by rw [c4]; exact va_asg _ _) rfl rfl d1 fin
end S7
end
section
/-! System.arraycopy and clone over bytes, Object's constructor, a cast. (w_copy and w_clone follow proofs of the kit, with the heap said cell by cell.) -/
section W1
variable {p : Program} {l : Launch} {e : Env} {R : Room} {s : State} {m : MethodId} {args : Array Value} {below : List Frame} {meth : Method} {c : Code} {H : Heap} {locs : List Loc} {cells slots : Nat} {Q : State → Prop} {cc : ByteArray} {pc : Nat} {ls : Array Slot} {rest : List Value}
theorem w_copy (hexec : p.tables.exec = Jvm.exec) (hb : c.code = cc) (hml : c.maxLocals = ls.size) {own : String} {index : Nat} (hown : s.vm.findClass own = some m.cls) (hlink : (Cond.methodLink own index arraycopyName).before args s = true) (hnat : (Cond.native arraycopyName).before args s = true) (hstat : (Cond.static arraycopyName).before args s = true) (hini : (Cond.initialized "java/lang/System").before args s = true)
    {b0 a n0 n1 : Nat} {c1 : ClassId} {f g : Nat → Int32} {scr : Cell} (hc0 : H[b0]? = some scr) (hs2 : s.isArrayOf scr .byte) (hs3 : scr.vm ≠ .unknown) (hs4 : n0 ≤ scr.slots.size) (hs5 : ∀ j, j < n0 → scr.slots[j]? = some (.int (f j))) (hc1 : H[a]? = some (arrV c1 n1 (fun j => .int (g j)))) (hO : ArrOfT s c1 .byte)
    {sp dp n : Int32} (h1 : ¬ sp < 0) (h2 : ¬ dp < 0) (h3 : ¬ n < 0) (h4 : sp.toNatClampNeg + n.toNatClampNeg ≤ n0) (h5 : dp.toNatClampNeg + n.toNatClampNeg ≤ n1) (hfit : ∀ i : Nat, i < n.toNatClampNeg → fits .byte (.int (f (sp.toNatClampNeg + i))) = true)
    (hframes : 1 ≤ R.frames) (hlocals : (rest.map fun v => v.category).sum + (nativeFrameWords "java/lang/System" "arraycopy" 5 + 11) ≤ R.locals) (hdg : decode cc pc = .ok (.invokestatic index, 3))
    (kk : ∀ (H1 : Heap) (locs1 : List Loc), H1[a]? = some (arrV c1 n1 (fun j => .int (va_cpy f g sp.toNatClampNeg dp.toNatClampNeg n.toNatClampNeg j))) → H1.size = H.size → (∀ q, q ≠ a → H1[q]? = H[q]?) → (∀ q ∈ locs1, q ∈ locs ∨ q.base = a) → W p l e R s m args below meth c H1 locs1 cells slots Q (F0 m (pc + 3) ls rest)) : W p l e R s m args below meth c H locs cells slots Q (F0 m pc ls (.int n :: .int dp :: .ref a :: .int sp :: .ref b0 :: rest)) := by
  have nn : ∀ z : Int32, ¬ z < 0 → z.toInt = (z.toNatClampNeg : Int) := by
    intro z hz
    have hz0 := n_pos hz
    show z.toInt = ((z.toInt.toNat : Nat) : Int)
    omega
  intro T hT X
  obtain ⟨hs6, k0, hk0, cm0, hkk0⟩ := hs2
  obtain ⟨-, k1, hk1, cm1, hkk1⟩ := hO n1 (fun j => .int (g j))
  obtain ⟨vm', X', step⟩ := X.arraycopy hexec hown hlink hnat hstat hini (src := b0) (dst := a) (cs := scr) (cd := arrV c1 n1 (fun j => .int (g j))) (srcPos := sp) (destPos := dp) (n := n) (by rw [hT]; exact hc0) (by rw [hT]; exact hc1)
    hs6 (fun _ h => by cases h) hs3 (fun h => by cases h) hk0 hk1 hkk0 hkk1 (by simp [refKind]) h1 h2 h3
    (by rw [nn sp h1, nn n h3]; omega)
    (by rw [nn dp h2, nn n h3, arrV_size]; omega)
    (fun vm₁ _ i hi => by
      have e : scr.slots.getD (sp.toNatClampNeg + i) .null = .int (f (sp.toNatClampNeg + i)) := by
        rw [Array.getD_eq_getD_getElem?, hs5 _ (by omega)]
        rfl
      refine ⟨?_, ?_⟩
      · rw [e]
        exact hfit i hi
      · rw [e]
        exact trivial)
    (g := F0 m pc ls (.int n :: .int dp :: .ref a :: .int sp :: .ref b0 :: rest)) rfl (by rw [hml]) (rest := rest) rfl (by rw [hb]; exact hdg) hframes (by show 2 * 0 + _ + _ ≤ _; omega)
  have e1 : copied scr (arrV c1 n1 (fun j => .int (g j))) sp dp n = arrV c1 n1 (fun j => .int (va_cpy f g sp.toNatClampNeg dp.toNatClampNeg n.toNatClampNeg j)) := va_copiedX (fun z => .int z) scr c1 f g hs5 h4
  rw [e1] at X' step
  have hl : a < H.size := (Array.getElem?_eq_some_iff.mp hc1).1
  have hheap : ((T.setVm vm').setCell a (arrV c1 n1 (fun j => .int (va_cpy f g sp.toNatClampNeg dp.toNatClampNeg n.toNatClampNeg j)))).heap = H.setIfInBounds a (arrV c1 n1 (fun j => .int (va_cpy f g sp.toNatClampNeg dp.toNatClampNeg n.toNatClampNeg j))) := by rw [← hT]; rfl
  obtain ⟨t, a1, b1⟩ := kk _ _ (show (H.setIfInBounds a _)[a]? = some _ by simp [Array.getElem?_setIfInBounds, hl]) (by simp) (fun q hq => by simp [Array.getElem?_setIfInBounds, Ne.symm hq]) (fun q hq => by
      rcases List.mem_append.mp hq with h | h
      · exact Or.inl h
      · obtain ⟨z, -, hz⟩ := List.mem_map.mp h
        rw [← hz]
        exact Or.inr rfl) _ hheap X'
  exact ⟨t, step t a1, b1⟩
theorem w_clone (hexec : p.tables.exec = Jvm.exec) (hb : c.code = cc) (hml : c.maxLocals = ls.size) {own ad : String} {index a n : Nat} {f : Nat → Value} (hown : s.vm.findClass own = some m.cls)
    (hlink : (Cond.methodLink own index ⟨ad, "clone", "()Ljava/lang/Object;"⟩).before args s = true) (hsame : (Cond.sameMethod ad "java/lang/Object" "clone" "()Ljava/lang/Object;").before args s = true)
    (hnat : (Cond.native ⟨"java/lang/Object", "clone", "()Ljava/lang/Object;"⟩).before args s = true) (hinst : (Cond.instanceMethod ⟨"java/lang/Object", "clone", "()Ljava/lang/Object;"⟩).before args s = true)
    (hsel : (Cond.selects ad ⟨ad, "clone", "()Ljava/lang/Object;"⟩ ⟨"java/lang/Object", "clone", "()Ljava/lang/Object;"⟩).before args s = true) (hcl : va_Nw (.castable ad "java/lang/Cloneable") s)
    {cA : ClassId} {ty : FieldType} (hc : H[a]? = some (arrV cA n f)) (hO : ArrOfT s cA ty) (hnm : s.vm.findClass ad = some cA) (hfit : ∀ (i : Nat) (v : Value), (arrV cA n f).slots[i]? = some v → fits ty v = true)
    (hframes : 1 ≤ R.frames) (hlocals : (rest.map fun v => v.category).sum + 14 ≤ R.locals) (hcells : cells + 1 ≤ R.cells) (hslots : slots + n ≤ R.slots) (hdg : decode cc pc = .ok (.invokevirtual index, 3))
    (kk : W p l e R s m args below meth c (H.push (arrV cA n f)) locs (cells + 1) (slots + n) Q (F0 m (pc + 3) ls (.ref H.size :: rest))) : W p l e R s m args below meth c H locs cells slots Q (F0 m pc ls (.ref a :: rest)) := by
  obtain ⟨c0, t0', f1, f2, f3⟩ := Cond.castable_spec (va_Nw.use (A := args) rfl hcl)
  cases hnm.symm.trans f1
  intro T hT X
  have hcellT : T.heap[a]? = some (arrV cA n f) := by rw [hT]; exact hc
  obtain ⟨-, kA, hkA, comp, hkind⟩ := State.isArrayOf_alike X.warmed.alike (hO 0 (fun _ => .null))
  obtain ⟨-, kS, hkS, compS, hkindS⟩ := hO 0 (fun _ => .null)
  obtain ⟨vm', X', st⟩ := X.cloneArray hexec hown hlink hsame hnat hinst hsel (a := a) (cell := arrV cA n f) hcellT (fun k h => by cases h) (fun h => by cases h) hnm f2 f3
    (fun i v hv => by
      have hk' : T.vm.classes[cA]? = some kA := hkA
      simpa [State.fitsSlot, State.slotType?, hk', hkind, arrV] using hfit i v hv)
    (g := F0 m pc ls (.ref a :: rest)) rfl (by rw [hml]) rfl (by rw [hb]; exact hdg) hframes (by show 2 * 0 + _ + 14 ≤ _; omega) hcells (by rw [arrV_size]; exact hslots) (hloader := Vm.clonesLoader_of_array hkS hkindS)
  rw [arrV_size] at X'
  obtain ⟨t, b1, b2⟩ := kk ((T.setVm vm').pushCell (arrV cA n f)) (by rw [← hT]; rfl) X'
  refine ⟨t, st t ?_, b2⟩
  rw [hT]
  exact b1
end W1
set_option maxRecDepth 100000 in
theorem w_nat : (Cond.native arraycopyName ∈ w_all ∧ Cond.static arraycopyName ∈ w_all) ∧ (Cond.initialized "java/lang/System" ∈ w_all ∧ Cond.instanceMethod Lib.objectInit ∈ w_all) ∧ (Cond.code Lib.objectInit ⟨#[0xb1]⟩ 1 none ∈ w_all ∧ Cond.native ⟨"java/lang/Object", "clone", "()Ljava/lang/Object;"⟩ ∈ w_all) ∧ (Cond.instanceMethod ⟨"java/lang/Object", "clone", "()Ljava/lang/Object;"⟩ ∈ w_all ∧ Cond.sameMethod "[B" "java/lang/Object" "clone" "()Ljava/lang/Object;" ∈ w_all) ∧ Cond.selects "[B" ⟨"[B", "clone", "()Ljava/lang/Object;"⟩ ⟨"java/lang/Object", "clone", "()Ljava/lang/Object;"⟩ ∈ w_all := by decide +kernel
def lx_chk (q : Nat × Nat × Nat × Nat) : Bool := decide (w_all[q.2.2.2]? = some (Cond.methodLink (z_cn q.1) q.2.1 (match Nat.beq q.2.2.1 900 with
  | true => arraycopyName
  | false => match Nat.beq q.2.2.1 901 with
    | true => ⟨"[B", "clone", "()Ljava/lang/Object;"⟩
    | false => Lib.objectInit)))
set_option maxRecDepth 100000 in
theorem lx_all : z_lx.all lx_chk = true := by decide +kernel
theorem lx_use {o x k : Nat} (h : e_lx o x k = true) : Cond.methodLink (z_cn o) x (match Nat.beq k 900 with
  | true => arraycopyName
  | false => match Nat.beq k 901 with
    | true => ⟨"[B", "clone", "()Ljava/lang/Object;"⟩
    | false => Lib.objectInit) ∈ w_g := by
  obtain ⟨q, hq, h1⟩ := List.any_eq_true.mp h
  simp only [Bool.and_eq_true] at h1
  obtain ⟨⟨e1, e2⟩, e3⟩ := h1
  have e1 := Nat.eq_of_beq_eq_true e1
  have e2 := Nat.eq_of_beq_eq_true e2
  have e3 := Nat.eq_of_beq_eq_true e3
  have h2 := of_decide_eq_true (List.all_eq_true.mp lx_all q hq)
  rw [e1, e2, e3] at h2
  exact w_at h2 rfl
theorem c_in {G : GG} {l : List Value} : ((l.map (g_v G)).map fun v => v.category).sum = c_sum l := g_csum G l
section S8
variable {G : GG} {l : Launch} {k pc : Nat} {ls : List Slot} {r : List Value} {h : PH}
theorem S_objinit (hG : GOK G) {a : Nat} (hi : (z_code k)[pc]? = some (.invokespecial 902)) (ha : 1000 ≤ a) (hr : c_sum r ≤ 8) : STEP G l k pc ls (.ref a :: r) h (pc + 1) ls r h := by
  intro d p e R s m args below meth c H locs lsm h0 Z C hR hS hL n0 u0 nc uc kk
  obtain ⟨q, len, d1, d2, d3⟩ := at_pc (Cx C) hi
  have d4 := d3.resolve_left (by intro h; cases h)
  have K := kk H locs lsm hR hS hL
  obtain ⟨C1, C2, C3, C4, C5, C6, E, C8, C9, C10, C11⟩ := C
  cases q <;> first
    | exact absurd d2 (by intro h; cases h)
    | skip
  rename_i x
  have d2 := Bool.and_eq_true_iff.mp d2
  have e3 := Nat.eq_of_beq_eq_true d2.2
  subst e3
  rw [d4] at K
  have hw := lx_use (o := z_ow k) (x := x) (k := 902) d2.1
  rw [List.map_cons, show g_v G (.ref a) = g_rv G a from rfl, g_rvr hG (by omega) (by omega)]
  exact W.objInit C1 C2 C5 (C6 _ hw) (C6 _ (List.mem_filter.mpr ⟨w_nat.2.1.2, rfl⟩)) (C6 _ (List.mem_filter.mpr ⟨w_nat.2.2.1.1, rfl⟩)) rfl (by rw [C4]; exact hL.1) rfl d1 (by omega) (by rw [c_in]; show 2 * 0 + _ + 12 ≤ _; omega) K
end S8
theorem cp_o {s sp d dp n : Nat} {h : PH} : ∀ b, b ≠ d → (∀ j, p_im (p_cp h s sp d dp n) b j = p_im h b j) ∧ ∀ j, p_rm (p_cp h s sp d dp n) b j = p_rm h b j := by
  intro b hb
  refine ⟨fun j => ?_, fun j => rfl⟩
  show (if b = d ∧ dp ≤ j ∧ j < dp + n then p_im h s (sp + (j - dp)) else p_im h b j) = p_im h b j
  rw [if_neg (fun q => hb q.1)]
section S9
variable {G : GG} {l : Launch} {k pc : Nat} {ls : List Slot} {r : List Value} {h : PH}
theorem S_copy (hG : GOK G) {a0 a : Nat} {sp dp n : Int32} (hi : (z_code k)[pc]? = some (.invokestatic 900)) (hk0 : p_kB (p_kd h a0) = true) (hk : p_kd h a = 120) (ha : 1000 ≤ a) (h1 : 0 ≤ sp.toInt) (h2 : 0 ≤ dp.toInt) (h3 : 0 ≤ n.toInt) (h4 : sp.toNatClampNeg + n.toNatClampNeg ≤ p_ln h a0) (h5 : dp.toNatClampNeg + n.toNatClampNeg ≤ p_ln h a) (hr : c_sum r ≤ 8) :
    STEP G l k pc ls (.int n :: .int dp :: .ref a :: .int sp :: .ref a0 :: r) h (pc + 1) ls r (p_cp h a0 sp.toNatClampNeg a dp.toNatClampNeg n.toNatClampNeg) := by
  intro d p e R s m args below meth c H locs lsm h0 Z C hR hS hL n0 u0 nc uc kk
  obtain ⟨q, len, d1, d2, d3⟩ := at_pc (Cx C) hi
  have d4 := d3.resolve_left (by intro h; cases h)
  obtain ⟨C1, C2, C3, C4, C5, C6, E, C8, C9, C10, C11⟩ := C
  cases q <;> first
    | exact absurd d2 (by intro h; cases h)
    | skip
  rename_i x
  have d2 := Bool.and_eq_true_iff.mp d2
  have e3 := Nat.eq_of_beq_eq_true d2.2
  subst e3
  have hw := lx_use (o := z_ow k) (x := x) (k := 900) d2.1
  have hkB2 := hk0
  simp only [p_kB, Bool.and_eq_true] at hkB2
  have b1 := Nat.le_of_ble_eq_true hkB2.1
  have b2 := Nat.le_of_ble_eq_true hkB2.2
  have hkI : p_kI (p_kd h a0) = false := by
    unfold p_kI
    cases hz : Nat.ble (p_kd h a0) 119
    · simp
    · have := Nat.le_of_ble_eq_true hz; omega
  have hkR : p_kR (p_kd h a0) = false := by
    unfold p_kR
    cases hz : Nat.ble 310 (p_kd h a0)
    · rfl
    · have := Nat.le_of_ble_eq_true hz; omega
  have ge0 : ∀ j, g_e G h a0 j = .int (p_im h a0 j) := fun j => by unfold g_e; rw [hkR]
  have ge1 : g_e G h a = fun j => .int (p_im h a j) := by funext j; unfold g_e; rw [hk]; rfl
  have np : ∀ z : Int32, 0 ≤ z.toInt → ¬ z < 0 := fun z hz q => by
    have := Int32.lt_iff_toInt_lt.mp q
    simp at this
    omega
  have hsrc : ∃ scr : Cell, H[g_ad G a0]? = some scr ∧ s.isArrayOf scr .byte ∧ scr.vm ≠ .unknown ∧ p_ln h a0 ≤ scr.slots.size ∧ ∀ j, j < p_ln h a0 → scr.slots[j]? = some (.int (p_im h a0 j)) := by
    rcases Nat.lt_or_ge a0 1000 with hlt | hge
    · obtain ⟨s1, s2, s3, s4⟩ := hR.2.2.2.2.2.1 a0 hlt
      have hT := E.2.2.2.2.2.2.2.2.2.2.2.1 a0 hlt (by omega)
      rw [show z_cty (p_kd (g_c G) a0) = .byte by unfold z_cty; rw [← s1, hkI, hk0]] at hT
      obtain ⟨scr, t1, t2, t3, t4, -, t5, -⟩ := hT.kept hS.2.1
      refine ⟨scr, t1, t2, t3, by rw [s2]; exact t4, fun j hj => ?_⟩
      rw [t5 j (by rw [← s2]; exact hj), g_e_c hR hlt j, ge0]
    · obtain ⟨q1, q2⟩ := hR.row hge (by omega)
      have h120 := kB_new hk0 q2
      have hO := (E.2.1 (p_kd h a0) .byte (by rw [h120]; rfl)).1
      exact ⟨_, q1, hO _ _, (by intro h; cases h), by rw [arrV_size]; exact Nat.le_refl _, fun j hj => by rw [arrV_read _ _ hj, ge0]⟩
  obtain ⟨scr, t1, t2, t3, t4, t5⟩ := hsrc
  obtain ⟨q1, q2⟩ := hR.row ha (by omega)
  rw [ge1] at q1
  have hO := (E.2.1 (p_kd h a) .byte (by rw [hk]; rfl)).1
  rw [List.map_cons, List.map_cons, List.map_cons, List.map_cons, List.map_cons, show g_v G (.ref a) = g_rv G a from rfl, show g_v G (.ref a0) = g_rv G a0 from rfl, hR.rv hG (x := a) (by omega), hR.rv hG (x := a0) (by omega)]
  have hnf : nativeFrameWords "java/lang/System" "arraycopy" 5 + 11 ≤ 50 := by decide
  refine w_copy C1 C2 (by rw [C4]; exact hL.1.symm) C5 (C6 _ hw) (C6 _ (List.mem_filter.mpr ⟨w_nat.1.1, rfl⟩)) (C6 _ (List.mem_filter.mpr ⟨w_nat.1.2, rfl⟩)) (C6 _ (List.mem_filter.mpr ⟨w_nat.2.1.1, rfl⟩)) t1 t2 t3 t4 t5 q1 hO (np _ h1) (np _ h2) (np _ h3) h4 h5 (fun i hi => hR.2.2.2.2.1 a0 _ hk0 (by omega)) (by omega) (by rw [c_in]; omega) d1 (fun H1 locs1 e1 e2 e3 e4 => ?_)
  have hR1 : Rep G (p_cp h a0 sp.toNatClampNeg a dp.toNatClampNeg n.toNatClampNeg) H1 := by
    refine hR.put hG ha rfl rfl rfl cp_o e2 e3 ?_ ?_
    · unfold g_at
      show (match Nat.ble 100 (p_kd h a) with
        | false => _
        | true => H1[g_ad G a]? = some (arrV (g_A G (p_kd h a)) (p_ln h a) (g_e G (p_cp h a0 sp.toNatClampNeg a dp.toNatClampNeg n.toNatClampNeg) a)))
      rw [show Nat.ble 100 (p_kd h a) = true from Nat.ble_eq_true_of_le (by omega)]
      show H1[g_ad G a]? = _
      rw [e1]
      congr 2
      funext j
      unfold g_e
      show _ = (match p_kR (p_kd h a) with
        | true => _
        | false => Value.int (if a = a ∧ dp.toNatClampNeg ≤ j ∧ j < dp.toNatClampNeg + n.toNatClampNeg then p_im h a0 (sp.toNatClampNeg + (j - dp.toNatClampNeg)) else p_im h a j))
      rw [show p_kR (p_kd h a) = false by rw [hk]; rfl]
      unfold va_cpy
      by_cases hj : dp.toNatClampNeg ≤ j ∧ j < dp.toNatClampNeg + n.toNatClampNeg
      · rw [if_pos hj, if_pos ⟨rfl, hj⟩]
      · rw [if_neg hj, if_neg (fun q => hj q.2)]
    · intro _ j hj
      show fits .byte (.int (if a = a ∧ dp.toNatClampNeg ≤ j ∧ j < dp.toNatClampNeg + n.toNatClampNeg then p_im h a0 (sp.toNatClampNeg + (j - dp.toNatClampNeg)) else p_im h a j)) = true
      by_cases hj2 : dp.toNatClampNeg ≤ j ∧ j < dp.toNatClampNeg + n.toNatClampNeg
      · rw [if_pos ⟨rfl, hj2⟩]; exact hR.2.2.2.2.1 a0 _ hk0 (by omega)
      · rw [if_neg (fun q => hj2 q.2)]; exact hR.2.2.2.2.1 a j (by rw [hk]; rfl) hj
  have hS1 : va_S (g_F G) s.heap H1 locs1 := ⟨by rw [e2]; exact hS.1, fun q w1 w2 => by
      rw [e3 q (fun z => w2 (by rw [z]; exact g_free hG ha))]
      exact hS.2.1 q w1 w2, fun q hq => by
      rcases e4 q hq with z | z
      · exact hS.2.2 q z
      · rw [z]; exact g_free hG ha⟩
  have K := kk H1 locs1 lsm hR1 hS1 hL
  rw [d4] at K
  exact K
theorem S_clone (hG : GOK G) {a : Nat} (hi : (z_code k)[pc]? = some (.invokevirtual 901)) (hk : p_kd h a = 120) (ha : 1000 ≤ a) (hr : c_sum r ≤ 8) :
    STEP G l k pc ls (.ref a :: r) h (pc + 1) ls (.ref (p_nx h) :: r) (p_cl (p_new h 120 (p_ln h a) (p_ln h a)) (p_nx h) a) := by
  intro d p e R s m args below meth c H locs lsm h0 Z C hR hS hL n0 u0 nc uc kk
  obtain ⟨q, len, d1, d2, d3⟩ := at_pc (Cx C) hi
  have d4 := d3.resolve_left (by intro h; cases h)
  obtain ⟨C1, C2, C3, C4, C5, C6, E, C8, C9, C10, C11⟩ := C
  cases q <;> first
    | exact absurd d2 (by intro h; cases h)
    | skip
  · rename_i x
    have d2 := Bool.and_eq_true_iff.mp d2
    exact absurd d2.2 (by decide)
  rename_i x
  have d2 := Bool.and_eq_true_iff.mp d2
  have e3 := Nat.eq_of_beq_eq_true d2.2
  subst e3
  have hw := lx_use (o := z_ow k) (x := x) (k := 901) d2.1
  have hnx : p_nx (p_cl (p_new h 120 (p_ln h a) (p_ln h a)) (p_nx h) a) = p_nx h + 1 := rfl
  have hus : p_us (p_cl (p_new h 120 (p_ln h a) (p_ln h a)) (p_nx h) a) = p_us h + p_ln h a := rfl
  rw [hnx] at nc
  rw [hus] at uc
  have hlt := hR.lt (x := a) (by omega)
  have hsz := hR.1
  have hge := hR.2.1
  have had := hG.2.2.1 (p_nx h) hge
  have hae : g_ad G (p_nx h) = H.size := by omega
  have ge1 : g_e G h a = fun j => .int (p_im h a j) := by funext j; unfold g_e; rw [hk]; rfl
  obtain ⟨q1, q2⟩ := hR.row ha (by omega)
  obtain ⟨hO, hRA, -⟩ := E.2.1 (p_kd h a) .byte (by rw [hk]; rfl)
  have im1 : ∀ j, p_im (p_cl (p_new h 120 (p_ln h a) (p_ln h a)) (p_nx h) a) (p_nx h) j = p_im h a j := by
    intro j
    show (if p_nx h = p_nx h then p_im (p_new h 120 (p_ln h a) (p_ln h a)) a j else _) = _
    rw [if_pos rfl]
    exact (new_o (h := h) (k1 := 120) (n := p_ln h a) (u := p_ln h a) a (by omega)).2.2.1 j
  rw [List.map_cons, show g_v G (.ref a) = g_rv G a from rfl, hR.rv hG (x := a) (by omega)]
  refine w_clone C1 C2 (by rw [C4]; exact hL.1.symm) C5 (C6 _ hw) (C6 _ (List.mem_filter.mpr ⟨w_nat.2.2.2.1.2, rfl⟩)) (C6 _ (List.mem_filter.mpr ⟨w_nat.2.2.1.2, rfl⟩)) (C6 _ (List.mem_filter.mpr ⟨w_nat.2.2.2.1.1, rfl⟩)) (C6 _ (List.mem_filter.mpr ⟨w_nat.2.2.2.2, rfl⟩)) (E.2.2.1 _ (by simp [z_nw])) q1 hO hRA (fun i v hv => ?_) (by omega) (by rw [c_in]; omega) (by omega) (by omega) d1 ?_
  · have hil : i < p_ln h a := by
      have := (Array.getElem?_eq_some_iff.mp hv).1
      rwa [arrV_size] at this
    rw [arrV_read _ _ hil, ge1] at hv
    cases hv
    exact hR.2.2.2.2.1 a i (by rw [hk]; rfl) hil
  have hR1 : Rep G (p_cl (p_new h 120 (p_ln h a) (p_ln h a)) (p_nx h) a) (H.push (arrV (g_A G (p_kd h a)) (p_ln h a) (g_e G h a))) := by
    refine hR.push hG rfl (fun b hb => ?_) (by simp) (fun q hq => push_at hq) ?_ ?_ ?_
    · obtain ⟨o1, o2, o3, o4⟩ := new_o (h := h) (k1 := 120) (n := p_ln h a) (u := p_ln h a) b hb
      refine ⟨o1, o2, fun j => ?_, o4⟩
      show (if b = p_nx h then _ else p_im (p_new h 120 (p_ln h a) (p_ln h a)) b j) = _
      rw [if_neg hb]
      exact o3 j
    · unfold g_at
      rw [show p_kd (p_cl (p_new h 120 (p_ln h a) (p_ln h a)) (p_nx h) a) (p_nx h) = 120 from new_kd (n := p_ln h a) (u := p_ln h a), show p_ln (p_cl (p_new h 120 (p_ln h a) (p_ln h a)) (p_nx h) a) (p_nx h) = p_ln h a from new_ln (k1 := 120) (u := p_ln h a), hae]
      show _ = some (arrV _ _ _)
      rw [push_end, hk, ge1]
      congr 2
      funext j
      unfold g_e
      rw [show p_kd (p_cl (p_new h 120 (p_ln h a) (p_ln h a)) (p_nx h) a) (p_nx h) = 120 from new_kd (n := p_ln h a) (u := p_ln h a), im1]
      rfl
    · intro _ j hj
      rw [im1]
      rw [show p_ln (p_cl (p_new h 120 (p_ln h a) (p_ln h a)) (p_nx h) a) (p_nx h) = p_ln h a from new_ln (k1 := 120) (u := p_ln h a)] at hj
      exact hR.2.2.2.2.1 a j (by rw [hk]; rfl) hj
    · rw [show p_kd (p_cl (p_new h 120 (p_ln h a) (p_ln h a)) (p_nx h) a) (p_nx h) = 120 from new_kd (n := p_ln h a) (u := p_ln h a)]; rfl
  have K := kk _ locs lsm hR1 (hS.more (by simp) (fun q hq => push_at hq)) hL
  rw [d4, hnx, hus, List.map_cons, show g_v G (.ref (p_nx h)) = g_rv G (p_nx h) from rfl, g_rvr hG (by omega) (by omega), hae] at K
  have t1 : p_nx h - p_nx h0 + 1 = p_nx h + 1 - p_nx h0 := by omega
  have t2 : p_us h - p_us h0 + p_ln h a = p_us h + p_ln h a - p_us h0 := by omega
  rw [t1, t2]
  exact K
def cast_chk (k : Nat) : Bool := (List.range (z_code k).length).all (fun j => match (z_code k)[j]? with
  | some (.checkcast _) => (match (z_raw k)[j]? with
    | some (_, .checkcast x, _) => decide (Cond.classLink (z_cn (z_ow k)) x "[B" ∈ w_all)
    | _ => false)
  | _ => true)
set_option maxRecDepth 100000 in
theorem cast_all : (List.range 190).all cast_chk = true := by decide +kernel
theorem S_cast (hG : GOK G) {a n : Nat} (hi : (z_code k)[pc]? = some (.checkcast n)) (hk : p_kd h a = 120) (ha : 1000 ≤ a) : STEP G l k pc ls (.ref a :: r) h (pc + 1) ls (.ref a :: r) h := by
  intro d p e R s m args below meth c H locs lsm h0 Z C hR hS hL n0 u0 nc uc kk
  have hk190 := Cx C
  obtain ⟨q, len, d1, d2, d3⟩ := at_pc hk190 hi
  have d4 := d3.resolve_left (by intro h; cases h)
  have K := kk H locs lsm hR hS hL
  obtain ⟨C1, C2, C3, C4, C5, C6, E, C8, C9, C10, C11⟩ := C
  have hlt := (List.getElem?_eq_some_iff.mp hi).1
  have hc := List.all_eq_true.mp (List.all_eq_true.mp cast_all k (List.mem_range.mpr hk190)) pc (List.mem_range.mpr hlt)
  rw [hi] at hc
  have hc : (match (z_raw k)[pc]? with
    | some (_, .checkcast x, _) => decide (Cond.classLink (z_cn (z_ow k)) x "[B" ∈ w_all)
    | _ => false) = true := hc
  cases hz : (z_raw k)[pc]? with
  | none => rw [hz] at hc; cases hc
  | some w =>
    obtain ⟨w1, w2, w3⟩ := w
    have hp : n_pc (z_raw k) pc = w1 := by unfold n_pc; rw [List.getD_eq_getElem?_getD, hz]; rfl
    have h4 := of_decide_eq_true (List.all_eq_true.mp (e_d_all k hk190) _ (List.mem_of_getElem? hz))
    rw [← hp] at h4
    have h5 := h4.symm.trans d1
    have e6 : w2 = q := by
      injection h5 with h5
      exact (Prod.mk.inj h5).1
    rw [e6] at hz
    cases q <;> first
      | exact absurd d2 (by intro h; cases h)
      | skip
    rename_i x
    have e3 := Nat.eq_of_beq_eq_true d2
    subst e3
    rw [hz] at hc
    have hw := of_decide_eq_true hc
    rw [d4] at K
    rw [List.map_cons, show g_v G (.ref a) = g_rv G a from rfl, hR.rv hG (x := a) (by omega)] at K ⊢
    obtain ⟨q1, q2⟩ := hR.row ha (by omega)
    have ge1 : g_e G h a = fun j => .int (p_im h a j) := by funext j; unfold g_e; rw [hk]; rfl
    obtain ⟨hO, hRA, -⟩ := E.2.1 (p_kd h a) .byte (by rw [hk]; rfl)
    rw [ge1] at q1
    exact va_castA (D := g_D G) (cl := z_cl) (ws := [(g_ad G a, .inl (g_A G (p_kd h a), (p_ln h a, .inl (p_im h a))))]) C1 C2 C5 (C6 _ (List.mem_filter.mpr ⟨hw, rfl⟩)) (fun i y hy => by
      cases i with
      | zero => cases hy; exact q1
      | succ i => simp at hy) 0 rfl hRA d1 K
end S9
end
section
/-! Constants: numbers, texts, statics. -/
def lk_chk (q : Nat × Nat × Int × Nat) : Bool := decide (w_all[q.2.2.2]? = some (Cond.constant (z_cn q.1) q.2.1 (Int32.ofInt q.2.2.1)))
def ll_chk (q : Nat × Nat × Nat × Nat) : Bool := decide (w_all[q.2.2.2]? = some (Cond.constantLong (z_cn q.1) q.2.1 (Int64.ofNat q.2.2.1)))
def lgi_chk (q : Nat × Nat × Int × (String × String × String) × Nat) : Bool := decide (w_all[q.2.2.2.2]? = some (Cond.fieldLink (z_cn q.1) q.2.1 q.2.2.2.1.1 q.2.2.2.1.2.1 q.2.2.2.1.2.2))
def lg_chk (q : Nat × Nat × Nat × (String × String × String) × Nat) : Bool := decide (w_all[q.2.2.2.2]? = some (Cond.fieldLink (z_cn q.1) q.2.1 q.2.2.2.1.1 q.2.2.2.1.2.1 q.2.2.2.1.2.2))
set_option maxRecDepth 100000 in
theorem lk_all : z_lk.all lk_chk = true := by decide +kernel
set_option maxRecDepth 100000 in
theorem ll_all : z_ll.all ll_chk = true := by decide +kernel
set_option maxRecDepth 100000 in
theorem lgi_all : z_lgi.all lgi_chk = true := by decide +kernel
set_option maxRecDepth 100000 in
theorem lg_all : z_lg.all lg_chk = true := by decide +kernel
theorem ls_all : z_ls.all (fun q => Nat.ble 100 q.2.2.1) = true := by decide +kernel
theorem lgn_all : ∀ q ∈ z_lgn, Cond.fieldLinkNest (z_cn q.1) q.2.1 q.2.2.2.1 q.2.2.2.2.1 q.2.2.2.2.2 "ClauseDesk" ∈ z_nw := by decide +kernel
theorem lk_use {o x : Nat} {n : Int} (h : z_lk.any (fun q => Nat.beq q.1 o && Nat.beq q.2.1 x && decide (q.2.2.1 = n)) = true) : Cond.constant (z_cn o) x (Int32.ofInt n) ∈ w_g := by
  obtain ⟨q, hq, h1⟩ := List.any_eq_true.mp h
  simp only [Bool.and_eq_true, decide_eq_true_eq] at h1
  obtain ⟨⟨e1, e2⟩, e3⟩ := h1
  have e1 := Nat.eq_of_beq_eq_true e1
  have e2 := Nat.eq_of_beq_eq_true e2
  have h2 := of_decide_eq_true (List.all_eq_true.mp lk_all q hq)
  rw [e1, e2, e3] at h2
  exact w_at h2 rfl
section S10
variable {G : GG} {l : Launch} {k pc : Nat} {ls : List Slot} {r : List Value} {h : PH}
theorem S_iconst {n : Int} (hi : (z_code k)[pc]? = some (.iconst n)) : STEP G l k pc ls r h (pc + 1) ls (.int (Int32.ofInt n) :: r) h := by
  intro d p e R s m args below meth c H locs lsm h0 Z C hR hS hL n0 u0 nc uc kk
  obtain ⟨q, len, d1, d2, d3⟩ := at_pc (Cx C) hi
  have d4 := d3.resolve_left (by intro h; cases h)
  have K := kk H locs lsm hR hS hL
  obtain ⟨C1, C2, C3, C4, C5, C6, E, C8, C9, C10, C11⟩ := C
  have d2 : e_cn (z_ow k) n q len = true := d2
  cases q <;> first
    | exact absurd d2 (by intro h; cases h)
    | skip
  all_goals (have d2 := Bool.and_eq_true_iff.mp d2)
  all_goals (have e3 := Nat.eq_of_beq_eq_true d2.2)
  all_goals (subst e3)
  all_goals (rw [d4] at K)
  · exact lv_bipush C1 C2 d1 (of_decide_eq_true d2.1) K
  · obtain ⟨q, hq, h1⟩ := List.any_eq_true.mp d2.1
    simp only [Bool.and_eq_true, decide_eq_true_eq] at h1
    obtain ⟨⟨e1, e2⟩, e3⟩ := h1
    have e1 := Nat.eq_of_beq_eq_true e1
    have e2 := Nat.eq_of_beq_eq_true e2
    have h2 := of_decide_eq_true (List.all_eq_true.mp lgi_all q hq)
    have hZ := E.2.2.2.2.2.2.1 q hq
    rw [e1, e2] at h2
    rw [e3] at hZ
    exact va_gets C1 C2 hZ hS C5 (C6 _ (w_at h2 rfl)) (fun _ z => z) d1 K
  · have e1 := of_decide_eq_true d2.1
    subst e1
    exact lv_iconst C1 C2 d1 rfl K
  · exact lv_ldc C1 C2 C5 (C6 _ (lk_use d2.1)) d1 K
  · exact lv_ldcw C1 C2 C5 (C6 _ (lk_use d2.1)) d1 K
  · exact lv_sipush C1 C2 d1 (of_decide_eq_true d2.1) K
theorem S_lconst {n : Nat} (hi : (z_code k)[pc]? = some (.ldc2_w n)) : STEP G l k pc ls r h (pc + 1) ls (.long (Int64.ofNat n) :: r) h := by
  intro d p e R s m args below meth c H locs lsm h0 Z C hR hS hL n0 u0 nc uc kk
  obtain ⟨q, len, d1, d2, d3⟩ := at_pc (Cx C) hi
  have d4 := d3.resolve_left (by intro h; cases h)
  have K := kk H locs lsm hR hS hL
  obtain ⟨C1, C2, C3, C4, C5, C6, E, C8, C9, C10, C11⟩ := C
  cases q <;> first
    | exact absurd d2 (by intro h; cases h)
    | skip
  all_goals (have d2 := Bool.and_eq_true_iff.mp d2)
  all_goals (have e3 := Nat.eq_of_beq_eq_true d2.2)
  all_goals (subst e3)
  all_goals (rw [d4] at K)
  · exact lv_lconst C1 C2 d1 (by rw [Nat.eq_of_beq_eq_true d2.1]) K
  · obtain ⟨q, hq, h1⟩ := List.any_eq_true.mp d2.1
    simp only [Bool.and_eq_true] at h1
    obtain ⟨⟨e1, e2⟩, e3⟩ := h1
    have e1 := Nat.eq_of_beq_eq_true e1
    have e2 := Nat.eq_of_beq_eq_true e2
    have e3 := Nat.eq_of_beq_eq_true e3
    have h2 := of_decide_eq_true (List.all_eq_true.mp ll_all q hq)
    rw [e1, e2, e3] at h2
    exact lv_ldc2 C1 C2 C5 (C6 _ (w_at h2 rfl)) d1 K
theorem S_dconst {n : Fin 2} (hi : (z_code k)[pc]? = some (.dconst n)) : STEP G l k pc ls r h (pc + 1) ls (.double 0 :: r) h := by
  intro d p e R s m args below meth c H locs lsm h0 Z C hR hS hL n0 u0 nc uc kk
  obtain ⟨q, len, d1, d2, d3⟩ := at_pc (Cx C) hi
  have d4 := d3.resolve_left (by intro h; cases h)
  have K := kk H locs lsm hR hS hL
  cases q <;> first
    | exact absurd d2 (by intro h; cases h)
    | skip
  rename_i f
  have d2 := Bool.and_eq_true_iff.mp d2
  have e3 := Nat.eq_of_beq_eq_true d2.2
  subst e3
  have e1 : f = 0 := Fin.ext (Nat.eq_of_beq_eq_true d2.1)
  subst e1
  rw [d4] at K
  exact lv_dconst0 C.1 C.2.1 d1 K
theorem S_ldc (hG : GOK G) {a : Nat} (hi : (z_code k)[pc]? = some (.ldc a)) : STEP G l k pc ls r h (pc + 1) ls (.ref a :: r) h := by
  intro d p e R s m args below meth c H locs lsm h0 Z C hR hS hL n0 u0 nc uc kk
  obtain ⟨q, len, d1, d2, d3⟩ := at_pc (Cx C) hi
  have d4 := d3.resolve_left (by intro h; cases h)
  have K := kk H locs lsm hR hS hL
  obtain ⟨C1, C2, C3, C4, C5, C6, E, C8, C9, C10, C11⟩ := C
  rw [List.map_cons, show g_v G (.ref a) = g_rv G a from rfl] at K
  cases q <;> first
    | exact absurd d2 (by intro h; cases h)
    | skip
  all_goals (have d2 := Bool.and_eq_true_iff.mp d2)
  all_goals (have e3 := Nat.eq_of_beq_eq_true d2.2)
  all_goals (subst e3)
  all_goals (rw [d4] at K)
  · rcases Bool.or_eq_true_iff.mp d2.1 with d5 | d5
    · obtain ⟨q, hq, h1⟩ := List.any_eq_true.mp d5
      simp only [Bool.and_eq_true] at h1
      obtain ⟨⟨e1, e2⟩, e3⟩ := h1
      have e1 := Nat.eq_of_beq_eq_true e1
      have e2 := Nat.eq_of_beq_eq_true e2
      have e3 := Nat.eq_of_beq_eq_true e3
      have h2 := of_decide_eq_true (List.all_eq_true.mp lg_all q hq)
      have hZ := E.2.2.2.2.2.1 q hq
      rw [e1, e2] at h2
      rw [e3] at hZ
      exact va_gets C1 C2 hZ hS C5 (C6 _ (w_at h2 rfl)) (fun _ z => z) d1 K
    · obtain ⟨q, hq, h1⟩ := List.any_eq_true.mp d5
      simp only [Bool.and_eq_true] at h1
      obtain ⟨⟨e1, e2⟩, e3⟩ := h1
      have e1 := Nat.eq_of_beq_eq_true e1
      have e2 := Nat.eq_of_beq_eq_true e2
      have e3 := Nat.eq_of_beq_eq_true e3
      have h2 := E.2.2.1 _ (lgn_all q hq)
      have hZ := E.2.2.2.2.2.2.2.1 q hq
      rw [e1, e2] at h2
      rw [e3] at hZ
      exact va_getsN C1 C2 hZ hS C5 (va_Nw.use rfl h2) (fun _ z => z) d1 K
  · obtain ⟨q, hq, h1⟩ := List.any_eq_true.mp d2.1
    simp only [Bool.and_eq_true] at h1
    obtain ⟨⟨e1, e2⟩, e3⟩ := h1
    have e1 := Nat.eq_of_beq_eq_true e1
    have e2 := Nat.eq_of_beq_eq_true e2
    have e3 := Nat.eq_of_beq_eq_true e3
    have hZ := E.2.2.2.2.2.2.2.2.1 q hq
    have hge := Nat.le_of_ble_eq_true (List.all_eq_true.mp ls_all q hq)
    rw [e1, e2, e3] at hZ
    rw [e3] at hge
    rw [g_rvr hG (by omega) (by omega)] at K
    exact va_ldcS C1 C2 C5 hZ d1 K
theorem sw_inv {x : Int32} {K : Nat → Prop} {dflt : Nat} : ∀ {lo : Int} {l : List Int}, 0 ≤ lo → lo + l.length ≤ 200 → b_sw x K dflt lo l → (∃ (i : Nat) (o : Int), l[i]? = some o ∧ x.toInt = lo + i ∧ K o.toNat) ∨ ((∀ i : Nat, i < l.length → x.toInt ≠ lo + i) ∧ K dflt)
  | lo, [], _, _, h => Or.inr ⟨fun i hi => by simp at hi, h⟩
  | lo, o :: r, h1, h2, h => by
    simp only [List.length_cons] at h2
    have hl : (Int32.ofInt lo).toInt = lo := by
      rw [Int32.toInt_ofInt_of_le (by omega) (by omega)]
    unfold b_sw at h
    split at h
    · next hx =>
      refine Or.inl ⟨0, o, rfl, ?_, h⟩
      rw [hx, hl]; simp
    · next hx =>
      have hne : x.toInt ≠ lo := fun q => hx (Int32.toInt_inj.mp (by rw [q, hl]))
      rcases sw_inv (by omega) (by push_cast at h2 ⊢; omega) h with ⟨i, o1, h3, h4, h5⟩ | ⟨h3, h4⟩
      · exact Or.inl ⟨i + 1, o1, by simpa using h3, by rw [h4]; push_cast; omega, h5⟩
      · refine Or.inr ⟨fun i hi => ?_, h4⟩
        cases i with
        | zero => simpa using hne
        | succ i =>
          have := h3 i (by simpa using hi)
          push_cast at this ⊢
          omega
theorem jts_inv {raw : List (Nat × Instr × Nat)} {pc : Nat} : ∀ {a b : List Int}, e_jts raw pc a b = true → a.length = b.length ∧ ∀ (i : Nat) (y : Int), b[i]? = some y → ∃ x, a[i]? = some x ∧ (pc : Int) + x = ((n_pc raw y.toNat : Nat) : Int)
  | [], [], _ => ⟨rfl, fun i y h => by simp at h⟩
  | [], _ :: _, h => by cases h
  | _ :: _, [], h => by cases h
  | x :: a, y :: b, h => by
    have h := Bool.and_eq_true_iff.mp h
    obtain ⟨h1, h2⟩ := jts_inv h.2
    refine ⟨by simp [h1], fun i z hz => ?_⟩
    cases i with
    | zero => simp at hz ⊢; subst hz; exact jt_inv h.1
    | succ i => simp at hz ⊢; exact h2 i z hz
theorem at_sw {dflt lo hi : Int} {ts : Array Int} (hk : k < 190) (hi0 : (z_code k)[pc]? = some (.tableswitch dflt lo hi ts)) : 0 ≤ lo ∧ hi < 100 ∧ ((ts.toList.length : Int) = hi - lo + 1) ∧ ∃ (d1 : Int) (offs : Array Int) (len : Nat), decode (z_b k) (n_pc (z_raw k) pc) = .ok (.tableswitch d1 lo hi offs, len) ∧ ((n_pc (z_raw k) pc : Nat) : Int) + d1 = ((n_pc (z_raw k) dflt.toNat : Nat) : Int) ∧ ∀ (i : Nat) (y : Int), ts.toList[i]? = some y → ∃ x, offs[i]? = some x ∧ ((n_pc (z_raw k) pc : Nat) : Int) + x = ((n_pc (z_raw k) y.toNat : Nat) : Int) := by
  obtain ⟨q, len, d1, d2, d3⟩ := at_pc hk hi0
  cases q <;> first
    | exact absurd d2 (by intro h; cases h)
    | skip
  rename_i e1 e2 e3 offs
  simp only [e_rel, Bool.and_eq_true, decide_eq_true_eq] at d2
  obtain ⟨⟨⟨⟨⟨⟨rfl, rfl⟩, g1⟩, g2⟩, g3⟩, g4⟩, g5⟩ := d2
  obtain ⟨g6, g7⟩ := jts_inv g5
  refine ⟨g1, g2, by rw [← g6]; exact g3, e1, offs, len, d1, jt_inv g4, fun i y hy => ?_⟩
  obtain ⟨x, hx, hx2⟩ := g7 i y hy
  exact ⟨x, by rw [← Array.getElem?_toList]; exact hx, hx2⟩
theorem S_sw_in {dflt lo hi : Int} {ts : Array Int} {x : Int32} {i : Nat} {o : Int} (hi0 : (z_code k)[pc]? = some (.tableswitch dflt lo hi ts)) (ho : ts.toList[i]? = some o) (hx : x.toInt = lo + i) : STEP G l k pc ls (.int x :: r) h o.toNat ls r h := by
  intro d p e R s m args below meth c H locs lsm h0 Z C hR hS hL n0 u0 nc uc kk
  obtain ⟨g1, g2, g3, d1, offs, len, d2, d3, d4⟩ := at_sw (Cx C) hi0
  obtain ⟨y, hy, hy2⟩ := d4 i o ho
  have hlt := (List.getElem?_eq_some_iff.mp ho).1
  exact lv_tableIn C.1 C.2.1 d2 (by omega) (by omega) (by rw [show (x.toInt - lo).toNat = i by omega]; exact hy) hy2 (kk H locs lsm hR hS hL)
theorem S_sw_out {dflt lo hi : Int} {ts : Array Int} {x : Int32} (hi0 : (z_code k)[pc]? = some (.tableswitch dflt lo hi ts)) (hx : ∀ i : Nat, i < ts.toList.length → x.toInt ≠ lo + i) : STEP G l k pc ls (.int x :: r) h dflt.toNat ls r h := by
  intro d p e R s m args below meth c H locs lsm h0 Z C hR hS hL n0 u0 nc uc kk
  obtain ⟨g1, g2, g3, d1, offs, len, d2, d3, d4⟩ := at_sw (Cx C) hi0
  refine lv_tableOut C.1 C.2.1 d2 ?_ d3 (kk H locs lsm hR hS hL)
  by_cases q : x.toInt < lo
  · exact Or.inl q
  · right
    by_cases z : hi < x.toInt
    · exact z
    · have := hx (x.toInt - lo).toNat (by omega)
      omega
end S10
end
section
/-! Calls: from the run of the one that is called, its contract; from that, the caller goes on. -/
def e_shape (ret : Option FieldType) (v : Option Value) : Prop := match v with
  | none => ret = none
  | some (.int x) => ∃ t, ret = some t ∧ narrow t (.int x) = .int x
  | some (.ref _) => ∃ t, ret = some t ∧ ((∃ n, t = .object n) ∨ ∃ u, t = .array u)
  | some (.double _) => ret = some .double
  | _ => False
def z_ws (k : Nat) : List Cond := Cond.code (z_y k) (z_b k) (z_ml k) (z_ret k) :: w_g
def ow_chk (k : Nat) : Bool := decide (z_cn (z_ow k) = (z_y k).cls) && plainFor (z_y k) && (!z_ini k || decide ((z_y k).name = "<init>")) && decide ((z_y k).cls ≠ "java/lang/invoke/MethodHandle") && decide ((z_y k).cls ≠ "java/lang/invoke/VarHandle") && Nat.ble (z_ml k) 30 && Nat.ble (z_na k) (z_ml k)
set_option maxRecDepth 100000 in
theorem ow_all : (List.range 190).all ow_chk = true := by decide +kernel
theorem ow_at {k : Nat} (hk : k < 190) : z_cn (z_ow k) = (z_y k).cls ∧ plainFor (z_y k) = true ∧ (z_ini k = true → (z_y k).name = "<init>") ∧ ((z_y k).cls ≠ "java/lang/invoke/MethodHandle" ∧ (z_y k).cls ≠ "java/lang/invoke/VarHandle") ∧ z_ml k ≤ 30 ∧ z_na k ≤ z_ml k := by
  have h := List.all_eq_true.mp ow_all k (List.mem_range.mpr hk)
  simp only [ow_chk, Bool.and_eq_true, Bool.or_eq_true, decide_eq_true_eq, Bool.not_eq_true'] at h
  obtain ⟨⟨⟨⟨⟨⟨h1, h2⟩, h3⟩, h4⟩, h5⟩, h6⟩, h7⟩ := h
  exact ⟨h1, h2, fun q => h3.resolve_left (by rw [q]; decide), ⟨h4, h5⟩, Nat.le_of_ble_eq_true h6, Nat.le_of_ble_eq_true h7⟩
theorem EnvG.to {G : GG} {s U : State} (E : EnvG G s) (hW : s.WarmedH U.vm) (hz : g_sz G ≤ U.heap.size) (hq : ∀ a : Nat, a < s.heap.size → ¬ g_F G a → U.heap[a]? = s.heap[a]?) : EnvG G U := by
  have hA := hW.alike
  obtain ⟨E1, E2, E3, E4, E5, E6, E7, E8, E9, E10, E11, E12, E13, E14⟩ := E
  refine ⟨fun k h1 h2 => u_Kn_moved hA (E1 k h1 h2), fun k t ht => ?_, fun w hw => ?_, fun q hq1 hq2 => ?_, fun q hq1 => ?_, fun q hq1 => ((E6 q hq1).moved hA).kept hq, fun q hq1 => ((E7 q hq1).moved hA).kept hq, fun q hq1 => ((E8 q hq1).moved hA).kept hq, fun q hq1 => (E9 q hq1).warm hW, fun a h1 h2 => ?_, E11, fun a h1 h2 => ((E12 a h1 h2).moved hA).kept hq, hz, E14⟩
  · obtain ⟨h1, h2, h3⟩ := E2 k t ht
    refine ⟨arrOfT_moved hA h1, h2.moved hA, fun hr => ?_⟩
    obtain ⟨kA, comp, g1, g2, g3, g4⟩ := h3 hr
    obtain ⟨k', hk', he⟩ := hA.2.2 _ _ g1
    exact ⟨k', comp, hk', by rw [he]; exact g2, fun z => by rw [hA.findClass]; exact g3 z, g4⟩
  · have h := E3 w hw
    simp only [z_nw, List.mem_cons, List.not_mem_nil, or_false] at hw
    rcases hw with rfl | rfl
    · exact va_Nw.warmF hW h
    · exact va_Nw.warmC hW h
  · obtain ⟨host, h⟩ := E4 q hq1 hq2
    exact ⟨host, va_Nw.warmM hW h⟩
  · have h := E5 q hq1
    have h2 := List.all_eq_true.mp la_all q hq1
    simp only [la_chk, Bool.and_eq_true] at h2
    have h2 := h2.2
    cases hz1 : z_ety q.2.2.1 with
    | none => rw [hz1] at h2; cases h2
    | some t =>
      rw [hz1] at h2 h
      cases t <;> first
        | exact absurd (show false = true from h2) Bool.false_ne_true
        | skip
      · exact va_AO.moved hA h
      · exact over_moved hA h
  · obtain ⟨h3, h4⟩ := E10 a h1 h2
    exact ⟨(h3.moved hA).kept hq, fun j hj => ((h4 j hj).moved hA).kept hq⟩
def PcK (G : GG) (a : List Value) (h : PH) : Array Value → State → Prop := va_Pc (a.map (g_v G)) (fun U => Rep G h U.heap ∧ EnvG G U)
def QcK (G : GG) (v : Option Value) (h : PH) : Array Value → State → Outcome → State → Prop := fun _ st o t => o = .returned (v.map (g_v G)) ∧ Rep G h t.heap ∧ va_F (g_F G) st t
theorem PcK.blind {G : GG} {a : List Value} {h : PH} : FrameBlind (PcK G a h) := by
  intro av U g mk q
  obtain ⟨q1, q2, q3⟩ := q
  exact ⟨q1, q2, q3.to (U := U.calling g mk av) (State.WarmedH.refl U) q3.2.2.2.2.2.2.2.2.2.2.2.2.1 (fun _ _ _ => rfl)⟩
/-- what MOK says of the machine, for one result -/
def MRun (G : GG) (l : Launch) (d k pc : Nat) (ls : List Slot) (st : List Value) (h : PH) (v : Option Value) (h2 : PH) : Prop :=
  ∀ (p : Program) (e : Env) (R : Room) (s : State) (m : MethodId) (args : Array Value) (below : List Frame) (meth : Method) (c : Code) (H : Heap) (locs : List Loc) (lsm : Array Slot) (h0 : PH) (Z : State → Prop),
    KC G k d p R s m args meth c h0 → Rep G h H → va_S (g_F G) s.heap H locs → LOC G ls lsm (z_ml k) → p_nx h0 ≤ p_nx h → p_us h0 ≤ p_us h → p_nx h2 - p_nx h0 ≤ R.cells → p_us h2 - p_us h0 ≤ R.slots →
    (∀ (H1 : Heap) (locs1 : List Loc) (lsm1 : Array Slot) (pc1 : Nat), Rep G h2 H1 → va_S (g_F G) s.heap H1 locs1 → e_shape (z_ret k) v → decode (z_b k) pc1 = .ok (retI v, 1) → W p l e R s m args below meth c H1 locs1 (p_nx h2 - p_nx h0) (p_us h2 - p_us h0) Z (F0 m pc1 lsm1 (v.toList.map (g_v G)))) →
    W p l e R s m args below meth c H locs (p_nx h - p_nx h0) (p_us h - p_us h0) Z (F0 m (n_pc (z_raw k) pc) lsm (st.map (g_v G)))
theorem lg_sl_len (G : GG) (a : List Value) (hc : ∀ v ∈ a, v.category = 1) : lv_args 0 (a.map (g_v G)) = lv_args 0 (a.map (g_v G)) := rfl
theorem LOC.ent {G : GG} {a : List Value} {n : Nat} (hn : a.length ≤ n) (hc : ∀ v ∈ a, v.category = 1) : LOC G (l_ent n a) ((lg_sl (a.map (g_v G)) ++ List.replicate (n - (lg_sl (a.map (g_v G))).length) Slot.unset).toArray) n := by
  have hsl : ∀ (b : List Value), (∀ v ∈ b, v.category = 1) → lg_sl (b.map (g_v G)) = b.map (fun v => Slot.val (g_v G v)) := by
    intro b
    induction b with
    | nil => intro _; rfl
    | cons v b ih =>
      intro hb
      have h1 : (g_v G v).category = 1 := (g_cat G v).trans (hb v List.mem_cons_self)
      have h2 := ih (fun w hw => hb w (List.mem_cons_of_mem _ hw))
      rw [List.map_cons, List.map_cons, ← h2]
      cases hv : g_v G v <;> first
        | rfl
        | (rw [hv] at h1; cases h1)
  have hargs : ∀ (b : List Value) (i : Nat), (∀ v ∈ b, v.category = 1) → ∀ (j : Nat) (v : Value), b[j]? = some v → (i + j, g_v G v) ∈ lv_args i (b.map (g_v G)) := by
    intro b
    induction b with
    | nil => intro i _ j v hj; simp at hj
    | cons w b ih =>
      intro i hb j v hj
      have h1 : (g_v G w).category = 1 := (g_cat G w).trans (hb w List.mem_cons_self)
      have h2 : ¬ (g_v G w).category = 2 := by rw [h1]; decide
      rw [List.map_cons]
      unfold lv_args
      rw [if_neg h2]
      cases j with
      | zero =>
        simp at hj
        subst hj
        exact List.mem_cons_self
      | succ j =>
        simp at hj
        have := ih (i + 1) (fun w hw => hb w (List.mem_cons_of_mem _ hw)) j v hj
        rw [show i + 1 + j = i + (j + 1) by omega] at this
        exact List.mem_cons_of_mem _ this
  have hlen : (lg_sl (a.map (g_v G))).length = a.length := by rw [hsl a hc]; simp
  have h := lv_entry (a.map (g_v G)) (n := n) (by rw [hlen]; exact hn)
  refine ⟨h.1, h.2.1, by simp [l_ent]; omega, fun i v hv => ?_⟩
  have hi : a[i]? = some v := by
    unfold l_ent at hv
    rcases Nat.lt_or_ge i a.length with q | q
    · rw [List.getElem?_append_left (by simpa using q), List.getElem?_map] at hv
      cases hz : a[i]? with
      | none => rw [hz] at hv; cases hv
      | some w => rw [hz] at hv; cases hv; rfl
    · rw [List.getElem?_append_right (by simpa using q)] at hv
      have := (List.mem_replicate.mp (List.mem_of_getElem? hv)).2
      cases this
  have := h.2.2 _ (hargs a 0 hc i v hi)
  rwa [Nat.zero_add] at this
/-- the contract of the one that is called -/
theorem met_of {G : GG} {l : Launch} {d k : Nat} {a : List Value} {h h2 : PH} {v : Option Value} (hk : k < 190) (hn : a.length ≤ z_ml k) (hc : ∀ v ∈ a, v.category = 1) (K : MRun G l d k 0 (l_ent (z_ml k) a) [] h v h2) (h00 : n_pc (z_raw k) 0 = 0) :
    Met l (z_y k) (z_ws k) ({ frames := d + 1, cells := p_nx h2 - p_nx h, slots := p_us h2 - p_us h, locals := 60 * (d + 1) }) (PcK G a h) (QcK G v h2) (p_nx h2 - p_nx h) (p_us h2 - p_us h) (g_F G) := by
  obtain ⟨o1, o2, o3, o4, o5, o6⟩ := ow_at hk
  refine va_MetF (cc := z_b k) (maxL := z_ml k) (ret := z_ret k) o2 rfl ?_
  intro p e s m args below meth c s₁ B hml hv
  obtain ⟨rfl, hR, hE⟩ := hv
  have hws := atoms_spec (ws := z_ws k) B.pre
  have hlocks := B.notSynchronized
  have hl := LOC.ent (G := G) hn hc
  rw [lg_entry_eq]
  have K1 := K p e (headSpec (z_ws k) ({ frames := d + 1, cells := p_nx h2 - p_nx h, slots := p_us h2 - p_us h, locals := 60 * (d + 1) })).room s m (a.map (g_v G)).toArray below meth c s.heap [] _ h (MQ below (QcK G v h2) (a.map (g_v G)).toArray s (p_nx h2 - p_nx h) (p_us h2 - p_us h) (g_F G))
    ⟨B.exec, B.bytes, hlocks, hml, by rw [o1]; exact findClass_of_methodNamed B.named, fun w hw => hws w (List.mem_cons_of_mem _ hw), hE, fun q => (name_of_methodNamed B.named B.method).1.trans (o3 q), Nat.le_refl _, Nat.le_refl _, hk⟩ hR va_S.rf hl (Nat.le_refl _) (Nat.le_refl _) (Nat.le_refl _) (Nat.le_refl _) ?_
  · rw [h00, Nat.sub_self, Nat.sub_self] at K1
    exact K1
  · intro H1 locs1 lsm1 pc1 hR1 hS1 hsh hdg
    have hq : ∀ t : State, t.heap = H1 → s.WarmedH t.vm → QcK G v h2 (a.map (g_v G)).toArray s (.returned (v.map (g_v G))) t := fun t ht _ => ⟨rfl, by rw [ht]; exact hR1, hS1.F ht⟩
    have hr := B.returns
    cases v with
    | none => exact W.vret B.exec B.bytes (hr.trans hsh) hq hS1.2.2 hdg
    | some v =>
      cases v <;> first
        | exact absurd hsh (by intro h; exact h)
        | skip
      · obtain ⟨t, h1, h3⟩ := hsh
        exact W.zret B.exec B.bytes (hr.trans h1) h3 hq hS1.2.2 hdg
      · exact W.dret B.exec B.bytes (hr.trans hsh) hq hS1.2.2 hdg
      · obtain ⟨t, h1, h3⟩ := hsh
        exact W.aret B.exec B.bytes (hr.trans h1) h3 (g_rv_or G _) hq hS1.2.2 hdg
end
section
/-! Where methods are called. -/
def wa (i : Nat) (w : Cond) : Bool := decide (w_all[i]? = some w) && goodWord w
def lm_chk (q : Nat × Nat × Nat × Nat × MethodName × List Nat) : Bool :=
  let own := z_cn q.1
  let y := z_y q.2.2.1
  let x := q.2.2.2.2.1
  let ps := q.2.2.2.2.2
  let C := z_kn (z_rk q.2.2.1)
  let n := z_na q.2.2.1
  Nat.blt q.2.2.1 189 && (match q.2.2.2.1 with
  | 0 => wa (ps.getD 0 0) (.methodLink own q.2.1 y) && wa (ps.getD 1 0) (.instanceMethod y) && wa (ps.getD 2 0) (.selects C y y) && wa (ps.getD 3 0) (.initialized y.cls) && decide ((parseMethodDescriptor y.desc).map (fun d => d.parameters.length + 1) = some n)
  | 1 => wa (ps.getD 0 0) (.methodLink own q.2.1 x) && wa (ps.getD 1 0) (.sameMethod x.cls y.cls x.name x.desc) && wa (ps.getD 2 0) (.selects C x y) && wa (ps.getD 3 0) (.instanceMethod y) && wa (ps.getD 4 0) (.initialized y.cls) && decide (y = ⟨y.cls, x.name, x.desc⟩) && decide ((parseMethodDescriptor x.desc).map (fun d => d.parameters.length + 1) = some n)
  | 2 => wa (ps.getD 1 0) (.instanceMethod y) && wa (ps.getD 2 0) (.selects C y y) && wa (ps.getD 3 0) (.initialized y.cls) && decide ((parseMethodDescriptor y.desc).map (fun d => d.parameters.length + 1) = some n)
  | 3 => wa (ps.getD 0 0) (.methodLink own q.2.1 y) && wa (ps.getD 1 0) (.static y) && wa (ps.getD 2 0) (.initialized y.cls) && decide ((parseMethodDescriptor y.desc).map (fun d => d.parameters.length) = some n)
  | 4 => wa (ps.getD 1 0) (.static y) && wa (ps.getD 2 0) (.initialized y.cls) && decide ((parseMethodDescriptor y.desc).map (fun d => d.parameters.length) = some n)
  | 5 => wa (ps.getD 0 0) (.methodLink own q.2.1 y) && wa (ps.getD 1 0) (.instanceMethod y) && wa (ps.getD 2 0) (.initialized y.cls) && decide (y.name = "<init>") && decide (z_ret q.2.2.1 = none) && decide ((parseMethodDescriptor y.desc).map (fun d => d.parameters.length + 1) = some n)
  | 6 => wa (ps.getD 1 0) (.instanceMethod y) && wa (ps.getD 2 0) (.initialized y.cls) && decide (y.name = "<init>") && decide (z_ret q.2.2.1 = none) && decide ((parseMethodDescriptor y.desc).map (fun d => d.parameters.length + 1) = some n)
  | 7 => wa (ps.getD 0 0) (.methodLink own q.2.1 y) && wa (ps.getD 1 0) (.sameMethod y.cls y.cls y.name y.desc) && wa (ps.getD 2 0) (.superclass own y.cls) && wa (ps.getD 3 0) (.instanceMethod y) && wa (ps.getD 4 0) (.initialized y.cls) && decide (y.name ≠ "<init>") && decide ((parseMethodDescriptor y.desc).map (fun d => d.parameters.length + 1) = some n)
  | 8 => wa (ps.getD 0 0) (.methodLink own q.2.1 x) && wa (ps.getD 1 0) (.sameMethod x.cls "java/lang/AbstractStringBuilder" x.name x.desc) && wa (ps.getD 2 0) (.instanceMethod ⟨"java/lang/AbstractStringBuilder", x.name, x.desc⟩) && wa (ps.getD 3 0) (.selects C x y) && wa (ps.getD 4 0) (.instanceMethod y) && wa (ps.getD 5 0) (.initialized y.cls) && decide ((parseMethodDescriptor x.desc).map (fun d => d.parameters.length + 1) = some n) && decide (x.name = "length" ∧ x.desc = "()I")
  | _ => false)

set_option maxRecDepth 100000 in
theorem lm_0 : ((z_lm.drop 0).take 24).all lm_chk = true := by decide +kernel
set_option maxRecDepth 100000 in
theorem lm_24 : ((z_lm.drop 24).take 24).all lm_chk = true := by decide +kernel
set_option maxRecDepth 100000 in
theorem lm_48 : ((z_lm.drop 48).take 24).all lm_chk = true := by decide +kernel
set_option maxRecDepth 100000 in
theorem lm_72 : ((z_lm.drop 72).take 24).all lm_chk = true := by decide +kernel
set_option maxRecDepth 100000 in
theorem lm_96 : ((z_lm.drop 96).take 24).all lm_chk = true := by decide +kernel
set_option maxRecDepth 100000 in
theorem lm_120 : ((z_lm.drop 120).take 24).all lm_chk = true := by decide +kernel
set_option maxRecDepth 100000 in
theorem lm_144 : ((z_lm.drop 144).take 24).all lm_chk = true := by decide +kernel
set_option maxRecDepth 100000 in
theorem lm_168 : ((z_lm.drop 168).take 24).all lm_chk = true := by decide +kernel
set_option maxRecDepth 100000 in
theorem lm_192 : ((z_lm.drop 192).take 24).all lm_chk = true := by decide +kernel
set_option maxRecDepth 100000 in
theorem lm_216 : ((z_lm.drop 216).take 24).all lm_chk = true := by decide +kernel
set_option maxRecDepth 100000 in
theorem lm_all : z_lm.all lm_chk = true := by
  have h216 : (z_lm.drop 216).all lm_chk = true := by
    have h := lm_216
    rwa [List.take_of_length_le (Nat.le_of_ble_eq_true (by decide +kernel))] at h
  have h192 : (z_lm.drop 192).all lm_chk = true := e_split 24 lm_192 (by rw [List.drop_drop]; exact h216)
  have h168 : (z_lm.drop 168).all lm_chk = true := e_split 24 lm_168 (by rw [List.drop_drop]; exact h192)
  have h144 : (z_lm.drop 144).all lm_chk = true := e_split 24 lm_144 (by rw [List.drop_drop]; exact h168)
  have h120 : (z_lm.drop 120).all lm_chk = true := e_split 24 lm_120 (by rw [List.drop_drop]; exact h144)
  have h96 : (z_lm.drop 96).all lm_chk = true := e_split 24 lm_96 (by rw [List.drop_drop]; exact h120)
  have h72 : (z_lm.drop 72).all lm_chk = true := e_split 24 lm_72 (by rw [List.drop_drop]; exact h96)
  have h48 : (z_lm.drop 48).all lm_chk = true := e_split 24 lm_48 (by rw [List.drop_drop]; exact h72)
  have h24 : (z_lm.drop 24).all lm_chk = true := e_split 24 lm_24 (by rw [List.drop_drop]; exact h48)
  have h0 : (z_lm.drop 0).all lm_chk = true := e_split 24 lm_0 (by rw [List.drop_drop]; exact h24)
  exact h0
def cp_chk (k : Nat) : Bool := wa (z_cp.getD k 0) (Cond.code (z_y k) (z_b k) (z_ml k) (z_ret k))
set_option maxRecDepth 100000 in
theorem cp_0 : (List.range' 0 10).all cp_chk = true := by decide +kernel
set_option maxRecDepth 100000 in
theorem cp_10 : (List.range' 10 10).all cp_chk = true := by decide +kernel
set_option maxRecDepth 100000 in
theorem cp_20 : (List.range' 20 10).all cp_chk = true := by decide +kernel
set_option maxRecDepth 100000 in
theorem cp_30 : (List.range' 30 10).all cp_chk = true := by decide +kernel
set_option maxRecDepth 100000 in
theorem cp_40 : (List.range' 40 9).all cp_chk = true := by decide +kernel
set_option maxRecDepth 100000 in
set_option maxHeartbeats 4000000 in
theorem cp_49 : Cond.code (z_y 49) (z_b 49) (z_ml 49) (z_ret 49) ∈ w_g := w_at (i := 1655) rfl rfl
set_option maxRecDepth 100000 in
theorem cp_50 : (List.range' 50 1).all cp_chk = true := by decide +kernel
set_option maxRecDepth 100000 in
set_option maxHeartbeats 4000000 in
theorem cp_51 : Cond.code (z_y 51) (z_b 51) (z_ml 51) (z_ret 51) ∈ w_g := w_at (i := 1692) rfl rfl
set_option maxRecDepth 100000 in
set_option maxHeartbeats 4000000 in
theorem cp_52 : Cond.code (z_y 52) (z_b 52) (z_ml 52) (z_ret 52) ∈ w_g := w_at (i := 1344) rfl rfl
set_option maxRecDepth 100000 in
theorem cp_53 : (List.range' 53 4).all cp_chk = true := by decide +kernel
set_option maxRecDepth 100000 in
set_option maxHeartbeats 4000000 in
theorem cp_57 : Cond.code (z_y 57) (z_b 57) (z_ml 57) (z_ret 57) ∈ w_g := w_at (i := 1323) rfl rfl
set_option maxRecDepth 100000 in
theorem cp_58 : (List.range' 58 10).all cp_chk = true := by decide +kernel
set_option maxRecDepth 100000 in
theorem cp_68 : (List.range' 68 10).all cp_chk = true := by decide +kernel
set_option maxRecDepth 100000 in
theorem cp_78 : (List.range' 78 10).all cp_chk = true := by decide +kernel
set_option maxRecDepth 100000 in
theorem cp_88 : (List.range' 88 8).all cp_chk = true := by decide +kernel
set_option maxRecDepth 100000 in
theorem cp_96 : (List.range' 96 10).all cp_chk = true := by decide +kernel
set_option maxRecDepth 100000 in
theorem cp_106 : (List.range' 106 10).all cp_chk = true := by decide +kernel
set_option maxRecDepth 100000 in
theorem cp_116 : (List.range' 116 10).all cp_chk = true := by decide +kernel
set_option maxRecDepth 100000 in
theorem cp_126 : (List.range' 126 10).all cp_chk = true := by decide +kernel
set_option maxRecDepth 100000 in
theorem cp_136 : (List.range' 136 2).all cp_chk = true := by decide +kernel
set_option maxRecDepth 100000 in
set_option maxHeartbeats 4000000 in
theorem cp_138 : Cond.code (z_y 138) (z_b 138) (z_ml 138) (z_ret 138) ∈ w_g := w_at (i := 733) rfl rfl
set_option maxRecDepth 100000 in
theorem cp_139 : (List.range' 139 1).all cp_chk = true := by decide +kernel
set_option maxRecDepth 100000 in
set_option maxHeartbeats 4000000 in
theorem cp_140 : Cond.code (z_y 140) (z_b 140) (z_ml 140) (z_ret 140) ∈ w_g := w_at (i := 666) rfl rfl
set_option maxRecDepth 100000 in
theorem cp_141 : (List.range' 141 10).all cp_chk = true := by decide +kernel
set_option maxRecDepth 100000 in
theorem cp_151 : (List.range' 151 10).all cp_chk = true := by decide +kernel
set_option maxRecDepth 100000 in
theorem cp_161 : (List.range' 161 10).all cp_chk = true := by decide +kernel
set_option maxRecDepth 100000 in
theorem cp_171 : (List.range' 171 10).all cp_chk = true := by decide +kernel
set_option maxRecDepth 100000 in
theorem cp_181 : (List.range' 181 8).all cp_chk = true := by decide +kernel
theorem wa_in {i : Nat} {w : Cond} (h : wa i w = true) : w ∈ w_g := by
  simp only [wa, Bool.and_eq_true, decide_eq_true_eq] at h
  exact w_at h.1 h.2
theorem cp_in {k : Nat} (hk : k < 189) : Cond.code (z_y k) (z_b k) (z_ml k) (z_ret k) ∈ w_g := by
  have h : ∀ a n : Nat, (List.range' a n).all cp_chk = true → a ≤ k → k < a + n → Cond.code (z_y k) (z_b k) (z_ml k) (z_ret k) ∈ w_g := fun a n h h1 h2 => wa_in (List.all_eq_true.mp h k (List.mem_range'.mpr ⟨k - a, by omega, by omega⟩))
  rcases Nat.lt_or_ge k 10 with q | q
  · exact h 0 10 cp_0 (by omega) (by omega)
  rcases Nat.lt_or_ge k 20 with q | q
  · exact h 10 10 cp_10 (by omega) (by omega)
  rcases Nat.lt_or_ge k 30 with q | q
  · exact h 20 10 cp_20 (by omega) (by omega)
  rcases Nat.lt_or_ge k 40 with q | q
  · exact h 30 10 cp_30 (by omega) (by omega)
  rcases Nat.lt_or_ge k 49 with q | q
  · exact h 40 9 cp_40 (by omega) (by omega)
  rcases Nat.lt_or_ge k 50 with q | q
  · (obtain rfl : k = 49 := by omega); exact cp_49
  rcases Nat.lt_or_ge k 51 with q | q
  · exact h 50 1 cp_50 (by omega) (by omega)
  rcases Nat.lt_or_ge k 52 with q | q
  · (obtain rfl : k = 51 := by omega); exact cp_51
  rcases Nat.lt_or_ge k 53 with q | q
  · (obtain rfl : k = 52 := by omega); exact cp_52
  rcases Nat.lt_or_ge k 57 with q | q
  · exact h 53 4 cp_53 (by omega) (by omega)
  rcases Nat.lt_or_ge k 58 with q | q
  · (obtain rfl : k = 57 := by omega); exact cp_57
  rcases Nat.lt_or_ge k 68 with q | q
  · exact h 58 10 cp_58 (by omega) (by omega)
  rcases Nat.lt_or_ge k 78 with q | q
  · exact h 68 10 cp_68 (by omega) (by omega)
  rcases Nat.lt_or_ge k 88 with q | q
  · exact h 78 10 cp_78 (by omega) (by omega)
  rcases Nat.lt_or_ge k 96 with q | q
  · exact h 88 8 cp_88 (by omega) (by omega)
  rcases Nat.lt_or_ge k 106 with q | q
  · exact h 96 10 cp_96 (by omega) (by omega)
  rcases Nat.lt_or_ge k 116 with q | q
  · exact h 106 10 cp_106 (by omega) (by omega)
  rcases Nat.lt_or_ge k 126 with q | q
  · exact h 116 10 cp_116 (by omega) (by omega)
  rcases Nat.lt_or_ge k 136 with q | q
  · exact h 126 10 cp_126 (by omega) (by omega)
  rcases Nat.lt_or_ge k 138 with q | q
  · exact h 136 2 cp_136 (by omega) (by omega)
  rcases Nat.lt_or_ge k 139 with q | q
  · (obtain rfl : k = 138 := by omega); exact cp_138
  rcases Nat.lt_or_ge k 140 with q | q
  · exact h 139 1 cp_139 (by omega) (by omega)
  rcases Nat.lt_or_ge k 141 with q | q
  · (obtain rfl : k = 140 := by omega); exact cp_140
  rcases Nat.lt_or_ge k 151 with q | q
  · exact h 141 10 cp_141 (by omega) (by omega)
  rcases Nat.lt_or_ge k 161 with q | q
  · exact h 151 10 cp_151 (by omega) (by omega)
  rcases Nat.lt_or_ge k 171 with q | q
  · exact h 161 10 cp_161 (by omega) (by omega)
  rcases Nat.lt_or_ge k 181 with q | q
  · exact h 171 10 cp_171 (by omega) (by omega)
  exact h 181 8 cp_181 (by omega) (by omega)
set_option maxRecDepth 100000 in
theorem pc0_all : (List.range 190).all (fun k => Nat.beq (n_pc (z_raw k) 0) 0) = true := by decide +kernel
set_option maxRecDepth 100000 in
theorem rk_all : z_lm.all (fun q => (match q.2.2.2.1 with
  | 0 => Nat.ble 1 (z_rk q.2.2.1) && Nat.ble (z_rk q.2.2.1) 16
  | 1 => Nat.ble 1 (z_rk q.2.2.1) && Nat.ble (z_rk q.2.2.1) 16
  | 2 => Nat.ble 1 (z_rk q.2.2.1) && Nat.ble (z_rk q.2.2.1) 16
  | 7 => Nat.ble 1 (z_rk q.2.2.1) && Nat.ble (z_rk q.2.2.1) 16
  | 8 => Nat.ble 1 (z_rk q.2.2.1) && Nat.ble (z_rk q.2.2.1) 16
  | _ => true)) = true := by decide +kernel
end
section
/-! Where methods are called. -/
theorem pc0 {k : Nat} (hk : k < 190) : n_pc (z_raw k) 0 = 0 := Nat.eq_of_beq_eq_true (List.all_eq_true.mp pc0_all k (List.mem_range.mpr hk))
theorem lm_use {o x k : Nat} {hows : List Nat} (h : e_lm o x k hows = true) : ∃ q ∈ z_lm, q.1 = o ∧ q.2.1 = x ∧ q.2.2.1 = k ∧ q.2.2.2.1 ∈ hows ∧ lm_chk q = true := by
  obtain ⟨q, hq, h1⟩ := List.any_eq_true.mp h
  simp only [Bool.and_eq_true] at h1
  obtain ⟨⟨⟨e1, e2⟩, e3⟩, e4⟩ := h1
  exact ⟨q, hq, Nat.eq_of_beq_eq_true e1, Nat.eq_of_beq_eq_true e2, Nat.eq_of_beq_eq_true e3, List.mem_of_elem_eq_true e4, List.all_eq_true.mp lm_all q hq⟩
theorem params_of {ds : String} {n j : Nat} (h : (parseMethodDescriptor ds).map (fun d => d.parameters.length + j) = some n) : ∀ sig, parseMethodDescriptor ds = some sig → n - j = sig.parameters.length := by
  intro sig hs
  rw [hs] at h
  have h3 : sig.parameters.length + j = n := Option.some.inj h
  omega
set_option maxRecDepth 100000 in
theorem lm_rk_all : z_lm.all (fun q => bif Nat.beq q.2.2.2.1 7 then Nat.ble (z_rk q.2.2.1) 15 else true) = true := by decide +kernel
theorem lm_rk (q : Nat × Nat × Nat × Nat × MethodName × List Nat) (hq : q ∈ z_lm) (h7 : q.2.2.2.1 = 7) : z_rk q.2.2.1 ≤ 15 := by
  have h := List.all_eq_true.mp lm_rk_all q hq
  rw [h7] at h
  exact Nat.le_of_ble_eq_true h
/-- a call is a run of the one that is called -/
def SITE (G : GG) (l : Launch) (k pc k1 : Nat) (a rest : List Value) (st : List Value) (h : PH) : Prop :=
  ∀ (d : Nat) (p : Program) (e : Env) (R : Room) (s : State) (m : MethodId) (args : Array Value) (below : List Frame) (meth : Method) (c : Code) (H : Heap) (locs : List Loc) (lsm : Array Slot) (h0 : PH) (v : Option Value) (h2 : PH),
    KC G k (d + 1) p R s m args meth c h0 → Rep G h H → va_S (g_F G) s.heap H locs → lsm.size = z_ml k →
    Met l (z_y k1) (z_ws k1) ({ frames := d + 1, cells := p_nx h2 - p_nx h, slots := p_us h2 - p_us h, locals := 60 * (d + 1) }) (PcK G a h) (QcK G v h2) (p_nx h2 - p_nx h) (p_us h2 - p_us h) (g_F G) →
    p_nx h - p_nx h0 + (p_nx h2 - p_nx h) ≤ R.cells → p_us h - p_us h0 + (p_us h2 - p_us h) ≤ R.slots →
    va_Run p l e R s m args below meth c H locs (p_nx h - p_nx h0) (p_us h - p_us h0) (p_nx h2 - p_nx h) (p_us h2 - p_us h) (F0 m (n_pc (z_raw k) pc) lsm (st.map (g_v G))) (rest.map (g_v G)) (QcK G v h2 (a.map (g_v G)).toArray) (g_F G)
theorem recv {G : GG} (hG : GOK G) {h : PH} {H : Heap} {s : State} {locs : List Loc} (hR : Rep G h H) (E : EnvG G s) (hS : va_S (g_F G) s.heap H locs) {x k1 : Nat} (hx : p_kd h x = k1) (h1 : 1 ≤ k1) (h2 : k1 ≤ 16) : ∃ cellB : Cell, H[g_ad G x]? = some cellB ∧ cellB.vm.isStatics = false ∧ s.vm.findClass (z_kn k1) = some cellB.cls := by
  rcases Nat.lt_or_ge x 1000 with hlt | hge
  · obtain ⟨s1, -⟩ := hR.2.2.2.2.2.1 x hlt
    have h14 := (E.2.2.2.2.2.2.2.2.2.2.1 x hlt (by rw [← s1]; omega)).imp_right (fun q => q.resolve_right (by rw [← s1]; omega))
    have hO := (E.2.2.2.2.2.2.2.2.2.1 x hlt h14).1
    rw [← s1, hx] at hO
    obtain ⟨cell, w1, w2, w3, -⟩ := hO.kept hS.2.1
    exact ⟨cell, w1, w2, w3⟩
  · have A := hR.cell (x := x) (by omega) hge
    unfold g_at at A
    rw [hx, show Nat.ble 100 k1 = false by
      cases hz : Nat.ble 100 k1
      · rfl
      · have := Nat.le_of_ble_eq_true hz; omega] at A
    obtain ⟨cell, w1, w2, w3, -⟩ := A
    have h16 : k1 ≠ 16 := fun q => absurd (hR.enum x (by rw [hx]; exact q)) (by omega)
    obtain ⟨-, hfc, -⟩ := E.1 k1 h1 (by omega)
    exact ⟨cell, w1, by rw [w3]; rfl, by rw [w2]; exact hfc⟩
theorem pre_of {G : GG} {a : List Value} {h : PH} {H : Heap} {s : State} {locs : List Loc} (hR : Rep G h H) (E : EnvG G s) (hS : va_S (g_F G) s.heap H locs) : ∀ U : State, U.heap = H → s.WarmedH U.vm → PcK G a h (a.map (g_v G)).toArray U := by
  intro U hU hW
  refine ⟨rfl, by rw [hU]; exact hR, E.to hW ?_ (fun q h1 h2 => by rw [hU]; exact hS.2.1 q h1 h2)⟩
  rw [hU]
  exact Nat.le_trans E.2.2.2.2.2.2.2.2.2.2.2.2.1 hS.1
theorem ws_ok {G : GG} {s : State} {args : Array Value} {k1 : Nat} (hk : k1 < 189) (C6 : ∀ w ∈ w_g, w.before args s = true) : ∀ w ∈ z_ws k1, ∀ (a' : Array Value) (U : State), s.WarmedH U.vm → w.before a' U = true := by
  intro w hw a' U hW
  have hg : w ∈ w_g := by
    rcases List.mem_cons.mp hw with rfl | hw
    · exact cp_in hk
    · exact hw
  exact word_at hW (w_good w hg) (C6 w hg)
theorem SITE.of {G : GG} {l : Launch} (hG : GOK G) {k pc k1 : Nat} {i : Instr} {st rest a : List Value} {h : PH} (hi : (z_code k)[pc]? = some i) (hst : st = a.reverse ++ rest) (hna : a.length = z_na k1) (hsum : c_sum rest ≤ 8)
    (hh : (i = .invokestatic k1 ∧ ∃ x, e_lm (z_ow k) x k1 [3, 4] = true ∧ decode (z_b k) (n_pc (z_raw k) pc) = .ok (.invokestatic x, 3)) ∨
      (∃ (x0 : Nat) (as : List Value), a = .ref x0 :: as ∧ p_kd h x0 = z_rk k1 ∧ ¬ x0 = 0 ∧ ∃ x, (e_lm (z_ow k) x k1 [0, 1, 2, 8] = true ∧ decode (z_b k) (n_pc (z_raw k) pc) = .ok (.invokevirtual x, 3)) ∨ (e_lm (z_ow k) x k1 [7] = true ∧ decode (z_b k) (n_pc (z_raw k) pc) = .ok (.invokespecial x, 3))) ∨
      (∃ (x0 : Nat) (as : List Value), a = .ref x0 :: as ∧ 1000 ≤ x0 ∧ ∃ x, e_lm (z_ow k) x k1 [5, 6] = true ∧ decode (z_b k) (n_pc (z_raw k) pc) = .ok (.invokespecial x, 3))) : SITE G l k pc k1 a rest st h := by
  subst hst
  intro d p e R s m args below meth c H locs lsm h0 v h2 C hR hS hsz hM hc1 hc2
  obtain ⟨C1, C2, C3, C4, C5, C6, E, C8, C9, C10, C11⟩ := C
  have hW : 2 * (F0 m (n_pc (z_raw k) pc) lsm ((a.reverse ++ rest).map (g_v G))).monitorRoom + ((rest.map (g_v G)).map fun v => v.category).sum ≤ 8 := by
    rw [g_csum]
    show 2 * 0 + _ ≤ 8
    omega
  have hpre := pre_of (a := a) hR E hS
  rcases hh with ⟨-, x, hx, hdg⟩ | ⟨x0, as, rfl, hx0, hx1, x, hx⟩ | ⟨x0, as, rfl, hx0, x, hx, hdg⟩
  · obtain ⟨q, hq, e1, e2, e3, e4, e5⟩ := lm_use hx
    obtain ⟨q1, q2, q3, q4, qx, qp⟩ := q
    simp only at e1 e2 e3 e4
    subst e2 e3
    have hlt : q3 < 189 := by
      simp only [lm_chk, Bool.and_eq_true] at e5
      exact Nat.le_of_ble_eq_true (n := q3 + 1) e5.1
    obtain ⟨o1, o2, o3, o4, o5, o6⟩ := ow_at (k := q3) (by omega)
    have hstk : ((a.reverse ++ rest).map (g_v G)) = (a.map (g_v G)).reverse ++ rest.map (g_v G) := by simp
    simp only [List.mem_cons, List.not_mem_nil, or_false] at e4
    rcases e4 with rfl | rfl
    · simp only [lm_chk, Bool.and_eq_true, decide_eq_true_eq] at e5
      obtain ⟨-, ⟨⟨w1, w2⟩, w3⟩, w4⟩ := e5
      rw [e1] at w1
      exact va_runS (n := z_na q3) (nL := z_ml k) (Ts := w_g) ⟨C1, C2, C4, C5, C6⟩ hM ⟨⟨rfl, rfl, (show d + 1 + 1 ≤ R.frames by omega), (show 8 + (z_ml q3 + 11) + 60 * (d + 1) ≤ R.locals by omega), ws_ok (G := G) hlt C6, List.mem_cons_self, C6 _ (cp_in hlt), C6 _ (wa_in w3), o4, params_of (j := 0) w4, C6 _ (wa_in w1)⟩, C6 _ (wa_in w2)⟩ ⟨PcK.blind, hpre⟩ rfl (by simp [hna]) hsz hstk hW hdg ⟨hc1, hc2⟩
    · simp only [lm_chk, Bool.and_eq_true, decide_eq_true_eq] at e5
      obtain ⟨-, ⟨w2, w3⟩, w4⟩ := e5
      obtain ⟨host, hn⟩ := E.2.2.2.1 _ hq (Or.inr (Or.inl rfl))
      rw [show z_cn (q1, q2, q3, 4, qx, qp).1 = z_cn (z_ow k) by rw [← e1]] at hn
      exact va_runSN (n := z_na q3) (nL := z_ml k) (Ts := w_g) ⟨C1, C2, C4, C5, C6⟩ hM ⟨⟨⟨rfl, rfl, (show d + 1 + 1 ≤ R.frames by omega), (show 8 + (z_ml q3 + 11) + 60 * (d + 1) ≤ R.locals by omega), ws_ok (G := G) hlt C6, List.mem_cons_self⟩, C6 _ (cp_in hlt), C6 _ (wa_in w3), o4, params_of (j := 0) w4, va_Nw.use rfl hn⟩, C6 _ (wa_in w2), trivial⟩ ⟨PcK.blind, hpre⟩ rfl (by simp [hna]) hsz hstk hW hdg ⟨hc1, hc2⟩
  · have hrk : 1 ≤ z_rk k1 ∧ z_rk k1 ≤ 16 := by
      have hx2 : e_lm (z_ow k) x k1 [0, 1, 2, 8] = true ∨ e_lm (z_ow k) x k1 [7] = true := hx.imp And.left And.left
      have key : ∀ q : Nat × Nat × Nat × Nat × MethodName × List Nat, q ∈ z_lm → q.2.2.1 = k1 → (q.2.2.2.1 = 0 ∨ q.2.2.2.1 = 1 ∨ q.2.2.2.1 = 2 ∨ q.2.2.2.1 = 8 ∨ q.2.2.2.1 = 7) → 1 ≤ z_rk k1 ∧ z_rk k1 ≤ 16 := by
        intro q hq e3 e4
        have h := List.all_eq_true.mp rk_all q hq
        rw [e3] at h
        rcases e4 with e | e | e | e | e <;> rw [e] at h <;> exact ⟨Nat.le_of_ble_eq_true (Bool.and_eq_true_iff.mp h).1, Nat.le_of_ble_eq_true (Bool.and_eq_true_iff.mp h).2⟩
      rcases hx2 with z | z
      · obtain ⟨q, hq, -, -, e3, e4, -⟩ := lm_use z
        simp only [List.mem_cons, List.not_mem_nil, or_false] at e4
        exact key q hq e3 (by rcases e4 with e | e | e | e <;> simp [e])
      · obtain ⟨q, hq, -, -, e3, e4, -⟩ := lm_use z
        simp only [List.mem_cons, List.not_mem_nil, or_false] at e4
        exact key q hq e3 (by simp [e4])
    have hrv : g_rv G x0 = .ref (g_ad G x0) := hR.rv hG (by omega)
    have hrecv := recv hG hR E hS hx0 hrk.1 hrk.2
    have hmap : ((Value.ref x0 :: as).map (g_v G)) = .ref (g_ad G x0) :: as.map (g_v G) := by rw [List.map_cons]; congr 1
    have hstk : (((Value.ref x0 :: as).reverse ++ rest).map (g_v G)) = (as.map (g_v G)).reverse ++ .ref (g_ad G x0) :: rest.map (g_v G) := by
      rw [← hrv]
      simp [g_v]
    rw [hmap] at hpre ⊢
    have hnas : as.length = z_na k1 - 1 := by simp at hna; omega
    rcases hx with ⟨hx, hdg⟩ | ⟨hx, hdg⟩
    · obtain ⟨q, hq, e1, e2, e3, e4, e5⟩ := lm_use hx
      obtain ⟨q1, q2, q3, q4, qx, qp⟩ := q
      simp only at e1 e2 e3 e4
      subst e2 e3
      have hlt : q3 < 189 := by
        simp only [lm_chk, Bool.and_eq_true] at e5
        exact Nat.le_of_ble_eq_true (n := q3 + 1) e5.1
      obtain ⟨o1, o2, o3, o4, o5, o6⟩ := ow_at (k := q3) (by omega)
      simp only [List.mem_cons, List.not_mem_nil, or_false] at e4
      rcases e4 with rfl | rfl | rfl | rfl
      · simp only [lm_chk, Bool.and_eq_true, decide_eq_true_eq] at e5
        obtain ⟨-, ⟨⟨⟨w1, w2⟩, w3⟩, w4⟩, w5⟩ := e5
        rw [e1] at w1
        exact va_runV (n := z_na q3 - 1) (nL := z_ml k) (Ts := w_g) ⟨C1, C2, C4, C5, C6⟩ hM ⟨⟨rfl, rfl, (show d + 1 + 1 ≤ R.frames by omega), (show 8 + (z_ml q3 + 11) + 60 * (d + 1) ≤ R.locals by omega), ws_ok (G := G) hlt C6, List.mem_cons_self, C6 _ (cp_in hlt), C6 _ (wa_in w4), o4, params_of w5, C6 _ (wa_in w1)⟩, C6 _ (wa_in w2), C6 _ (wa_in w3)⟩ ⟨PcK.blind, hrecv, hpre⟩ rfl (by simp [hnas]) hsz hstk hW hdg ⟨hc1, hc2⟩
      · simp only [lm_chk, Bool.and_eq_true, decide_eq_true_eq] at e5
        obtain ⟨-, ⟨⟨⟨⟨⟨w1, w2⟩, w3⟩, w4⟩, w5⟩, w6⟩, w7⟩ := e5
        rw [e1] at w1
        exact va_runU (n := z_na q3 - 1) (nL := z_ml k) (Ts := w_g) (owner := (z_y q3).cls) ⟨C1, C2, C4, C5, C6⟩ hM ⟨⟨rfl, rfl, (show d + 1 + 1 ≤ R.frames by omega), (show 8 + (z_ml q3 + 11) + 60 * (d + 1) ≤ R.locals by omega), ws_ok (G := G) hlt C6, List.mem_cons_self⟩, C6 _ (cp_in hlt), C6 _ (wa_in w5), o4, params_of w7, C6 _ (wa_in w1), C6 _ (wa_in w2), by rw [← w6]; exact va_Decl.of (C6 _ (wa_in w4)) (C6 _ (cp_in hlt)), C6 _ (wa_in w3), C6 _ (wa_in w4)⟩ ⟨PcK.blind, hrecv, hpre⟩ rfl (by simp [hnas]) hsz hstk hW hdg ⟨hc1, hc2⟩
      · simp only [lm_chk, Bool.and_eq_true, decide_eq_true_eq] at e5
        obtain ⟨-, ⟨⟨w2, w3⟩, w4⟩, w5⟩ := e5
        obtain ⟨host, hn⟩ := E.2.2.2.1 _ hq (Or.inl rfl)
        rw [show z_cn (q1, q2, q3, 2, qx, qp).1 = z_cn (z_ow k) by rw [← e1]] at hn
        exact va_runVN (n := z_na q3 - 1) (nL := z_ml k) (Ts := w_g) ⟨C1, C2, C4, C5, C6⟩ hM ⟨⟨⟨rfl, rfl, (show d + 1 + 1 ≤ R.frames by omega), (show 8 + (z_ml q3 + 11) + 60 * (d + 1) ≤ R.locals by omega), ws_ok (G := G) hlt C6, List.mem_cons_self⟩, C6 _ (cp_in hlt), C6 _ (wa_in w4), o4, params_of w5, va_Nw.use rfl hn⟩, C6 _ (wa_in w2), C6 _ (wa_in w3)⟩ ⟨PcK.blind, hrecv, hpre⟩ rfl (by simp [hnas]) hsz hstk hW hdg ⟨hc1, hc2⟩
      · simp only [lm_chk, Bool.and_eq_true, decide_eq_true_eq] at e5
        obtain ⟨-, ⟨⟨⟨⟨⟨⟨w1, w2⟩, w3⟩, w4⟩, w5⟩, w6⟩, w7⟩, w8⟩ := e5
        rw [e1] at w1
        exact va_runU (n := z_na q3 - 1) (nL := z_ml k) (Ts := w_g) (owner := "java/lang/AbstractStringBuilder") ⟨C1, C2, C4, C5, C6⟩ hM ⟨⟨rfl, rfl, (show d + 1 + 1 ≤ R.frames by omega), (show 8 + (z_ml q3 + 11) + 60 * (d + 1) ≤ R.locals by omega), ws_ok (G := G) hlt C6, List.mem_cons_self⟩, C6 _ (cp_in hlt), C6 _ (wa_in w6), ⟨by decide, by decide⟩, params_of w7, C6 _ (wa_in w1), C6 _ (wa_in w2), va_Decl.of (C6 _ (wa_in w3)) (by rw [w8.1, w8.2]; exact C6 _ (cp_in (k := 34) (by omega))), C6 _ (wa_in w4), C6 _ (wa_in w5)⟩ ⟨PcK.blind, hrecv, hpre⟩ rfl (by simp [hnas]) hsz hstk hW hdg ⟨hc1, hc2⟩
    · obtain ⟨q, hq, e1, e2, e3, e4, e5⟩ := lm_use hx
      obtain ⟨q1, q2, q3, q4, qx, qp⟩ := q
      simp only at e1 e2 e3 e4
      subst e2 e3
      have hlt : q3 < 189 := by
        simp only [lm_chk, Bool.and_eq_true] at e5
        exact Nat.le_of_ble_eq_true (n := q3 + 1) e5.1
      obtain ⟨o1, o2, o3, o4, o5, o6⟩ := ow_at (k := q3) (by omega)
      simp only [List.mem_cons, List.not_mem_nil, or_false] at e4
      subst e4
      simp only [lm_chk, Bool.and_eq_true, decide_eq_true_eq] at e5
      obtain ⟨-, ⟨⟨⟨⟨⟨w1, w2⟩, w3⟩, w4⟩, w5⟩, w6⟩, w7⟩ := e5
      rw [e1] at w1 w3
      exact va_runSU (n := z_na q3 - 1) (nL := z_ml k) (Ts := w_g) (E.1 (z_rk q3) hrk.1 (lm_rk _ hq rfl)).2 ⟨C1, C2, C4, C5, C6⟩ hM ⟨⟨rfl, rfl, (show d + 1 + 1 ≤ R.frames by omega), (show 8 + (z_ml q3 + 11) + 60 * (d + 1) ≤ R.locals by omega), ws_ok (G := G) hlt C6, List.mem_cons_self⟩, C6 _ (wa_in w1), C6 _ (wa_in w2), C6 _ (wa_in w3), C6 _ (wa_in w4), C6 _ (wa_in w5), C6 _ (cp_in hlt), w6, params_of w7⟩ ⟨PcK.blind, hrecv, hpre⟩ rfl (by simp [hnas]) hsz hstk hW hdg ⟨hc1, hc2⟩
  · have hrv : g_rv G x0 = .ref (g_ad G x0) := g_rvr hG (by omega) (by omega)
    have hmap : ((Value.ref x0 :: as).map (g_v G)) = .ref (g_ad G x0) :: as.map (g_v G) := by rw [List.map_cons]; congr 1
    have hstk : (((Value.ref x0 :: as).reverse ++ rest).map (g_v G)) = (as.map (g_v G)).reverse ++ .ref (g_ad G x0) :: rest.map (g_v G) := by
      rw [← hrv]
      simp [g_v]
    rw [hmap] at hpre ⊢
    have hnas : as.length = z_na k1 - 1 := by simp at hna; omega
    obtain ⟨q, hq, e1, e2, e3, e4, e5⟩ := lm_use hx
    obtain ⟨q1, q2, q3, q4, qx, qp⟩ := q
    simp only at e1 e2 e3 e4
    subst e2 e3
    have hlt : q3 < 189 := by
      simp only [lm_chk, Bool.and_eq_true] at e5
      exact Nat.le_of_ble_eq_true (n := q3 + 1) e5.1
    obtain ⟨o1, o2, o3, o4, o5, o6⟩ := ow_at (k := q3) (by omega)
    simp only [List.mem_cons, List.not_mem_nil, or_false] at e4
    have hcode : ∀ (_ : z_ret q3 = none), Cond.code (z_y q3) (z_b q3) (z_ml q3) none ∈ w_g ∧ Cond.code (z_y q3) (z_b q3) (z_ml q3) none ∈ z_ws q3 := by
      intro hz
      have h1 := cp_in hlt
      rw [hz] at h1
      exact ⟨h1, by unfold z_ws; rw [hz]; exact List.mem_cons_self⟩
    rcases e4 with rfl | rfl
    · simp only [lm_chk, Bool.and_eq_true, decide_eq_true_eq] at e5
      obtain ⟨-, ⟨⟨⟨⟨w1, w2⟩, w3⟩, w4⟩, w5⟩, w6⟩ := e5
      rw [e1] at w1
      obtain ⟨g1, g2⟩ := hcode w5
      exact va_runI (n := z_na q3 - 1) (nL := z_ml k) (Ts := w_g) ⟨C1, C2, C4, C5, C6⟩ hM ⟨⟨rfl, rfl, (show d + 1 + 1 ≤ R.frames by omega), (show 8 + (z_ml q3 + 11) + 60 * (d + 1) ≤ R.locals by omega), ws_ok (G := G) hlt C6, g2, C6 _ g1, C6 _ (wa_in w3), o4, params_of w6, C6 _ (wa_in w1)⟩, w4, C6 _ (wa_in w2)⟩ ⟨PcK.blind, hpre⟩ rfl (by simp [hnas]) hsz hstk hW hdg ⟨hc1, hc2⟩
    · simp only [lm_chk, Bool.and_eq_true, decide_eq_true_eq] at e5
      obtain ⟨-, ⟨⟨⟨w2, w3⟩, w4⟩, w5⟩, w6⟩ := e5
      obtain ⟨host, hn⟩ := E.2.2.2.1 _ hq (Or.inr (Or.inr rfl))
      rw [show z_cn (q1, q2, q3, 6, qx, qp).1 = z_cn (z_ow k) by rw [← e1]] at hn
      obtain ⟨g1, g2⟩ := hcode w5
      exact va_runIN (n := z_na q3 - 1) (nL := z_ml k) (Ts := w_g) ⟨C1, C2, C4, C5, C6⟩ hM ⟨⟨⟨rfl, rfl, (show d + 1 + 1 ≤ R.frames by omega), (show 8 + (z_ml q3 + 11) + 60 * (d + 1) ≤ R.locals by omega), ws_ok (G := G) hlt C6, g2⟩, C6 _ g1, C6 _ (wa_in w3), o4, params_of w6, va_Nw.use rfl hn⟩, w4, C6 _ (wa_in w2)⟩ ⟨PcK.blind, hpre⟩ rfl (by simp [hnas]) hsz hstk hW hdg ⟨hc1, hc2⟩
end
section
/-! THE RUN OF THE PICTURE IS A RUN OF THE MACHINE. -/
def MR (G : GG) (l : Launch) : Wp := fun d k pc ls st h Q => k < 190 → ∃ (v : Option Value) (h2 : PH), Q v h2 ∧ p_nx h ≤ p_nx h2 ∧ p_us h ≤ p_us h2 ∧ MRun G l d k pc ls st h v h2
theorem MR.step {G : GG} {l : Launch} {d k pc : Nat} {ls : List Slot} {st : List Value} {h : PH} {pc1 : Nat} {ls1 : List Slot} {st1 : List Value} {h1 : PH} {Q : Option Value → PH → Prop}
    (K : MR G l d k pc1 (l_kl k pc1 ls1) st1 h1 Q) (S : k < 190 → STEP G l k pc ls st h pc1 ls1 st1 h1) (hn : p_nx h ≤ p_nx h1) (hu : p_us h ≤ p_us h1) : MR G l d k pc ls st h Q := by
  intro hk
  obtain ⟨v, h2, hQ, n2, u2, K⟩ := K hk
  refine ⟨v, h2, hQ, Nat.le_trans hn n2, Nat.le_trans hu u2, ?_⟩
  intro p e R s m args below meth c H locs lsm h0 Z C hR hS hL n0 u0 nc uc hret
  exact S hk d p e R s m args below meth c H locs lsm h0 Z C hR hS hL n0 u0 (by omega) (by omega) (fun H1 locs1 lsm1 hR1 hS1 hL1 => K p e R s m args below meth c H1 locs1 lsm1 h0 Z C hR1 hS1 (hL1.kl k pc1) (by omega) (by omega) nc uc hret)
theorem MR.same {G : GG} {l : Launch} {d k pc : Nat} {ls : List Slot} {st : List Value} {h : PH} {pc1 : Nat} {ls1 : List Slot} {st1 : List Value} {Q : Option Value → PH → Prop}
    (K : MR G l d k pc1 (l_kl k pc1 ls1) st1 h Q) (S : k < 190 → STEP G l k pc ls st h pc1 ls1 st1 h) : MR G l d k pc ls st h Q := K.step S (Nat.le_refl _) (Nat.le_refl _)
/-- the types of what is answered -/
def rt_chk (k : Nat) : Bool := (z_code k).all (fun i => match i with
  | .ireturn => (match z_nr k with
    | 0 => decide (z_ret k = some .int)
    | 1 => decide (z_ret k = some .boolean)
    | 2 => decide (z_ret k = some .char)
    | _ => decide (z_ret k = some .byte))
  | .areturn => Nat.beq (z_nr k) 0 && (match z_ret k with
    | some (.object _) => true
    | some (.array _) => true
    | _ => false)
  | .dreturn => Nat.beq (z_nr k) 0 && decide (z_ret k = some .double)
  | .return_ => Nat.beq (z_nr k) 0 && decide (z_ret k = none)
  | _ => true)
set_option maxRecDepth 100000 in
theorem rt_all : (List.range 190).all rt_chk = true := by decide +kernel
theorem MR.ret {G : GG} {l : Launch} {d k pc : Nat} {ls : List Slot} {st : List Value} {h : PH} {Q : Option Value → PH → Prop} {v : Option Value} (hst : st = v.toList) (hi : (z_code k)[pc]? = some (retI v)) (hq : r_ok (z_nr k) v (Q v h)) (hv : match v with
    | none => True
    | some (.int _) => True
    | some (.ref _) => True
    | some (.double _) => True
    | _ => False) : MR G l d k pc ls st h Q := by
  intro hk
  have hrt := List.all_eq_true.mp (List.all_eq_true.mp rt_all k (List.mem_range.mpr hk)) _ (List.mem_of_getElem? hi)
  obtain ⟨q, len, d1, d2, d3⟩ := at_pc hk hi
  have hr : q = retI v ∧ len = 1 := by
    cases v with
    | none => exact rel1 d2
    | some w => cases w <;> first
      | exact absurd hv (by intro h; exact h)
      | exact rel1 d2
  obtain ⟨rfl, rfl⟩ := hr
  have main : Q v h ∧ e_shape (z_ret k) v := by
    cases v with
    | none =>
      have h2 := Bool.and_eq_true_iff.mp hrt
      have h0 := Nat.eq_of_beq_eq_true h2.1
      rw [h0] at hq
      exact ⟨hq, (of_decide_eq_true h2.2 : z_ret k = none)⟩
    | some w =>
      cases w <;> first
        | exact absurd hv (by intro h; exact h)
        | skip
      · rename_i x
        have hrt : (match z_nr k with
          | 0 => decide (z_ret k = some .int)
          | 1 => decide (z_ret k = some .boolean)
          | 2 => decide (z_ret k = some .char)
          | _ => decide (z_ret k = some .byte)) = true := hrt
        unfold r_ok at hq
        split at hq
        · next hz => rw [hz] at hrt; exact ⟨hq, _, of_decide_eq_true hrt, rfl⟩
        · next hz =>
          rw [hz] at hrt
          exact ⟨hq.2, _, of_decide_eq_true hrt, by rcases hq.1 with rfl | rfl <;> decide⟩
        · next hz =>
          rw [hz] at hrt
          refine ⟨hq.2, _, of_decide_eq_true hrt, ?_⟩
          show Value.int (x.toUInt32 % 65536).toInt32 = _
          rw [hq.1]
        · next h0 h1 h2 =>
          have hb : z_ret k = some .byte := by
            split at hrt
            · next hz => exact absurd hz h0
            · next hz => exact absurd hz h1
            · next hz => exact absurd hz h2
            · exact of_decide_eq_true hrt
          refine ⟨hq.2, _, hb, ?_⟩
          show Value.int x.toInt8.toInt32 = _
          rw [hq.1]
      · have h2 := Bool.and_eq_true_iff.mp hrt
        have h0 := Nat.eq_of_beq_eq_true h2.1
        rw [h0] at hq
        exact ⟨hq, (of_decide_eq_true h2.2 : z_ret k = some .double)⟩
      · have h2 := Bool.and_eq_true_iff.mp hrt
        have h0 := Nat.eq_of_beq_eq_true h2.1
        rw [h0] at hq
        refine ⟨hq, ?_⟩
        have h3 := h2.2
        cases hz : z_ret k with
        | none => rw [hz] at h3; cases h3
        | some t =>
          rw [hz] at h3
          cases t <;> first
            | exact absurd (show false = true from h3) Bool.false_ne_true
            | exact ⟨_, rfl, Or.inl ⟨_, rfl⟩⟩
            | exact ⟨_, rfl, Or.inr ⟨_, rfl⟩⟩
  refine ⟨v, h, main.1, Nat.le_refl _, Nat.le_refl _, ?_⟩
  intro p e R s m args below meth c H locs lsm h0 Z C hR hS hL n0 u0 nc uc hret
  rw [hst]
  exact hret H locs lsm _ hR hS main.2 d1
theorem r_on_inv {t : Nat} {v : Option Value} {st : List Value} {K : List Value → Prop} (h : r_on t v st K) : K (v.toList ++ st) := by
  unfold r_on at h
  split at h
  · unfold onV at h
    split at h
    · exact h
    · exact h.elim
  · unfold onI at h
    split at h
    · exact h
    · exact h.elim
  · unfold onR at h
    split at h
    · exact h
    · exact h.elim
  · unfold onD at h
    split at h
    · exact h
    · exact h.elim
/-- a call -/
theorem MR.call {G : GG} {l : Launch} {d k pc k1 : Nat} {ls : List Slot} {st a rest : List Value} {h h1 : PH} {v : Option Value} {i : Instr} {Q : Option Value → PH → Prop} (hS0 : SITE G l k pc k1 a rest st h) (hk1 : k1 < 189) (hi : (z_code k)[pc]? = some i) (hend : e_end i = false) (hlen : ∀ r len, e_rel (z_ow k) (z_raw k) (n_pc (z_raw k) pc) len r i = true → len = 3)
    (hna : a.length = z_na k1) (hc : ∀ v ∈ a, v.category = 1) (hn1 : p_nx h ≤ p_nx h1) (hu1 : p_us h ≤ p_us h1) (K0 : MRun G l d k1 0 (l_ent (z_ml k1) a) [] h v h1) (K : MR G l (d + 1) k (pc + 1) (l_kl k (pc + 1) ls) (v.toList ++ rest) h1 Q) : MR G l (d + 1) k pc ls st h Q := by
  intro hk
  obtain ⟨v2, h2, hQ, n2, u2, K⟩ := K hk
  refine ⟨v2, h2, hQ, Nat.le_trans hn1 n2, Nat.le_trans hu1 u2, ?_⟩
  intro p e R s m args below meth c H locs lsm h0 Z C hR hS hL n0 u0 nc uc hret
  have hM := met_of (by omega) (by rw [hna]; exact (ow_at (k := k1) (by omega)).2.2.2.2.2) hc K0 (pc0 (by omega))
  have hrun := hS0 d p e R s m args below meth c H locs lsm h0 v h1 C hR hS hL.1 hM (by omega) (by omega)
  obtain ⟨q, len, d1, d2, d3⟩ := at_pc hk hi
  have d4 := d3.resolve_left (by rw [hend]; decide)
  have e3 := hlen q len d2
  subst e3
  intro T hT X
  obtain ⟨v', st₀, t, T', L, g0, X', hL1, e1, e2, ⟨hv, hRep, hF⟩, stp⟩ := hrun T hT X
  cases hv
  rw [← e1] at hRep
  have hSn : va_S (g_F G) s.heap T'.heap (locs ++ L) := ⟨Nat.le_trans hS.1 (by rw [e1, ← g0]; exact hF.1), fun q h3 h4 => by
      rw [e1, hF.2 q (by rw [g0]; exact Nat.lt_of_lt_of_le h3 hS.1) h4, g0]
      exact hS.2.1 q h3 h4, fun q hq => by
      rcases List.mem_append.mp hq with z | z
      · exact hS.2.2 q z
      · exact hL1 q z⟩
  have K2 := K p e R s m args below meth c T'.heap (locs ++ L) lsm h0 Z C hRep hSn (hL.kl k (pc + 1)) (by omega) (by omega) nc uc hret
  rw [d4, show p_nx h1 - p_nx h0 = p_nx h - p_nx h0 + (p_nx h1 - p_nx h) by omega, show p_us h1 - p_us h0 = p_us h - p_us h0 + (p_us h1 - p_us h) by omega] at K2
  obtain ⟨t2, a1, b1⟩ := K2 T' rfl X'
  refine ⟨t2, stp t2 ?_, b1⟩
  have hm : (v.toList ++ rest).map (g_v G) = (v.map (g_v G)).toList ++ rest.map (g_v G) := by cases v <;> simp
  rw [hm] at a1
  exact a1
end
section
/-! Every step: Sem of MR gives MR; so wp gives MR. -/
theorem c_do_inv {k : Nat} {st : List Value} {Cl : Nat → List Value → (Option Value → PH → Prop) → Prop} {K : List Value → PH → Prop} (h : c_do k st Cl K) : z_na k ≤ st.length ∧ c_sum (st.drop (z_na k)) ≤ 8 ∧ (∀ v ∈ st.take (z_na k), v.category = 1) ∧ Cl k (st.take (z_na k)).reverse (fun v h1 => r_on (z_rt k) v (st.drop (z_na k)) (fun st1 => K st1 h1)) := by
  obtain ⟨h1, h2⟩ := l_ok_inv h
  have h1 := Bool.and_eq_true_iff.mp h1
  have h3 := Bool.and_eq_true_iff.mp h1.1
  exact ⟨Nat.le_of_ble_eq_true h3.1, Nat.le_of_ble_eq_true h3.2, fun v hv => Nat.eq_of_beq_eq_true (List.all_eq_true.mp h1.2 v hv), h2⟩
theorem isEmpty_nil {α : Type} {l : List α} (h : l.isEmpty = true) : l = [] := by cases l; rfl; cases h
theorem lm_lt {o x k : Nat} {hows : List Nat} (h : e_lm o x k hows = true) : k < 189 := by
  obtain ⟨q, -, -, -, e3, -, e5⟩ := lm_use h
  simp only [lm_chk, Bool.and_eq_true] at e5
  rw [e3] at e5
  exact Nat.le_of_ble_eq_true (n := k + 1) e5.1
theorem l_I_inv {ls : List Slot} {j : Nat} {f : Int32 → Prop} (h : l_I ls j f) : ∃ x, ls[j]? = some (.val (.int x)) ∧ f x := by
  unfold l_I at h
  split at h
  · next x hx => exact ⟨x, hx, h⟩
  · exact h.elim
theorem l_L_inv {ls : List Slot} {j : Nat} {f : Int64 → Prop} (h : l_L ls j f) : ∃ x, ls[j]? = some (.val (.long x)) ∧ f x := by
  unfold l_L at h
  split at h
  · next x hx => exact ⟨x, hx, h⟩
  · exact h.elim
theorem l_R_inv {ls : List Slot} {j : Nat} {f : Nat → Prop} (h : l_R ls j f) : ∃ x, ls[j]? = some (.val (.ref x)) ∧ f x := by
  unfold l_R at h
  split at h
  · next x hx => exact ⟨x, hx, h⟩
  · exact h.elim
theorem t_cp_inv {st : List Value} {f : Nat → Int32 → Nat → Int32 → Int32 → List Value → Prop} (h : t_cp st f) : ∃ s sp d dp n r, st = .int n :: .int dp :: .ref d :: .int sp :: .ref s :: r ∧ f s sp d dp n r := by
  unfold t_cp at h
  split at h
  · exact ⟨_, _, _, _, _, _, rfl, h⟩
  · exact h.elim
def no_chk (k : Nat) : Bool := (z_code k).all (fun i => match i with
  | .nop => false
  | .dload _ => false
  | .dstore _ => false
  | _ => true)
set_option maxRecDepth 100000 in
theorem no_all : (List.range 190).all no_chk = true := by decide +kernel
theorem lt_of {j n : Nat} (h : (Nat.blt j n) = true) : j < n := Nat.le_of_ble_eq_true (n := j + 1) h
theorem wr_f {G : GG} {h : PH} {n x v : Nat} (hx : p_kd h x = n / 100) (hz : z_ft n = 0) (j : Nat) : g_f G (p_wr h x (n % 100) v) x j = if j = n % 100 then g_v G (.ref v) else g_f G h x j := by
  have hn : 100 * (n / 100) + n % 100 = n := Nat.div_add_mod n 100
  unfold g_f
  show g_v G (f_get (z_ft (100 * p_kd h x + j)) (p_wr h x (n % 100) v) x j) = _
  rw [hx]
  by_cases hj : j = n % 100
  · rw [if_pos hj, hj, hn, hz]
    show g_v G (.ref (if x = x ∧ n % 100 = n % 100 then v else p_rm h x (n % 100))) = _
    rw [if_pos ⟨rfl, rfl⟩]
  · rw [if_neg hj]
    congr 1
    unfold f_get
    split
    · show Value.ref (if x = x ∧ j = n % 100 then v else p_rm h x j) = _
      rw [if_neg (fun q => hj q.2)]
    · rfl
theorem wi_f {G : GG} {h : PH} {n x : Nat} {v : Int32} (hx : p_kd h x = n / 100) (hz : z_ft n ≠ 0) (j : Nat) : g_f G (p_wi h x (n % 100) v) x j = if j = n % 100 then g_v G (.int v) else g_f G h x j := by
  have hn : 100 * (n / 100) + n % 100 = n := Nat.div_add_mod n 100
  unfold g_f
  show g_v G (f_get (z_ft (100 * p_kd h x + j)) (p_wi h x (n % 100) v) x j) = _
  rw [hx]
  by_cases hj : j = n % 100
  · rw [if_pos hj, hj, hn]
    congr 1
    unfold f_get
    split
    · next hq => exact absurd hq hz
    · show Value.int (if x = x ∧ n % 100 = n % 100 then v else p_im h x (n % 100)) = _
      rw [if_pos ⟨rfl, rfl⟩]
  · rw [if_neg hj]
    congr 1
    unfold f_get
    split
    · rfl
    · show Value.int (if x = x ∧ j = n % 100 then v else p_im h x j) = _
      rw [if_neg (fun q => hj q.2)]
section RUN
variable {G : GG} {l : Launch} {d k pc : Nat} {ls : List Slot} {st : List Value} {h : PH} {Q : Option Value → PH → Prop}
/-- a call, from what the step asks -/
theorem call_case (hG : GOK G) {k1 : Nat} {i : Instr} (hi : (z_code k)[pc]? = some i) (hend : e_end i = false) (hlen : ∀ r len, e_rel (z_ow k) (z_raw k) (n_pc (z_raw k) pc) len r i = true → len = 3)
    (hh : k < 190 → (i = .invokestatic k1 ∧ ∃ x, e_lm (z_ow k) x k1 [3, 4] = true ∧ decode (z_b k) (n_pc (z_raw k) pc) = .ok (.invokestatic x, 3)) ∨
      (∃ (x0 : Nat) (as : List Value), (st.take (z_na k1)).reverse = .ref x0 :: as ∧ p_kd h x0 = z_rk k1 ∧ ¬ x0 = 0 ∧ ∃ x, (e_lm (z_ow k) x k1 [0, 1, 2, 8] = true ∧ decode (z_b k) (n_pc (z_raw k) pc) = .ok (.invokevirtual x, 3)) ∨ (e_lm (z_ow k) x k1 [7] = true ∧ decode (z_b k) (n_pc (z_raw k) pc) = .ok (.invokespecial x, 3))) ∨
      (∃ (x0 : Nat) (as : List Value), (st.take (z_na k1)).reverse = .ref x0 :: as ∧ 1000 ≤ x0 ∧ ∃ x, e_lm (z_ow k) x k1 [5, 6] = true ∧ decode (z_b k) (n_pc (z_raw k) pc) = .ok (.invokespecial x, 3)))
    (H : c_do k1 st (fun k2 a Kc => (match d with
      | 0 => False
      | d1 + 1 => ∃ R : Option Value → PH → Prop, MR G l d1 k2 0 (l_ent (z_ml k2) a) [] h R ∧ ∀ v h2, R v h2 → Kc v h2)) (fun st1 h1 => MR G l d k (pc + 1) (l_kl k (pc + 1) ls) st1 h1 Q)) : MR G l d k pc ls st h Q := by
  intro hk
  obtain ⟨n1, n2, hcat, H⟩ := c_do_inv H
  have hk1 : k1 < 189 := by
    rcases hh hk with ⟨-, x, z, -⟩ | ⟨-, -, -, -, -, x, z⟩ | ⟨-, -, -, -, x, z, -⟩
    · exact lm_lt z
    · exact z.elim (fun z => lm_lt z.1) (fun z => lm_lt z.1)
    · exact lm_lt z
  cases d with
  | zero => exact H.elim
  | succ d =>
    obtain ⟨R, K0, HR⟩ := H
    obtain ⟨v, h1, hv, hn, hu, K0⟩ := K0 (by omega)
    have K := r_on_inv (HR v h1 hv)
    have hna : (st.take (z_na k1)).reverse.length = z_na k1 := by simp; omega
    refine MR.call (SITE.of hG hi ?_ hna n2 (hh hk)) hk1 hi hend hlen hna (fun v hv => hcat v (List.mem_reverse.mp hv)) hn hu K0 K hk
    rw [List.reverse_reverse, List.take_append_drop]
end RUN
end
section
/-! Every instruction. -/
theorem ite_inv {c : Prop} [Decidable c] {A B : Prop} (h : if c then A else B) : (c ∧ A) ∨ (¬ c ∧ B) := by
  by_cases hc : c
  · rw [if_pos hc] at h; exact Or.inl ⟨hc, h⟩
  · rw [if_neg hc] at h; exact Or.inr ⟨hc, h⟩
set_option maxHeartbeats 4000000 in
theorem sem_MR {G : GG} {l : Launch} (hG : GOK G) {d k pc : Nat} {ls : List Slot} {st : List Value} {h : PH} {Q : Option Value → PH → Prop} (H : Sem (MR G l) d k pc ls st h Q) : MR G l d k pc ls st h Q := by
  unfold Sem at H
  generalize hgi : (z_code k).getD pc .athrow = i at H
  have hi0 : i ≠ .athrow → (z_code k)[pc]? = some i := fun q => code_at hgi q
  cases i with
  | nop =>
    have hi := hi0 (by intro h; cases h)
    intro hk
    have h9 := List.all_eq_true.mp (List.all_eq_true.mp no_all k (List.mem_range.mpr hk)) _ (List.mem_of_getElem? hi)
    cases h9
  | dload j =>
    have hi := hi0 (by intro h; cases h)
    intro hk
    have h9 := List.all_eq_true.mp (List.all_eq_true.mp no_all k (List.mem_range.mpr hk)) _ (List.mem_of_getElem? hi)
    cases h9
  | dstore j =>
    have hi := hi0 (by intro h; cases h)
    intro hk
    have h9 := List.all_eq_true.mp (List.all_eq_true.mp no_all k (List.mem_range.mpr hk)) _ (List.mem_of_getElem? hi)
    cases h9
  | iconst n =>
    have hi := hi0 (by intro h; cases h)
    exact MR.same H (fun _ => S_iconst hi)
  | ldc2_w n =>
    have hi := hi0 (by intro h; cases h)
    exact MR.same H (fun _ => S_lconst hi)
  | dconst n =>
    have hi := hi0 (by intro h; cases h)
    exact MR.same H (fun _ => S_dconst hi)
  | aconst_null =>
    have hi := hi0 (by intro h; cases h)
    exact MR.same H (fun _ => S_null hG hi)
  | ldc a =>
    have hi := hi0 (by intro h; cases h)
    exact MR.same H (fun _ => S_ldc hG hi)
  | iload j =>
    have hi := hi0 (by intro h; cases h)
    obtain ⟨x, hx, H⟩ := l_I_inv H
    exact MR.same H (fun _ => S_iload hi hx)
  | lload j =>
    have hi := hi0 (by intro h; cases h)
    obtain ⟨x, hx, H⟩ := l_L_inv H
    exact MR.same H (fun _ => S_lload hi hx)
  | aload j =>
    have hi := hi0 (by intro h; cases h)
    obtain ⟨x, hx, H⟩ := l_R_inv H
    exact MR.same H (fun _ => S_aload hi hx)
  | iinc j n =>
    have hi := hi0 (by intro h; cases h)
    obtain ⟨x, hx, H⟩ := l_I_inv H
    obtain ⟨h1, H⟩ := l_ok_inv H
    exact MR.same H (fun _ => S_iinc hi hx h1)
  | istore j =>
    have hi := hi0 (by intro h; cases h)
    obtain ⟨x, r, rfl, H⟩ := t_I_inv H
    obtain ⟨h1, H⟩ := l_ok_inv H
    have h1 := Bool.and_eq_true_iff.mp h1
    exact MR.same H (fun _ => S_istore hi (lt_of h1.1) h1.2)
  | astore j =>
    have hi := hi0 (by intro h; cases h)
    obtain ⟨x, r, rfl, H⟩ := t_R_inv H
    obtain ⟨h1, H⟩ := l_ok_inv H
    have h1 := Bool.and_eq_true_iff.mp h1
    exact MR.same H (fun _ => S_astore hi (lt_of h1.1) h1.2)
  | lstore j =>
    have hi := hi0 (by intro h; cases h)
    obtain ⟨x, r, rfl, H⟩ := t_L_inv H
    obtain ⟨h1, H⟩ := l_ok_inv H
    have h1 := Bool.and_eq_true_iff.mp h1
    exact MR.same H (fun _ => S_lstore hi (lt_of h1.1) h1.2)
  | iadd =>
    have hi := hi0 (by intro h; cases h)
    obtain ⟨x, y, r, rfl, H⟩ := t_II_inv H
    exact MR.same H (fun _ => S_iadd hi)
  | isub =>
    have hi := hi0 (by intro h; cases h)
    obtain ⟨x, y, r, rfl, H⟩ := t_II_inv H
    exact MR.same H (fun _ => S_isub hi)
  | imul =>
    have hi := hi0 (by intro h; cases h)
    obtain ⟨x, y, r, rfl, H⟩ := t_II_inv H
    exact MR.same H (fun _ => S_imul hi)
  | iand =>
    have hi := hi0 (by intro h; cases h)
    obtain ⟨x, y, r, rfl, H⟩ := t_II_inv H
    exact MR.same H (fun _ => S_iand hi)
  | ior =>
    have hi := hi0 (by intro h; cases h)
    obtain ⟨x, y, r, rfl, H⟩ := t_II_inv H
    exact MR.same H (fun _ => S_ior hi)
  | ixor =>
    have hi := hi0 (by intro h; cases h)
    obtain ⟨x, y, r, rfl, H⟩ := t_II_inv H
    exact MR.same H (fun _ => S_ixor hi)
  | ishl =>
    have hi := hi0 (by intro h; cases h)
    obtain ⟨x, y, r, rfl, H⟩ := t_II_inv H
    exact MR.same H (fun _ => S_ishl hi)
  | ishr =>
    have hi := hi0 (by intro h; cases h)
    obtain ⟨x, y, r, rfl, H⟩ := t_II_inv H
    exact MR.same H (fun _ => S_ishr hi)
  | iushr =>
    have hi := hi0 (by intro h; cases h)
    obtain ⟨x, y, r, rfl, H⟩ := t_II_inv H
    exact MR.same H (fun _ => S_iushr hi)
  | idiv =>
    have hi := hi0 (by intro h; cases h)
    obtain ⟨x, y, r, rfl, hne, H⟩ := t_II_inv H
    exact MR.same H (fun _ => S_idiv hi hne)
  | irem =>
    have hi := hi0 (by intro h; cases h)
    obtain ⟨x, y, r, rfl, hne, H⟩ := t_II_inv H
    exact MR.same H (fun _ => S_irem hi hne)
  | ineg =>
    have hi := hi0 (by intro h; cases h)
    obtain ⟨x, r, rfl, H⟩ := t_I_inv H
    exact MR.same H (fun _ => S_ineg hi)
  | i2b =>
    have hi := hi0 (by intro h; cases h)
    obtain ⟨x, r, rfl, H⟩ := t_I_inv H
    exact MR.same H (fun _ => S_i2b hi)
  | i2c =>
    have hi := hi0 (by intro h; cases h)
    obtain ⟨x, r, rfl, H⟩ := t_I_inv H
    exact MR.same H (fun _ => S_i2c hi)
  | i2l =>
    have hi := hi0 (by intro h; cases h)
    obtain ⟨x, r, rfl, H⟩ := t_I_inv H
    exact MR.same H (fun _ => S_i2l hi)
  | i2d =>
    have hi := hi0 (by intro h; cases h)
    obtain ⟨x, r, rfl, H⟩ := t_I_inv H
    exact MR.same H (fun _ => S_i2d hi)
  | l2i =>
    have hi := hi0 (by intro h; cases h)
    obtain ⟨x, r, rfl, H⟩ := t_L_inv H
    exact MR.same H (fun _ => S_l2i hi)
  | lneg =>
    have hi := hi0 (by intro h; cases h)
    obtain ⟨x, r, rfl, H⟩ := t_L_inv H
    exact MR.same H (fun _ => S_lneg hi)
  | ladd =>
    have hi := hi0 (by intro h; cases h)
    obtain ⟨x, y, r, rfl, H⟩ := t_LL_inv H
    exact MR.same H (fun _ => S_ladd hi)
  | lcmp =>
    have hi := hi0 (by intro h; cases h)
    obtain ⟨x, y, r, rfl, H⟩ := t_LL_inv H
    exact MR.same H (fun _ => S_lcmp hi)
  | ldiv =>
    have hi := hi0 (by intro h; cases h)
    obtain ⟨x, y, r, rfl, hne, H⟩ := t_LL_inv H
    exact MR.same H (fun _ => S_ldiv hi hne)
  | lrem =>
    have hi := hi0 (by intro h; cases h)
    obtain ⟨x, y, r, rfl, hne, H⟩ := t_LL_inv H
    exact MR.same H (fun _ => S_lrem hi hne)
  | ddiv =>
    have hi := hi0 (by intro h; cases h)
    obtain ⟨x, y, r, rfl, hne, H⟩ := t_DD_inv H
    exact MR.same H (fun _ => S_ddiv hi hne)
  | dcmp op =>
    have hi := hi0 (by intro h; cases h)
    obtain ⟨x, y, r, rfl, H⟩ := t_DD_inv H
    exact MR.same H (fun _ => S_dcmp hi)
  | dup =>
    have hi := hi0 (by intro h; cases h)
    obtain ⟨v, r, rfl, hv, H⟩ := t_V1_inv (f := fun v r => MR G l d k (pc + 1) (l_kl k (pc + 1) ls) (v :: v :: r) h Q) H
    exact MR.same H (fun _ => S_dup hi hv)
  | pop =>
    have hi := hi0 (by intro h; cases h)
    obtain ⟨v, r, rfl, hv, H⟩ := t_V1_inv (f := fun _ r => MR G l d k (pc + 1) (l_kl k (pc + 1) ls) r h Q) H
    exact MR.same H (fun _ => S_pop hi hv)
  | dup_x1 =>
    have hi := hi0 (by intro h; cases h)
    obtain ⟨v, r, rfl, hv, H⟩ := t_V1_inv (f := fun v r => t_V1 r (fun w r2 => MR G l d k (pc + 1) (l_kl k (pc + 1) ls) (v :: w :: v :: r2) h Q)) H
    obtain ⟨w, r, rfl, hw, H⟩ := t_V1_inv H
    exact MR.same H (fun _ => S_dup_x1 hi hv hw)
  | dup2 =>
    have hi := hi0 (by intro h; cases h)
    obtain ⟨v, r, rfl, hv, H⟩ := t_V1_inv (f := fun v r => t_V1 r (fun w r2 => MR G l d k (pc + 1) (l_kl k (pc + 1) ls) (v :: w :: v :: w :: r2) h Q)) H
    obtain ⟨w, r, rfl, hw, H⟩ := t_V1_inv H
    exact MR.same H (fun _ => S_dup2 hi hv hw)
  | ifCond c t =>
    have hi := hi0 (by intro h; cases h)
    obtain ⟨x, r, rfl, H⟩ := t_I_inv H
    cases c with
    | eq =>
      rcases ite_inv (c := x = 0) H with ⟨hc, H⟩ | ⟨hc, H⟩
      · exact MR.same H (fun _ => S_if_eq_j hi hc)
      · exact MR.same H (fun _ => S_if_eq_n hi hc)
    | ne =>
      rcases ite_inv (c := x = 0) H with ⟨hc, H⟩ | ⟨hc, H⟩
      · exact MR.same H (fun _ => S_if_ne_n hi hc)
      · exact MR.same H (fun _ => S_if_ne_j hi hc)
    | lt =>
      rcases ite_inv (c := x < 0) H with ⟨hc, H⟩ | ⟨hc, H⟩
      · exact MR.same H (fun _ => S_if_lt_j hi hc)
      · exact MR.same H (fun _ => S_if_lt_n hi hc)
    | ge =>
      rcases ite_inv (c := x < 0) H with ⟨hc, H⟩ | ⟨hc, H⟩
      · exact MR.same H (fun _ => S_if_ge_n hi hc)
      · exact MR.same H (fun _ => S_if_ge_j hi hc)
    | gt =>
      rcases ite_inv (c := 0 < x) H with ⟨hc, H⟩ | ⟨hc, H⟩
      · exact MR.same H (fun _ => S_if_gt_j hi hc)
      · exact MR.same H (fun _ => S_if_gt_n hi hc)
    | le =>
      rcases ite_inv (c := 0 < x) H with ⟨hc, H⟩ | ⟨hc, H⟩
      · exact MR.same H (fun _ => S_if_le_n hi hc)
      · exact MR.same H (fun _ => S_if_le_j hi hc)
  | if_icmp c t =>
    have hi := hi0 (by intro h; cases h)
    obtain ⟨x, y, r, rfl, H⟩ := t_II_inv H
    cases c with
    | eq =>
      rcases ite_inv (c := x = y) H with ⟨hc, H⟩ | ⟨hc, H⟩
      · exact MR.same H (fun _ => S_ic_eq_j hi hc)
      · exact MR.same H (fun _ => S_ic_eq_n hi hc)
    | ne =>
      rcases ite_inv (c := x = y) H with ⟨hc, H⟩ | ⟨hc, H⟩
      · exact MR.same H (fun _ => S_ic_ne_n hi hc)
      · exact MR.same H (fun _ => S_ic_ne_j hi hc)
    | lt =>
      rcases ite_inv (c := x < y) H with ⟨hc, H⟩ | ⟨hc, H⟩
      · exact MR.same H (fun _ => S_ic_lt_j hi hc)
      · exact MR.same H (fun _ => S_ic_lt_n hi hc)
    | ge =>
      rcases ite_inv (c := x < y) H with ⟨hc, H⟩ | ⟨hc, H⟩
      · exact MR.same H (fun _ => S_ic_ge_n hi hc)
      · exact MR.same H (fun _ => S_ic_ge_j hi hc)
    | gt =>
      rcases ite_inv (c := y < x) H with ⟨hc, H⟩ | ⟨hc, H⟩
      · exact MR.same H (fun _ => S_ic_gt_j hi hc)
      · exact MR.same H (fun _ => S_ic_gt_n hi hc)
    | le =>
      rcases ite_inv (c := y < x) H with ⟨hc, H⟩ | ⟨hc, H⟩
      · exact MR.same H (fun _ => S_ic_le_n hi hc)
      · exact MR.same H (fun _ => S_ic_le_j hi hc)
  | if_acmp c t =>
    have hi := hi0 (by intro h; cases h)
    obtain ⟨x, y, r, rfl, ⟨hx, hy⟩, H⟩ := t_RR_inv H
    cases c with
    | eq =>
      rcases ite_inv (c := x = y) H with ⟨hc, H⟩ | ⟨hc, H⟩
      · exact MR.same H (fun _ => S_ac_eq_j hG hi hx hy hc)
      · exact MR.same H (fun _ => S_ac_eq_n hG hi hx hy hc)
    | ne =>
      rcases ite_inv (c := x = y) H with ⟨hc, H⟩ | ⟨hc, H⟩
      · exact MR.same H (fun _ => S_ac_ne_n hG hi hx hy hc)
      · exact MR.same H (fun _ => S_ac_ne_j hG hi hx hy hc)
  | ifnull t =>
    have hi := hi0 (by intro h; cases h)
    obtain ⟨x, r, rfl, hx, H⟩ := t_R_inv H
    rcases ite_inv (c := x = 0) H with ⟨hc, H⟩ | ⟨hc, H⟩
    · subst hc
      exact MR.same H (fun _ => S_ifnull_z hG hi)
    · exact MR.same H (fun _ => S_ifnull_r hG (hx.resolve_left hc) hi)
  | ifnonnull t =>
    have hi := hi0 (by intro h; cases h)
    obtain ⟨x, r, rfl, hx, H⟩ := t_R_inv H
    rcases ite_inv (c := x = 0) H with ⟨hc, H⟩ | ⟨hc, H⟩
    · subst hc
      exact MR.same H (fun _ => S_ifnonnull_z hG hi)
    · exact MR.same H (fun _ => S_ifnonnull_r hG (hx.resolve_left hc) hi)
  | goto t =>
    have hi := hi0 (by intro h; cases h)
    exact MR.same H (fun _ => S_goto hi)
  | tableswitch dflt lo hi1 offs =>
    have hi := hi0 (by intro h; cases h)
    obtain ⟨x, r, rfl, H⟩ := t_I_inv H
    intro hk
    obtain ⟨g1, g2, g3, -⟩ := at_sw hk hi
    rcases sw_inv g1 (by omega) H with ⟨i, o, h3, h4, h5⟩ | ⟨h3, h4⟩
    · exact MR.same h5 (fun _ => S_sw_in hi h3 h4) hk
    · exact MR.same h4 (fun _ => S_sw_out hi h3) hk
  | getfield n =>
    have hi := hi0 (by intro h; cases h)
    obtain ⟨x, r, rfl, ⟨hx, h0⟩, H⟩ := t_R_inv H
    exact MR.same H (fun _ => S_getfield hG hi hx h0)
  | putfield n =>
    have hi := hi0 (by intro h; cases h)
    have H : f_put (z_ft n) n st h (fun r h1 => MR G l d k (pc + 1) (l_kl k (pc + 1) ls) r h1 Q) := H
    cases hz : z_ft n with
    | zero =>
      rw [hz] at H
      obtain ⟨x, v, r, rfl, ⟨hx, hge⟩, H⟩ := t_RR_inv H
      exact MR.step H (fun _ => S_put hG hi hx hge (by rw [hz]; exact g_rv_or G v) rfl rfl rfl rfl wr_o (wr_f hx hz)) (Nat.le_refl _) (Nat.le_refl _)
    | succ z =>
      cases z with
      | zero =>
        rw [hz] at H
        obtain ⟨x, v, r, rfl, ⟨hx, hge⟩, H⟩ := t_RI_inv H
        exact MR.step H (fun _ => S_put hG hi hx hge (by rw [hz]; exact ⟨v, rfl⟩) rfl rfl rfl rfl wi_o (wi_f hx (by rw [hz]; decide))) (Nat.le_refl _) (Nat.le_refl _)
      | succ z =>
        rw [hz] at H
        obtain ⟨x, v, r, rfl, ⟨⟨hx, hge⟩, hv⟩, H⟩ := t_RI_inv H
        exact MR.step H (fun _ => S_put hG hi hx hge (by rw [hz]; rcases hv with rfl | rfl; exact Or.inl rfl; exact Or.inr rfl) rfl rfl rfl rfl wi_o (wi_f hx (by rw [hz]; omega))) (Nat.le_refl _) (Nat.le_refl _)
  | new c1 =>
    have hi := hi0 (by intro h; cases h)
    obtain ⟨hc, H⟩ := H
    exact MR.step H (fun _ => S_new hG hi) (Nat.le_succ _) (Nat.le_add_right _ _)
  | newarray t =>
    have hi := hi0 (by intro h; cases h)
    obtain ⟨n, r, rfl, ⟨hn, hc1, hc2⟩, H⟩ := t_I_inv H
    cases t with
    | int => exact MR.step H (fun _ => S_newarray hG hi (Or.inl ⟨rfl, rfl⟩) hn hc2) (Nat.le_succ _) (Nat.le_add_right _ _)
    | byte => exact MR.step H (fun _ => S_newarray hG hi (Or.inr (Or.inl ⟨rfl, rfl⟩)) hn hc2) (Nat.le_succ _) (Nat.le_add_right _ _)
    | boolean => exact MR.step H (fun _ => S_newarray hG hi (Or.inr (Or.inr ⟨rfl, rfl⟩)) hn hc2) (Nat.le_succ _) (Nat.le_add_right _ _)
    | _ => exact (show False from H).elim
  | anewarray k1 =>
    have hi := hi0 (by intro h; cases h)
    obtain ⟨n, r, rfl, ⟨hn, hc1, hc2⟩, H⟩ := t_I_inv H
    exact MR.step H (fun _ => S_anewarray hG hi hn hc2) (Nat.le_succ _) (Nat.le_add_right _ _)
  | iaload =>
    have hi := hi0 (by intro h; cases h)
    obtain ⟨a, j, r, rfl, ⟨⟨hk1, h0⟩, hj⟩, H⟩ := t_RI_inv H
    exact MR.same H (fun _ => S_iaload hG hi hk1 hj)
  | baload =>
    have hi := hi0 (by intro h; cases h)
    obtain ⟨a, j, r, rfl, ⟨⟨hk1, h0⟩, hj⟩, H⟩ := t_RI_inv H
    exact MR.same H (fun _ => S_baload hG hi hk1 hj)
  | aaload =>
    have hi := hi0 (by intro h; cases h)
    obtain ⟨a, j, r, rfl, ⟨⟨hk1, h0⟩, hj⟩, H⟩ := t_RI_inv H
    exact MR.same H (fun _ => S_aaload hG hi hk1 hj)
  | iastore =>
    have hi := hi0 (by intro h; cases h)
    obtain ⟨a, j, v, r, rfl, ⟨⟨hk1, h0⟩, hj⟩, H⟩ := t_RII_inv H
    exact MR.step H (fun _ => S_iastore hG hi hk1 h0 hj) (Nat.le_refl _) (Nat.le_refl _)
  | bastore =>
    have hi := hi0 (by intro h; cases h)
    obtain ⟨a, j, v, r, rfl, ⟨⟨hk1, h0⟩, hj⟩, H⟩ := t_RII_inv H
    exact MR.step H (fun _ => S_bastore hG hi hk1 h0 hj) (Nat.le_refl _) (Nat.le_refl _)
  | castore =>
    have hi := hi0 (by intro h; cases h)
    obtain ⟨a, j, v, r, rfl, ⟨⟨⟨hk1, h0⟩, hv⟩, hj⟩, H⟩ := t_RII_inv H
    exact MR.step H (fun _ => S_castore hG hi hk1 hv h0 hj) (Nat.le_refl _) (Nat.le_refl _)
  | aastore =>
    have hi := hi0 (by intro h; cases h)
    obtain ⟨a, j, v, r, rfl, ⟨⟨⟨hk1, h0⟩, hv⟩, hj⟩, H⟩ := t_RIR_inv H
    exact MR.step H (fun _ => S_aastore hG hi hk1 h0 hv hj) (Nat.le_refl _) (Nat.le_refl _)
  | arraylength =>
    have hi := hi0 (by intro h; cases h)
    obtain ⟨a, r, rfl, ⟨hk1, h0⟩, H⟩ := t_R_inv H
    exact MR.same H (fun _ => S_len hG hi hk1)
  | checkcast n =>
    have hi := hi0 (by intro h; cases h)
    obtain ⟨a, r, rfl, ⟨hk1, h0⟩, H⟩ := t_R_inv H
    exact MR.same H (fun _ => S_cast hG hi hk1 h0)
  | invokestatic k1 =>
    have hi := hi0 (by intro h; cases h)
    have H : l_if (Nat.beq k1 900) _ _ := H
    cases hb : Nat.beq k1 900 with
    | true =>
      rw [hb] at H
      have e := Nat.eq_of_beq_eq_true hb
      subst e
      obtain ⟨s, sp, dd, dp, n, r, rfl, H⟩ := t_cp_inv H
      obtain ⟨hr, ⟨⟨⟨⟨h1, h2⟩, ⟨h3, h4⟩⟩, ⟨h5, h6, h7⟩, h8, h9⟩, H⟩⟩ := l_ok_inv H
      exact MR.step H (fun _ => S_copy hG hi h1 h3 h4 h5 h6 h7 h8 h9 (Nat.le_of_ble_eq_true hr)) (Nat.le_refl _) (Nat.le_refl _)
    | false =>
      rw [hb] at H
      refine call_case hG hi rfl (fun r len h2 => ?_) (fun hk => ?_) H
      · cases r <;> first
          | exact absurd h2 (by intro h; cases h)
          | exact Nat.eq_of_beq_eq_true (Bool.and_eq_true_iff.mp h2).2
      · obtain ⟨q, len, d1, d2, d3⟩ := at_pc hk hi
        cases q <;> first
          | exact absurd d2 (by intro h; cases h)
          | skip
        rename_i x
        have d2 := Bool.and_eq_true_iff.mp d2
        have e3 := Nat.eq_of_beq_eq_true d2.2
        subst e3
        have d5 := d2.1
        rw [hb] at d5
        exact Or.inl ⟨rfl, x, d5, d1⟩
  | invokevirtual k1 =>
    have hi := hi0 (by intro h; cases h)
    have H : l_if (Nat.beq k1 901) _ _ := H
    cases hb : Nat.beq k1 901 with
    | true =>
      rw [hb] at H
      have e := Nat.eq_of_beq_eq_true hb
      subst e
      obtain ⟨a, r, rfl, H⟩ := t_R_inv H
      obtain ⟨hr, ⟨⟨h1, h2⟩, h3, h4⟩, H⟩ := l_ok_inv H
      exact MR.step H (fun _ => S_clone hG hi h1 h2 (Nat.le_of_ble_eq_true hr)) (Nat.le_succ _) (Nat.le_add_right _ _)
    | false =>
      rw [hb] at H
      obtain ⟨hrc, H⟩ := H
      have hrc : ∃ (x0 : Nat) (as : List Value), (st.take (z_na k1)).reverse = .ref x0 :: as ∧ p_kd h x0 = z_rk k1 ∧ ¬ x0 = 0 := by
        unfold c_rcv at hrc
        split at hrc
        · next a as ha => exact ⟨a, as, ha, hrc⟩
        · exact hrc.elim
      obtain ⟨x0, as, e1, e2, e4⟩ := hrc
      refine call_case hG hi rfl (fun r len h2 => ?_) (fun hk => ?_) H
      · cases r <;> first
          | exact absurd h2 (by intro h; cases h)
          | exact Nat.eq_of_beq_eq_true (Bool.and_eq_true_iff.mp h2).2
          | exact Nat.eq_of_beq_eq_true (Bool.and_eq_true_iff.mp (Bool.and_eq_true_iff.mp h2).1).2
      · obtain ⟨q, len, d1, d2, d3⟩ := at_pc hk hi
        cases q <;> first
          | exact absurd d2 (by intro h; cases h)
          | skip
        · rename_i x
          have d2 := Bool.and_eq_true_iff.mp (Bool.and_eq_true_iff.mp d2).1
          have e3 := Nat.eq_of_beq_eq_true d2.2
          subst e3
          exact Or.inr (Or.inl ⟨x0, as, e1, e2, e4, x, Or.inr ⟨d2.1, d1⟩⟩)
        · rename_i x
          have d2 := Bool.and_eq_true_iff.mp d2
          have e3 := Nat.eq_of_beq_eq_true d2.2
          subst e3
          have d5 := d2.1
          rw [hb] at d5
          exact Or.inr (Or.inl ⟨x0, as, e1, e2, e4, x, Or.inl ⟨d5, d1⟩⟩)
  | invokespecial k1 =>
    have hi := hi0 (by intro h; cases h)
    have H : l_if (Nat.beq k1 902) _ _ := H
    cases hb : Nat.beq k1 902 with
    | true =>
      rw [hb] at H
      have e := Nat.eq_of_beq_eq_true hb
      subst e
      obtain ⟨a, r, rfl, H⟩ := t_R_inv H
      obtain ⟨hr, h1, H⟩ := l_ok_inv H
      exact MR.same H (fun _ => S_objinit hG hi h1 (Nat.le_of_ble_eq_true hr))
    | false =>
      rw [hb] at H
      obtain ⟨hrc, H⟩ := H
      have hrc : ∃ (x0 : Nat) (as : List Value), (st.take (z_na k1)).reverse = .ref x0 :: as ∧ 1000 ≤ x0 := by
        unfold c_ini at hrc
        split at hrc
        · next a as ha => exact ⟨a, as, ha, hrc⟩
        · exact hrc.elim
      obtain ⟨x0, as, e1, e2⟩ := hrc
      refine call_case hG hi rfl (fun r len h2 => ?_) (fun hk => ?_) H
      · cases r <;> first
          | exact absurd h2 (by intro h; cases h)
          | exact Nat.eq_of_beq_eq_true (Bool.and_eq_true_iff.mp h2).2
      · obtain ⟨q, len, d1, d2, d3⟩ := at_pc hk hi
        cases q <;> first
          | exact absurd d2 (by intro h; cases h)
          | skip
        rename_i x
        have d2 := Bool.and_eq_true_iff.mp d2
        have e3 := Nat.eq_of_beq_eq_true d2.2
        subst e3
        have d5 := d2.1
        rw [hb] at d5
        exact Or.inr (Or.inr ⟨x0, as, e1, e2, x, d5, d1⟩)
  | ireturn =>
    have hi := hi0 (by intro h; cases h)
    obtain ⟨x, r, rfl, H⟩ := t_I_inv H
    obtain ⟨h1, H⟩ := l_ok_inv H
    have h1 := isEmpty_nil h1
    subst h1
    exact MR.ret (v := some (.int x)) rfl hi H trivial
  | areturn =>
    have hi := hi0 (by intro h; cases h)
    obtain ⟨x, r, rfl, H⟩ := t_R_inv H
    obtain ⟨h1, H⟩ := l_ok_inv H
    have h1 := isEmpty_nil h1
    subst h1
    exact MR.ret (v := some (.ref x)) rfl hi H trivial
  | dreturn =>
    have hi := hi0 (by intro h; cases h)
    obtain ⟨x, r, rfl, H⟩ := t_D_inv H
    obtain ⟨h1, H⟩ := l_ok_inv H
    have h1 := isEmpty_nil h1
    subst h1
    exact MR.ret (v := some (.double x)) rfl hi H trivial
  | return_ =>
    have hi := hi0 (by intro h; cases h)
    obtain ⟨h1, H⟩ := l_ok_inv H
    have h1 := isEmpty_nil h1
    subst h1
    exact MR.ret (v := none) rfl hi H trivial
  | _ => exact (show False from H).elim
/-- a run of the picture is a run of the machine -/
theorem wp_MR {G : GG} {l : Launch} (hG : GOK G) {d k pc : Nat} {ls : List Slot} {st : List Value} {h : PH} {Q : Option Value → PH → Prop} (H : wp d k pc ls st h Q) : MR G l d k pc ls st h Q := H (MR G l) (fun _ _ _ _ _ _ _ q => sem_MR hG q)
end
section
/-! The start: the classes, the words that go another way. -/
def z_iw : List (Nat × Nat) := [(104, 14), (112, 12), (118, 6), (124, 7), (157, 3), (176, 11), (318, 10), (324, 4), (344, 8), (377, 7), (383, 2), (1346, 28), (1352, 4), (1574, 4), (1658, 5)]
set_option maxRecDepth 100000 in
theorem iw_all : (List.range 15).all (fun k => wa (z_iw.getD k (0, 0)).1 (Cond.instantiable (z_kn (k + 1)) (z_iw.getD k (0, 0)).2)) = true := by decide +kernel
theorem en_cls {args : Array Value} {s : State} (hts : ∀ w ∈ w_g, w.before args s = true) : ∃ D : va_G, ∀ k, 1 ≤ k → k ≤ 15 → u_Kn s (z_kn k) (z_T k) (z_nf k) (D.1 (k - 1)) (D.2 (k - 1)) := by
  have h : ∀ k : Nat, ∃ q : ClassId × (Nat → Nat), k < 15 → u_Kn s (z_kn (k + 1)) (z_T (k + 1)) (z_nf (k + 1)) q.1 q.2 := by
    intro k
    by_cases hk : k < 15
    · have hi := wa_in (i := (z_iw.getD k (0, 0)).1) (w := Cond.instantiable (z_kn (k + 1)) (z_iw.getD k (0, 0)).2) (List.all_eq_true.mp iw_all k (List.mem_range.mpr hk))
      obtain ⟨c, i, h⟩ := u_known hts (lays_in (k := k + 1) (by omega) (by omega)) (hts _ hi)
      exact ⟨(c, i), fun _ => h⟩
    · exact ⟨(0, fun _ => 0), fun z => absurd z hk⟩
  obtain ⟨f, hf⟩ := Classical.axiomOfChoice h
  refine ⟨(fun k => (f k).1, fun k => (f k).2), fun k h1 h2 => ?_⟩
  obtain ⟨j, rfl⟩ : ∃ j, k = j + 1 := ⟨k - 1, by omega⟩
  exact hf j (by omega)
def z_ak (c1 c2 c3 c4 c5 c6 c7 c8 : ClassId) (k : Nat) : ClassId := match k with
  | 100 => c1
  | 120 => c2
  | 300 => c3
  | 310 => c4
  | 312 => c5
  | 313 => c6
  | 314 => c7
  | 315 => c8
  | _ => 0
def w_1 (i : Nat) (w : Cond) : Bool := decide (w_all[i]? = some w)
theorem w_1in {i : Nat} {w : Cond} {args : Array Value} {s : State} (hall : ∀ w ∈ w_all, w.before args s = true) (h : w_1 i w = true) : w.before args s = true := hall _ (List.mem_of_getElem? (of_decide_eq_true h))
set_option maxRecDepth 100000 in
theorem en_arr {args : Array Value} {s : State} (hall : ∀ w ∈ w_all, w.before args s = true) : ∃ A : Nat → ClassId, ∀ k t, z_ety k = some t → ArrOfT s (A k) t ∧ va_RA s (A k) t ∧ (t.isReference = true → ∃ (kA : Class) (comp : ClassId), s.vm.classes[A k]? = some kA ∧ kA.kind = .array comp t ∧ (k ≤ 313 → s.vm.findClass (z_kn (p_el k)) = some comp) ∧ (314 ≤ k → comp = A (p_el k))) := by
  obtain ⟨c1, k1, d1, a1, a2, a3⟩ := Cond.arrayClass_spec (w_1in (i := 155) (w := .arrayClass .int) hall (by decide +kernel))
  obtain ⟨c2, k2, d2, b1, b2, b3⟩ := Cond.arrayClass_spec (w_1in (i := 154) (w := .arrayClass .byte) hall (by decide +kernel))
  obtain ⟨c3, k3, d3, e1, e2, e3⟩ := Cond.arrayClass_spec (w_1in (i := 1679) (w := .arrayClass .boolean) hall (by decide +kernel))
  obtain ⟨d4, c4, k4, f1, f2, f3, f4, f5⟩ := Cond.arrayOver_spec (w_1in (i := 130) (w := .arrayOver (.object "ClauseDesk$Kind")) hall (by decide +kernel))
  obtain ⟨d5, c5, k5, g1, g2, g3, g4, g5⟩ := Cond.arrayOver_spec (w_1in (i := 175) (w := .arrayOver (.object "ClauseDesk$Clause")) hall (by decide +kernel))
  obtain ⟨d6, c6, k6, h1, h2, h3, h4, h5⟩ := Cond.arrayOver_spec (w_1in (i := 1657) (w := .arrayOver (.object "ClauseDeskLaw$Item")) hall (by decide +kernel))
  obtain ⟨d7, c7, k7, i1, i2, i3, i4⟩ := Cond.arrayOver_specA (w_1in (i := 1647) (w := .arrayOver (.array .int)) hall (by decide +kernel))
  obtain ⟨d8, c8, k8, j1, j2, j3, j4⟩ := Cond.arrayOver_specA (w_1in (i := 1649) (w := .arrayOver (.array (.object "ClauseDeskLaw$Item"))) hall (by decide +kernel))
  refine ⟨z_ak c1 c2 c3 c4 c5 c6 c7 c8, fun k t ht => ?_⟩
  unfold z_ety at ht
  split at ht
  · cases ht; exact ⟨fun n z => ⟨(fun k h => by cases h), k1, a2, d1, a3⟩, a1, fun h => absurd h (by decide)⟩
  · cases ht; exact ⟨fun n z => ⟨(fun k h => by cases h), k2, b2, d2, b3⟩, b1, fun h => absurd h (by decide)⟩
  · cases ht; exact ⟨fun n z => ⟨(fun k h => by cases h), k3, e2, d3, e3⟩, e1, fun h => absurd h (by decide)⟩
  · cases ht; exact ⟨fun n z => ⟨(fun k h => by cases h), k4, f3, d4, f4⟩, ⟨k4, d4, f3, f4, f1, f5⟩, fun _ => ⟨k4, d4, f3, f4, fun _ => f1, fun h => absurd h (by decide)⟩⟩
  · cases ht; exact ⟨fun n z => ⟨(fun k h => by cases h), k5, g3, d5, g4⟩, ⟨k5, d5, g3, g4, g1, g5⟩, fun _ => ⟨k5, d5, g3, g4, fun _ => g1, fun h => absurd h (by decide)⟩⟩
  · cases ht; exact ⟨fun n z => ⟨(fun k h => by cases h), k6, h3, d6, h4⟩, ⟨k6, d6, h3, h4, h1, h5⟩, fun _ => ⟨k6, d6, h3, h4, fun _ => h1, fun h => absurd h (by decide)⟩⟩
  · cases ht; exact ⟨fun n z => ⟨(fun k h => by cases h), k7, i2, d7, i3⟩, i4, fun _ => ⟨k7, d7, i2, i3, fun h => absurd h (by decide), fun _ => Option.some.inj (i1.symm.trans a1)⟩⟩
  · cases ht; exact ⟨fun n z => ⟨(fun k h => by cases h), k8, j2, d8, j3⟩, j4, fun _ => ⟨k8, d8, j2, j3, fun h => absurd h (by decide), fun _ => Option.some.inj (j1.symm.trans h5)⟩⟩
  · cases ht
set_option maxRecDepth 100000 in
theorem en_nw {args : Array Value} {s : State} (hall : ∀ w ∈ w_all, w.before args s = true) : ∀ w ∈ z_nw, va_Nw w s := by
  intro w hw
  simp only [z_nw, List.mem_cons, List.not_mem_nil, or_false] at hw
  rcases hw with rfl | rfl
  · exact va_Nw.of rfl (w_1in (i := 1059) hall (by decide +kernel))
  · exact va_Nw.of rfl (w_1in (i := 1491) hall (by decide +kernel))
def lmn_w (o : Option Cond) (C : String) (n : Nat) (y : MethodName) : Bool := match o with
  | some (.methodLinkNest a b c _) => decide (a = C) && Nat.beq b n && decide (c = y)
  | _ => false
theorem lmn_of {o : Option Cond} {C : String} {n : Nat} {y : MethodName} (h : lmn_w o C n y = true) : ∃ host, o = some (.methodLinkNest C n y host) := by
  unfold lmn_w at h
  split at h
  · rename_i a b c host
    simp only [Bool.and_eq_true, decide_eq_true_eq] at h
    obtain ⟨⟨h1, h2⟩, h3⟩ := h
    have h2 := Nat.eq_of_beq_eq_true h2
    subst h1 h2 h3
    exact ⟨_, rfl⟩
  · cases h
def lmn_chk (q : Nat × Nat × Nat × Nat × MethodName × List Nat) : Bool := bif Nat.beq q.2.2.2.1 2 || Nat.beq q.2.2.2.1 4 || Nat.beq q.2.2.2.1 6 then lmn_w w_all[q.2.2.2.2.2.getD 0 0]? (z_cn q.1) q.2.1 (z_y q.2.2.1) else true
set_option maxRecDepth 100000 in
theorem lmn_all : z_lm.all lmn_chk = true := by decide +kernel
theorem en_lm {args : Array Value} {s : State} (hall : ∀ w ∈ w_all, w.before args s = true) : ∀ q ∈ z_lm, q.2.2.2.1 = 2 ∨ q.2.2.2.1 = 4 ∨ q.2.2.2.1 = 6 → ∃ host, va_Nw (.methodLinkNest (z_cn q.1) q.2.1 (z_y q.2.2.1) host) s := by
  intro q hq hw
  have h := List.all_eq_true.mp lmn_all q hq
  unfold lmn_chk at h
  have h1 : (Nat.beq q.2.2.2.1 2 || Nat.beq q.2.2.2.1 4 || Nat.beq q.2.2.2.1 6) = true := by
    rcases hw with e | e | e <;> rw [e] <;> rfl
  rw [h1] at h
  obtain ⟨host, e⟩ := lmn_of h
  exact ⟨host, va_Nw.of rfl (hall _ (List.mem_of_getElem? e))⟩
set_option maxRecDepth 100000 in
theorem en_la {args : Array Value} {s : State} (hall : ∀ w ∈ w_all, w.before args s = true) : ∀ q ∈ z_la, va_Nw (.arrayOver (match z_ety q.2.2.1 with | some t => t | none => .int)) s := by
  have h1 : va_Nw (.arrayOver (.object "ClauseDesk$Kind")) s := by
    have z := w_1in (i := 130) (w := (.arrayOver (.object "ClauseDesk$Kind"))) hall (by decide +kernel)
    exact z
  have h2 : va_Nw (.arrayOver (.object "ClauseDesk$Clause")) s := by
    have z := w_1in (i := 175) (w := (.arrayOver (.object "ClauseDesk$Clause"))) hall (by decide +kernel)
    exact z
  have h3 : va_Nw (.arrayOver (.object "ClauseDeskLaw$Item")) s := by
    have z := w_1in (i := 1657) (w := (.arrayOver (.object "ClauseDeskLaw$Item"))) hall (by decide +kernel)
    exact z
  have h4 : va_Nw (.arrayOver (.array .int)) s := by
    have z := w_1in (i := 1647) (w := (.arrayOver (.array .int))) hall (by decide +kernel)
    exact z
  have h5 : va_Nw (.arrayOver (.array (.object "ClauseDeskLaw$Item"))) s := by
    have z := w_1in (i := 1649) (w := (.arrayOver (.array (.object "ClauseDeskLaw$Item")))) hall (by decide +kernel)
    exact z
  intro q hq
  simp only [z_la, List.mem_cons, List.not_mem_nil, or_false] at hq
  rcases hq with rfl | rfl | rfl | rfl | rfl | rfl
  · exact h1
  · exact h1
  · exact h2
  · exact h3
  · exact h4
  · exact h5
end
section
/-! The start: the constants, out of the premises (found by their paths). -/
def c_kn : List String := ["FACT", "CLAUSE", "WHEN", "OPTIONAL", "NEEDS", "BARS", "AFTER", "REF", "DEF", "USE", "SHOW", "IF", "ELSE", "POINTS", "POINT", "AND", "OR", "NOT", "MIN", "MAX", "OPEN_BLOCK", "CLOSE_BLOCK", "OPEN_SUM", "CLOSE_SUM", "OPEN_TEST", "CLOSE_TEST", "SEMICOLON", "COMMA", "PLUS", "MINUS", "TIMES", "OVER", "LESS", "MORE", "EQUAL", "AT_MOST", "AT_LEAST", "NAME", "NUMBER", "STRING", "END", "WRONG", "TURN"]
def c_kk : List Nat := [157, 163, 166, 169, 172, 175, 178, 181, 184, 187, 190, 193, 196, 199, 202, 205, 208, 211, 214, 217, 220, 223, 226, 229, 232, 235, 238, 241, 244, 247, 250, 253, 256, 259, 262, 265, 268, 271, 271, 271, 271, 271, 271]
/-- the text of a kind: its place among the texts -/
def c_kt : List Nat := [30, 33, 34, 50, 8, 9, 10, 27, 29, 28, 53, 25, 24, 54, 55, 48, 49, 26, 56, 57, 51, 52, 38, 37, 35, 36, 32, 39, 42, 43, 40, 41, 44, 45, 31, 46, 47, 1, 1, 1, 1, 1, 1]
def c_so : List (String × Nat) := [("ClauseDeskLaw", 142), ("ClauseDeskLaw", 79), ("ClauseDeskLaw", 144), ("ClauseDeskLaw", 122), ("ClauseDeskLaw", 185), ("ClauseDeskLaw", 187), ("ClauseDeskLaw", 189), ("ClauseDeskLaw", 191), ("ClauseDeskLaw", 193), ("ClauseDeskLaw", 197), ("ClauseDeskLaw", 198), ("ClauseDeskLaw", 92), ("ClauseDeskLaw", 101), ("ClauseDeskLaw", 103), ("ClauseDeskLaw", 109), ("ClauseDeskLaw", 114), ("ClauseDeskLaw", 116), ("ClauseDeskLaw", 118), ("ClauseDeskLaw", 120), ("ClauseDeskLaw", 124), ("ClauseDeskLaw", 130), ("ClauseDeskLaw", 132), ("ClauseDeskLaw", 134), ("ClauseDeskLaw", 136), ("ClauseDesk$Kind", 196), ("ClauseDesk$Kind", 193), ("ClauseDesk$Kind", 211), ("ClauseDesk$Kind", 181), ("ClauseDesk$Kind", 187), ("ClauseDesk$Kind", 184), ("ClauseDesk$Kind", 157), ("ClauseDesk$Kind", 262), ("ClauseDesk$Kind", 238), ("ClauseDesk$Kind", 163), ("ClauseDesk$Kind", 166), ("ClauseDesk$Kind", 232), ("ClauseDesk$Kind", 235), ("ClauseDesk$Kind", 229), ("ClauseDesk$Kind", 226), ("ClauseDesk$Kind", 241), ("ClauseDesk$Kind", 250), ("ClauseDesk$Kind", 253), ("ClauseDesk$Kind", 244), ("ClauseDesk$Kind", 247), ("ClauseDesk$Kind", 256), ("ClauseDesk$Kind", 259), ("ClauseDesk$Kind", 265), ("ClauseDesk$Kind", 268), ("ClauseDesk$Kind", 205), ("ClauseDesk$Kind", 208), ("ClauseDesk$Kind", 169), ("ClauseDesk$Kind", 220), ("ClauseDesk$Kind", 223), ("ClauseDesk$Kind", 190), ("ClauseDesk$Kind", 199), ("ClauseDesk$Kind", 202), ("ClauseDesk$Kind", 214), ("ClauseDesk$Kind", 217)]
def c_sb : List (List Int32) := [[102, 97, 99, 116, 32], [], [32, 61, 32], [59, 32], [99, 108, 97, 117, 115, 101, 32], [119, 104, 101, 110, 32], [32, 62, 32], [111, 112, 116, 105, 111, 110, 97, 108, 32], [110, 101, 101, 100, 115], [98, 97, 114, 115], [97, 102, 116, 101, 114], [123, 32], [100, 101, 102, 32], [117, 115, 101, 32], [39, 84, 101, 120, 116, 32], [59, 32, 39, 32], [114, 101, 102, 32], [115, 104, 111, 119, 32], [42, 50, 45], [105, 102, 32], [101, 108, 115, 101, 32], [112, 111, 105, 110, 116, 115, 32, 123, 32, 112, 111, 105, 110, 116, 32], [112, 111, 105, 110, 116, 32], [125, 32], [101, 108, 115, 101], [105, 102], [110, 111, 116], [114, 101, 102], [117, 115, 101], [100, 101, 102], [102, 97, 99, 116], [61], [59], [99, 108, 97, 117, 115, 101], [119, 104, 101, 110], [91], [93], [41], [40], [44], [42], [47], [43], [45], [60], [62], [60, 61], [62, 61], [97, 110, 100], [111, 114], [111, 112, 116, 105, 111, 110, 97, 108], [123], [125], [115, 104, 111, 119], [112, 111, 105, 110, 116, 115], [112, 111, 105, 110, 116], [109, 105, 110], [109, 97, 120]]
def c_sw : List Int32 := [14, 15, 0, 0, 16, 17, 18, 2, 3, 4, 5, 6, 0, 7, 19, 28, 29, 0, 12, 13, 0, 0, 11, 0, 0, 0, 0, 0, 20, 10, 21, 22, 23, 24, 25, 26, 27, 9, 8, 1, 0, 0, 0]
def c_d1 : List Int32 := [48, 49, 50, 51, 52, 53, 54, 55, 56, 57, 48, 49, 50, 51, 52, 53, 54, 55, 56, 57, 48, 49, 50, 51, 52, 53, 54, 55, 56, 57, 48, 49, 50, 51, 52, 53, 54, 55, 56, 57, 48, 49, 50, 51, 52, 53, 54, 55, 56, 57, 48, 49, 50, 51, 52, 53, 54, 55, 56, 57, 48, 49, 50, 51, 52, 53, 54, 55, 56, 57, 48, 49, 50, 51, 52, 53, 54, 55, 56, 57, 48, 49, 50, 51, 52, 53, 54, 55, 56, 57, 48, 49, 50, 51, 52, 53, 54, 55, 56, 57]
def c_d2 : List Int32 := [48, 48, 48, 48, 48, 48, 48, 48, 48, 48, 49, 49, 49, 49, 49, 49, 49, 49, 49, 49, 50, 50, 50, 50, 50, 50, 50, 50, 50, 50, 51, 51, 51, 51, 51, 51, 51, 51, 51, 51, 52, 52, 52, 52, 52, 52, 52, 52, 52, 52, 53, 53, 53, 53, 53, 53, 53, 53, 53, 53, 54, 54, 54, 54, 54, 54, 54, 54, 54, 54, 55, 55, 55, 55, 55, 55, 55, 55, 55, 55, 56, 56, 56, 56, 56, 56, 56, 56, 56, 56, 57, 57, 57, 57, 57, 57, 57, 57, 57, 57]
def q_w : List Nat := [3137, 2625, 3649, 2369, 3393, 2881, 3905, 2241, 3265, 2753, 3777, 2497, 3521, 3009, 4033, 2081, 3105, 2593, 3617, 2337, 3361, 2849, 3873, 2209, 3233, 2721, 3745, 2465, 3489, 2977, 4001, 2145, 3169, 2657, 3681, 2401, 3425, 2913, 3937, 2273, 3297, 2785, 3809]
def q_1 : List Nat := [2873, 3897, 2233, 3257, 2745, 3769, 2489, 3513, 3001, 4025, 2169, 3193, 2681, 3705, 2425, 3449, 2937, 3961, 2297, 3321, 2809, 3833, 2553, 3577, 3065, 4089, 2053, 3077, 2565, 3589, 2309, 3333, 2821, 3845, 2181, 3205, 2693, 3717, 2437, 3461, 2949, 3973, 2117, 3141, 2629, 3653, 2373, 3397, 2885, 3909, 2245, 3269, 2757, 3781, 2501, 3525, 3013, 4037, 2085, 3109, 2597, 3621, 2341, 3365, 2853, 3877, 2213, 3237, 2725, 3749, 2469, 3493, 2981, 4005, 2149, 3173, 2661, 3685, 2405, 3429, 2917, 3941, 2277, 3301, 2789, 3813, 2533, 3557, 3045, 4069, 2069, 3093, 2581, 3605, 2325, 3349, 2837, 3861, 2197, 3221]
def q_2 : List Nat := [3477, 2965, 3989, 2133, 3157, 2645, 3669, 2389, 3413, 2901, 3925, 2261, 3285, 2773, 3797, 2517, 3541, 3029, 4053, 2101, 3125, 2613, 3637, 2357, 3381, 2869, 3893, 2229, 3253, 2741, 3765, 2485, 3509, 2997, 4021, 2165, 3189, 2677, 3701, 2421, 3445, 2933, 3957, 2293, 3317, 2805, 3829, 2549, 3573, 3061, 4085, 2061, 3085, 2573, 3597, 2317, 3341, 2829, 3853, 2189, 3213, 2701, 3725, 2445, 3469, 2957, 3981, 2125, 3149, 2637, 3661, 2381, 3405, 2893, 3917, 2253, 3277, 2765, 3789, 2509, 3533, 3021, 4045, 2093, 3117, 2605, 3629, 2349, 3373, 2861, 3885, 2221, 3245, 2733, 3757, 2477, 3501, 2989, 4013, 2157]
def q_k : List Nat := [3401, 3017, 3113, 3161, 3153, 2961, 2385, 2193, 3921, 3729, 2777, 3713, 2177, 3545, 2105, 3737, 2969, 3345, 3181, 2413, 2393, 3929, 3497, 2729, 2345, 3881, 3785, 2153, 3305, 2537, 3689, 2921, 4073, 2585, 2249, 3353, 2201, 4065, 2529, 2633, 4049, 3329, 2577]
def q_ko : List Nat := [2889, 4041, 2601, 2649, 2641, 3985, 3409, 3217, 2257, 2449, 3801, 2433, 3201, 3033, 3129, 2457, 3993, 2833, 2669, 3437, 3417, 2265, 2985, 3753, 3369, 2217, 2505, 3177, 2793, 3561, 2409, 3945, 2073, 3609, 3273, 2841, 3225, 2065, 3553, 3657, 2097, 2817, 3601]
def q_kx : List Nat := [3913, 2089, 3625, 3673, 3665, 2129, 2897, 2705, 3281, 3473, 2521, 3457, 2689, 4057, 2617, 3481, 2137, 3857, 3693, 2925, 2905, 3289, 4009, 2473, 2857, 3241, 3529, 2665, 3817, 3049, 3433, 2281, 3097, 2329, 2761, 3865, 2713, 3089, 3041, 2377, 3121, 3841, 2321]
def q_kd : List Nat := [0, 0, 0, 0, 2811, 2171, 2311, 0, 0, 0, 0, 0, 0, 0, 0, 0, 0, 0, 0, 0, 0, 0, 0, 0, 0, 0, 0, 0, 0, 0, 0, 0, 0, 0, 0, 0, 0, 2331, 2331, 2331, 2331, 2331, 2331]
def q_ka : List Nat := [3889, 2225, 3249, 2737, 3761, 2481, 3505, 2993, 4017, 2161, 3185, 2673, 3697, 2417, 3441, 2929, 3953, 2289, 3313, 2801, 3825, 2545, 3569, 3057, 4081, 2057, 3081, 2569, 3593, 2313, 3337, 2825, 3849, 2185, 3209, 2697, 3721, 2441, 3465, 2953, 3977, 2121, 3145]
def q_s1 : List Nat := [2173, 3325, 3581, 3331, 3715, 2883, 4035, 2851, 3683, 2531, 2323, 3475, 3667, 3795, 3635, 3507, 3443, 3571, 2827, 3467, 2379, 3531, 2155, 2795, 3355, 3483, 3675, 2779, 3131, 3335, 2439, 2375, 3271, 3015, 2215, 2151, 3431, 2791, 4071, 2327, 3223, 2967, 3671, 2263, 3543, 2615, 3895, 3511, 3703, 2807, 2063, 2447, 3151, 2895, 3023, 2223, 3183, 2287]
def q_s2 : List Nat := [3197, 2813, 3069, 2819, 2435, 3907, 2083, 3875, 2403, 3555, 3347, 2963, 2387, 2515, 2355, 2995, 2931, 3059, 3851, 2955, 3403, 3019, 3179, 3819, 2843, 2971, 2395, 3803, 2619, 2823, 3463, 3399, 2759, 4039, 3239, 3175, 2919, 3815, 2071, 3351, 2711, 3991, 2391, 3287, 3031, 3639, 2231, 2999, 2423, 3831, 3087, 3471, 2639, 3919, 4047, 3247, 2671, 3311]
def q_s3 : List Nat := [2685, 3837, 4093, 3843, 3459, 2243, 3107, 2211, 3427, 3043, 2835, 3987, 3411, 3539, 3379, 4019, 3955, 4083, 2187, 3979, 2891, 4043, 2667, 2539, 3867, 3995, 3419, 2523, 3643, 3847, 2951, 2887, 3783, 2087, 2727, 2663, 3943, 2535, 3095, 2839, 3735, 2135, 3415, 2775, 4055, 2359, 3255, 4023, 3447, 2551, 2575, 2959, 3663, 2255, 2095, 2735, 3695, 2799]
def q_s4 : List Nat := [3709, 2557, 1027, 2179, 2947, 3267, 2595, 3235, 2915, 4067, 3859, 2131, 2899, 3027, 2867, 2163, 2291, 2059, 3211, 2123, 3915, 2091, 3691, 3563, 2203, 2139, 2907, 3547, 2363, 2183, 3975, 3911, 2503, 3111, 3751, 3687, 2279, 3559, 2583, 3863, 2455, 3159, 2903, 3799, 2103, 3383, 2743, 2167, 2935, 3575, 3599, 3983, 2383, 3279, 3119, 3759, 2415, 3823]
def q_s5 : List (List Nat) := [[2429, 3453, 2941, 3965, 2301], [], [2563, 3587, 2307], [3203, 2691], [3971, 2115, 3139, 2627, 3651, 2371, 3395], [2755, 3779, 2499, 3523, 3011], [3619, 2339, 3363], [2723, 3747, 2467, 3491, 2979, 4003, 2147, 3171, 2659], [3939, 2275, 3299, 2787, 3811], [2067, 3091, 2579, 3603], [2195, 3219, 2707, 3731, 2451], [3155, 2643], [3923, 2259, 3283, 2771], [4051, 2099, 3123, 2611], [3891, 2227, 3251, 2739, 3763, 2483], [3187, 2675, 3699, 2419], [3315, 2803, 3827, 2547], [3083, 2571, 3595, 2315, 3339], [2699, 3723, 2443], [3147, 2635, 3659], [2251, 3275, 2763, 3787, 2507], [3115, 2603, 3627, 2347, 3371, 2859, 3883, 2219, 3243, 2731, 3755, 2475, 3499, 2987, 4011], [2411, 3435, 2923, 3947, 2283, 3307], [3051, 4075], [3227, 2715, 3739, 2459], [3163, 2651], [3931, 2267, 3291], [3035, 4059, 2107], [3387, 2875, 3899], [3207, 2695, 3719], [2119, 3143, 2631, 3655], [2247], [3527], [2599, 3623, 2343, 3367, 2855, 3879], [2471, 3495, 2983, 4007], [2407], [3303], [3047], [3607], [2199], [3479], [2647], [3927], [2519], [3127], [2871], [3767, 2487], [3191, 2679], [3959, 2295, 3319], [3063, 4087], [2319, 3343, 2831, 3855, 2191, 3215, 2703, 3727], [2127], [3407], [2767, 3791, 2511, 3535], [2607, 3631, 2351, 3375, 2863, 3887], [2479, 3503, 2991, 4015, 2159], [3439, 2927, 3951], [2543, 3567, 3055]]
/-- a premise by its path -/
def n_go : Nat → Nat → Cond → Cond
  | 0, _, c => c
  | f + 1, p, .and x y => bif Nat.ble p 1 then .and x y else n_go f (p / 2) (bif Nat.beq (p % 2) 1 then y else x)
  | _ + 1, _, c => c
theorem n_go_of {args : Array Value} {s : State} : ∀ (f p : Nat) (c : Cond), c.before args s = true → (n_go f p c).before args s = true := by
  intro f
  induction f with
  | zero => intro p c h; exact h
  | succ f ih =>
    intro p c h
    cases c with
    | and x y =>
      have h0 := h
      rw [Cond.before_and, Bool.and_eq_true] at h
      show (bif Nat.ble p 1 then Cond.and x y else n_go f (p / 2) (bif Nat.beq (p % 2) 1 then y else x)).before args s = true
      cases Nat.ble p 1
      · cases Nat.beq (p % 2) 1
        · exact ih _ _ h.1
        · exact ih _ _ h.2
      · exact h0
    | _ => exact h
def n_T : Cond := Jvm.Cond.and given_1 narrow_1
def n_1 (p : Nat) (w : Cond) : Bool := decide (n_go 20 p n_T = w)
theorem n_in {p : Nat} {w : Cond} {args : Array Value} {s : State} (h0 : n_T.before args s = true) (h : n_1 p w = true) : w.before args s = true := (of_decide_eq_true h) ▸ n_go_of 20 p n_T h0
def n_all (N : Nat) (q : List Nat) (w : Nat → Cond) : Bool := (List.range N).all (fun i => n_1 (q.getD i 0) (w i))
theorem n_use {N : Nat} {q : List Nat} {w : Nat → Cond} {args : Array Value} {s : State} (h0 : n_T.before args s = true) (h : n_all N q w = true) : ∀ i, i < N → (w i).before args s = true := fun i hi => n_in h0 (List.all_eq_true.mp h i (List.mem_range.mpr hi))
def tK (i : Nat) : Term := .static "ClauseDesk$Kind" (c_kn.getD i "") "LClauseDesk$Kind;"
def tS (j : Nat) : Term := .string (c_so.getD j ("", 0)).1 (c_so.getD j ("", 0)).2
def tV (j : Nat) : Term := .field (tS j) "java/lang/String" "value" "[B"
def tKS : Term := .static "ClauseDesk" "KINDS" "[LClauseDesk$Kind;"
def tSW : Term := .static "ClauseDesk$1" "$SwitchMap$ClauseDesk$Kind" "[I"
def tD1 : Term := .static "java/lang/Integer" "DigitOnes" "[B"
def tD2 : Term := .static "java/lang/Integer" "DigitTens" "[B"
def tFM : Term := .static "jdk/internal/util/Preconditions" "SIOOBE_FORMATTER" "Ljava/util/function/BiFunction;"
def c_sl (j : Nat) : Nat := (c_sb.getD j []).length
set_option maxRecDepth 100000 in
theorem nk_1 : n_all 43 q_k (fun i => .exactly (tK i) "ClauseDesk$Kind") = true := by decide +kernel
set_option maxRecDepth 100000 in
theorem nk_2 : n_all 43 q_ko (fun i => .eq (.field (tK i) "java/lang/Enum" "ordinal" "I") (.int (Int32.ofNat i))) = true := by decide +kernel
set_option maxRecDepth 100000 in
theorem nk_3 : n_all 43 q_kx (fun i => .eq (.field (tK i) "ClauseDesk$Kind" "text" "Ljava/lang/String;") (.string "ClauseDesk$Kind" (c_kk.getD i 0))) = true := by decide +kernel
set_option maxRecDepth 100000 in
theorem nk_4 : (List.range 43).all (fun i => Nat.blt (c_kt.getD i 0) 58 && (decide (tS (c_kt.getD i 0) = .string "ClauseDesk$Kind" (c_kk.getD i 0)) || n_1 (q_kd.getD i 0) (.eq (tS (c_kt.getD i 0)) (.string "ClauseDesk$Kind" (c_kk.getD i 0))))) = true := by decide +kernel
set_option maxRecDepth 100000 in
theorem nk_5 : n_all 43 q_ka (fun i => .eq (.elem tKS (.int (Int32.ofNat i))) (tK i)) = true := by decide +kernel
set_option maxRecDepth 100000 in
theorem nw_1 : n_all 43 q_w (fun i => .eq (.elem tSW (.int (Int32.ofNat i))) (.int (c_sw.getD i 0))) = true := by decide +kernel
set_option maxRecDepth 100000 in
theorem nd_1 : n_all 100 q_1 (fun i => .eq (.elem tD1 (.int (Int32.ofNat i))) (.int (c_d1.getD i 0))) = true := by decide +kernel
set_option maxRecDepth 100000 in
theorem nd_2 : n_all 100 q_2 (fun i => .eq (.elem tD2 (.int (Int32.ofNat i))) (.int (c_d2.getD i 0))) = true := by decide +kernel
set_option maxRecDepth 100000 in
theorem ns_1 : n_all 58 q_s1 (fun j => .exactly (tS j) "java/lang/String") = true := by decide +kernel
set_option maxRecDepth 100000 in
theorem ns_2 : n_all 58 q_s2 (fun j => .eq (.field (tS j) "java/lang/String" "coder" "B") (.int 0)) = true := by decide +kernel
set_option maxRecDepth 100000 in
theorem ns_3 : n_all 58 q_s3 (fun j => .arrayOf (tV j) .byte) = true := by decide +kernel
set_option maxRecDepth 100000 in
theorem ns_4 : n_all 58 q_s4 (fun j => .eq (.length (tV j)) (.int (Int32.ofNat (c_sl j)))) = true := by decide +kernel
set_option maxRecDepth 100000 in
theorem ns_5 : (List.range 58).all (fun j => Nat.ble (c_sl j) 100 && n_all (c_sl j) (q_s5.getD j []) (fun i => .eq (.elem (tV j) (.int (Int32.ofNat i))) (.int ((c_sb.getD j []).getD i 0)))) = true := by decide +kernel
set_option maxRecDepth 100000 in
theorem n1_1 : n_1 2353 (.arrayOf tKS (.object "ClauseDesk$Kind")) = true ∧ n_1 3377 (.eq (.length tKS) (.int (Int32.ofNat 43))) = true ∧ n_1 3969 (.arrayOf tSW .int) = true ∧ n_1 2113 (.eq (.length tSW) (.int (Int32.ofNat 43))) = true := by decide +kernel
set_option maxRecDepth 100000 in
theorem n1_2 : n_1 2361 (.arrayOf tD1 .byte) = true ∧ n_1 3385 (.eq (.length tD1) (.int (Int32.ofNat 100))) = true ∧ n_1 3733 (.arrayOf tD2 .byte) = true ∧ n_1 2453 (.eq (.length tD2) (.int (Int32.ofNat 100))) = true := by decide +kernel
set_option maxRecDepth 100000 in
theorem n1_3 : n_1 3793 (.isRef tFM) = true ∧ n_1 2769 (.eq (.static "java/lang/String" "COMPACT_STRINGS" "Z") (.int 1)) = true := by decide +kernel
section EN
variable {args : Array Value} {s : State} {A : Nat → Prop}
theorem en_kind (h0 : n_T.before args s = true) (hA : ∀ a : Nat, a < s.heap.size → ¬ A a) : ∃ ad : Nat → Nat, ∀ i, i < 43 → (tK i).eval args s none [] s = some (.ref (ad i)) ∧ va_O "ClauseDesk$Kind" (ad i) A s s.heap ∧ va_OF "java/lang/Enum" "ordinal" "I" (.int (Int32.ofNat i)) (ad i) A s s.heap := by
  have h : ∀ i : Nat, ∃ t : Nat, i < 43 → (tK i).eval args s none [] s = some (.ref t) ∧ va_O "ClauseDesk$Kind" t A s s.heap ∧ va_OF "java/lang/Enum" "ordinal" "I" (.int (Int32.ofNat i)) t A s s.heap := by
    intro i
    by_cases hi : i < 43
    · have hex := n_use h0 nk_1 i hi
      obtain ⟨a, c, cell, k, q1, -⟩ := Cond.exactly_spec (args := args) (first := s) (o := none) (s := s) (idx := []) (t := tK i) (cls := "ClauseDesk$Kind") hex
      exact ⟨a, fun _ => ⟨q1, va_Oof hex q1 hA, vk_OFof q1 (va_eqt (n_use h0 nk_2 i hi)) hA⟩⟩
    · exact ⟨0, fun z => absurd z hi⟩
  exact Classical.axiomOfChoice h
theorem en_str (h0 : n_T.before args s = true) (hA : ∀ a : Nat, a < s.heap.size → ¬ A a) : ∃ ad av : Nat → Nat, ∀ j, j < 58 → (tS j).eval args s none [] s = some (.ref (ad j)) ∧ va_O "java/lang/String" (ad j) A s s.heap ∧ va_OF "java/lang/String" "value" "[B" (.ref (av j)) (ad j) A s s.heap ∧ va_OF "java/lang/String" "coder" "B" (.int 0) (ad j) A s s.heap ∧
    va_T .byte (av j) (c_sl j) (fun i => .int ((c_sb.getD j []).getD i 0)) A s s.heap := by
  have h : ∀ j : Nat, ∃ q : Nat × Nat, j < 58 → (tS j).eval args s none [] s = some (.ref q.1) ∧ va_O "java/lang/String" q.1 A s s.heap ∧ va_OF "java/lang/String" "value" "[B" (.ref q.2) q.1 A s s.heap ∧ va_OF "java/lang/String" "coder" "B" (.int 0) q.1 A s s.heap ∧
    va_T .byte q.2 (c_sl j) (fun i => .int ((c_sb.getD j []).getD i 0)) A s s.heap := by
    intro j
    by_cases hj : j < 58
    · have hex := n_use h0 ns_1 j hj
      obtain ⟨a, c, cell, k, q1, -⟩ := Cond.exactly_spec (args := args) (first := s) (o := none) (s := s) (idx := []) (t := tS j) (cls := "java/lang/String") hex
      have h5 := List.all_eq_true.mp ns_5 j (List.mem_range.mpr hj)
      rw [Bool.and_eq_true] at h5
      obtain ⟨h6, h7⟩ := h5
      have h6 := Nat.le_of_ble_eq_true h6
      obtain ⟨t, ht, hT⟩ := va_Tof (f := fun i => .int ((c_sb.getD j []).getD i 0)) (A := A) (by omega) (n_use h0 ns_3 j hj) (va_eqt (n_use h0 ns_4 j hj)) (fun i hi => va_eqt (n_use h0 h7 i hi)) hA
      exact ⟨(a, t), fun _ => ⟨q1, va_Oof hex q1 hA, vk_OFof q1 ht hA, vk_OFof q1 (va_eqt (n_use h0 ns_2 j hj)) hA, hT⟩⟩
    · exact ⟨(0, 0), fun z => absurd z hj⟩
  obtain ⟨f, hf⟩ := Classical.axiomOfChoice h
  exact ⟨fun j => (f j).1, fun j => (f j).2, hf⟩
theorem en_kt (h0 : n_T.before args s = true) (hA : ∀ a : Nat, a < s.heap.size → ¬ A a) {ak as : Nat → Nat} (hk : ∀ i, i < 43 → (tK i).eval args s none [] s = some (.ref (ak i))) (hs : ∀ j, j < 58 → (tS j).eval args s none [] s = some (.ref (as j))) : ∀ i, i < 43 → c_kt.getD i 0 < 58 ∧ va_OF "ClauseDesk$Kind" "text" "Ljava/lang/String;" (.ref (as (c_kt.getD i 0))) (ak i) A s s.heap := by
  intro i hi
  have h4 := List.all_eq_true.mp nk_4 i (List.mem_range.mpr hi)
  rw [Bool.and_eq_true, Bool.or_eq_true] at h4
  obtain ⟨h5, h6⟩ := h4
  have h5 : c_kt.getD i 0 < 58 := Nat.le_of_ble_eq_true h5
  refine ⟨h5, vk_OFof (hk i hi) (va_eqv (n_use h0 nk_3 i hi) ?_) hA⟩
  rcases h6 with h | h
  · rw [← of_decide_eq_true h]; exact hs _ h5
  · exact va_eqR (n_in h0 h) (hs _ h5)
theorem en_rows (h0 : n_T.before args s = true) (hA : ∀ a : Nat, a < s.heap.size → ¬ A a) {ak : Nat → Nat} (hk : ∀ i, i < 43 → (tK i).eval args s none [] s = some (.ref (ak i))) :
    (∃ t, tKS.eval args s none [] s = some (.ref t) ∧ va_T (.object "ClauseDesk$Kind") t 43 (fun j => .ref (ak j)) A s s.heap) ∧ (∃ t, tSW.eval args s none [] s = some (.ref t) ∧ va_T .int t 43 (fun j => .int (c_sw.getD j 0)) A s s.heap) ∧
    (∃ t, tD1.eval args s none [] s = some (.ref t) ∧ va_T .byte t 100 (fun j => .int (c_d1.getD j 0)) A s s.heap) ∧ (∃ t, tD2.eval args s none [] s = some (.ref t) ∧ va_T .byte t 100 (fun j => .int (c_d2.getD j 0)) A s s.heap) :=
  ⟨va_Tof (f := fun j => .ref (ak j)) (by decide) (n_in h0 n1_1.1) (va_eqt (n_in h0 n1_1.2.1)) (fun i hi => va_eqv (n_use h0 nk_5 i hi) (hk i hi)) hA,
   va_Tof (f := fun j => .int (c_sw.getD j 0)) (by decide) (n_in h0 n1_1.2.2.1) (va_eqt (n_in h0 n1_1.2.2.2)) (fun i hi => va_eqt (n_use h0 nw_1 i hi)) hA,
   va_Tof (f := fun j => .int (c_d1.getD j 0)) (by decide) (n_in h0 n1_2.1) (va_eqt (n_in h0 n1_2.2.1)) (fun i hi => va_eqt (n_use h0 nd_1 i hi)) hA,
   va_Tof (f := fun j => .int (c_d2.getD j 0)) (by decide) (n_in h0 n1_2.2.2.1) (va_eqt (n_in h0 n1_2.2.2.2)) (fun i hi => va_eqt (n_use h0 nd_2 i hi)) hA⟩
end EN
end
section
/-! The start: the constants' picture; what is true of every state, out of the start. -/
def c_ad (sz b ks sw d1 d2 : Nat) (ak as av : Nat → Nat) (a : Nat) : Nat :=
  bif Nat.ble 1000 a then sz + (a - 1000) else bif Nat.ble 200 a then av (a - 200) else bif Nat.ble 100 a then as (a - 100) else
  bif Nat.beq a 44 then ks else bif Nat.beq a 45 then sw else bif Nat.beq a 60 then b else bif Nat.beq a 61 then d1 else bif Nat.beq a 62 then d2 else ak (a - 1)
def c_kd (a : Nat) : Nat := bif Nat.ble 200 a then (bif Nat.blt a 258 then a - 70 else 0) else bif Nat.ble 100 a then (bif Nat.blt a 158 then 14 else 0) else
  bif Nat.beq a 44 then 311 else bif Nat.beq a 45 then 101 else bif Nat.beq a 60 then 102 else bif Nat.beq a 61 then 122 else bif Nat.beq a 62 then 121 else bif Nat.beq a 0 then 0 else bif Nat.ble a 43 then 16 else 0
def c_ln (L a : Nat) : Nat := bif Nat.ble 200 a then c_sl (a - 200) else bif Nat.beq a 44 then 43 else bif Nat.beq a 45 then 43 else bif Nat.beq a 60 then L else bif Nat.beq a 61 then 100 else bif Nat.beq a 62 then 100 else 0
def c_im (xs : Nat → Int32) (a j : Nat) : Int32 := bif Nat.ble 200 a then (c_sb.getD (a - 200) []).getD j 0 else bif Nat.ble 100 a then 0 else
  bif Nat.beq a 45 then c_sw.getD j 0 else bif Nat.beq a 60 then xs j else bif Nat.beq a 61 then c_d1.getD j 0 else bif Nat.beq a 62 then c_d2.getD j 0 else Int32.ofNat (a - 1)
def c_rm (a j : Nat) : Nat := bif Nat.ble 100 a then a + 100 else bif Nat.beq a 44 then j + 1 else 100 + c_kt.getD (a - 1) 0
/-- the picture of the start -/
def c_w (L : Nat) (xs : Nat → Int32) : PH := (1000, 0, c_kd, c_ln L, c_im xs, c_rm)
def c_op (ad : Nat → Nat) (fm : Option Nat) (x : Nat) : Option Nat := bif Nat.beq x 0 then none else bif Nat.beq x 70 then fm else some (ad x)
def c_cs (a : Nat) : Bool := Nat.beq (c_kd a) 0 || (Nat.ble 1 a && Nat.ble a 43 && Nat.beq (c_kd a) 16) || Nat.beq a 44 || Nat.beq a 45 || Nat.beq a 60 || Nat.beq a 61 || Nat.beq a 62 || (Nat.ble 100 a && Nat.blt a 158 && Nat.beq (c_kd a) 14) || (Nat.ble 200 a && Nat.blt a 258 && Nat.beq (c_kd a) (a - 70))
set_option maxRecDepth 100000 in
theorem c_cs_all : (List.range 258).all c_cs = true := by decide +kernel
theorem ble_of {a b : Nat} (h : a ≤ b) : Nat.ble a b = true := Nat.ble_eq_true_of_le h
theorem ble_no {a b : Nat} (h : ¬ a ≤ b) : Nat.ble a b = false := by
  cases hz : Nat.ble a b
  · rfl
  · exact absurd (Nat.le_of_ble_eq_true hz) h
theorem beq_no {a b : Nat} (h : a ≠ b) : Nat.beq a b = false := by
  cases hz : Nat.beq a b
  · rfl
  · exact absurd (Nat.eq_of_beq_eq_true hz) h
theorem c_cases {a : Nat} (h : c_kd a ≠ 0) : (1 ≤ a ∧ a ≤ 43 ∧ c_kd a = 16) ∨ a = 44 ∨ a = 45 ∨ a = 60 ∨ a = 61 ∨ a = 62 ∨ (∃ j, j < 58 ∧ a = 100 + j ∧ c_kd a = 14) ∨ ∃ j, j < 58 ∧ a = 200 + j ∧ c_kd a = 130 + j := by
  by_cases ha : a < 258
  · have hc := List.all_eq_true.mp c_cs_all a (List.mem_range.mpr ha)
    simp only [c_cs, Bool.or_eq_true, Bool.and_eq_true] at hc
    rcases hc with (((((((hc | hc) | hc) | hc) | hc) | hc) | hc) | hc) | hc
    · exact absurd (Nat.eq_of_beq_eq_true hc) h
    · exact Or.inl ⟨Nat.le_of_ble_eq_true hc.1.1, Nat.le_of_ble_eq_true hc.1.2, Nat.eq_of_beq_eq_true hc.2⟩
    · exact Or.inr (Or.inl (Nat.eq_of_beq_eq_true hc))
    · exact Or.inr (Or.inr (Or.inl (Nat.eq_of_beq_eq_true hc)))
    · exact Or.inr (Or.inr (Or.inr (Or.inl (Nat.eq_of_beq_eq_true hc))))
    · exact Or.inr (Or.inr (Or.inr (Or.inr (Or.inl (Nat.eq_of_beq_eq_true hc)))))
    · exact Or.inr (Or.inr (Or.inr (Or.inr (Or.inr (Or.inl (Nat.eq_of_beq_eq_true hc))))))
    · obtain ⟨⟨h1, h2⟩, h3⟩ := hc
      have h1 := Nat.le_of_ble_eq_true h1
      have h2 : a + 1 ≤ 158 := Nat.le_of_ble_eq_true h2
      exact Or.inr (Or.inr (Or.inr (Or.inr (Or.inr (Or.inr (Or.inl ⟨a - 100, by omega, by omega, Nat.eq_of_beq_eq_true h3⟩))))))
    · obtain ⟨⟨h1, h2⟩, h3⟩ := hc
      have h1 := Nat.le_of_ble_eq_true h1
      have h2 : a + 1 ≤ 258 := Nat.le_of_ble_eq_true h2
      have h3 := Nat.eq_of_beq_eq_true h3
      exact Or.inr (Or.inr (Or.inr (Or.inr (Or.inr (Or.inr (Or.inr ⟨a - 200, by omega, by omega, by omega⟩))))))
  · refine absurd ?_ h
    unfold c_kd
    rw [ble_of (show 200 ≤ a by omega)]
    show (bif Nat.blt a 258 then a - 70 else 0) = 0
    rw [show Nat.blt a 258 = false from ble_no (by omega)]
    rfl
section CAD
variable {sz b ks sw d1 d2 : Nat} {ak as av : Nat → Nat}
theorem c_ad_n {a : Nat} (h : 1000 ≤ a) : c_ad sz b ks sw d1 d2 ak as av a = sz + (a - 1000) := by
  unfold c_ad
  rw [ble_of h]
  rfl
theorem c_ad_v {j : Nat} (h : j < 58) : c_ad sz b ks sw d1 d2 ak as av (200 + j) = av j := by
  unfold c_ad
  rw [ble_no (show ¬ 1000 ≤ 200 + j by omega), ble_of (show 200 ≤ 200 + j by omega), show 200 + j - 200 = j by omega]
  rfl
theorem c_ad_s {j : Nat} (h : j < 58) : c_ad sz b ks sw d1 d2 ak as av (100 + j) = as j := by
  unfold c_ad
  rw [ble_no (show ¬ 1000 ≤ 100 + j by omega), ble_no (show ¬ 200 ≤ 100 + j by omega), ble_of (show 100 ≤ 100 + j by omega), show 100 + j - 100 = j by omega]
  rfl
theorem c_ad_k {a : Nat} (h : a ≤ 43) : c_ad sz b ks sw d1 d2 ak as av a = ak (a - 1) := by
  unfold c_ad
  rw [ble_no (show ¬ 1000 ≤ a by omega), ble_no (show ¬ 200 ≤ a by omega), ble_no (show ¬ 100 ≤ a by omega), beq_no (show a ≠ 44 by omega), beq_no (show a ≠ 45 by omega), beq_no (show a ≠ 60 by omega), beq_no (show a ≠ 61 by omega), beq_no (show a ≠ 62 by omega)]
  rfl
end CAD
theorem c_im_k {xs : Nat → Int32} {a : Nat} (h : a ≤ 43) (j : Nat) : c_im xs a j = Int32.ofNat (a - 1) := by
  unfold c_im
  rw [ble_no (show ¬ 200 ≤ a by omega), ble_no (show ¬ 100 ≤ a by omega), beq_no (show a ≠ 45 by omega), beq_no (show a ≠ 60 by omega), beq_no (show a ≠ 61 by omega), beq_no (show a ≠ 62 by omega)]
  rfl
theorem c_im_s {xs : Nat → Int32} {j : Nat} (h : j < 58) (i : Nat) : c_im xs (100 + j) i = 0 := by
  unfold c_im
  rw [ble_no (show ¬ 200 ≤ 100 + j by omega), ble_of (show 100 ≤ 100 + j by omega)]
  rfl
theorem c_im_v {xs : Nat → Int32} {j : Nat} (i : Nat) : c_im xs (200 + j) i = (c_sb.getD j []).getD i 0 := by
  unfold c_im
  rw [ble_of (show 200 ≤ 200 + j by omega), show 200 + j - 200 = j by omega]
  rfl
theorem c_rm_k {a : Nat} (h : a ≤ 43) (j : Nat) : c_rm a j = 100 + c_kt.getD (a - 1) 0 := by
  unfold c_rm
  rw [ble_no (show ¬ 100 ≤ a by omega), beq_no (show a ≠ 44 by omega)]
  rfl
theorem c_rm_s {j : Nat} (i : Nat) : c_rm (100 + j) i = 200 + j := by
  unfold c_rm
  rw [ble_of (show 100 ≤ 100 + j by omega)]
  show 100 + j + 100 = _
  omega
theorem c_ln_v {L j : Nat} : c_ln L (200 + j) = c_sl j := by
  unfold c_ln
  rw [ble_of (show 200 ≤ 200 + j by omega), show 200 + j - 200 = j by omega]
  rfl
def c_nm (a : Nat) : String × String × String := bif Nat.beq a 45 then ("ClauseDesk$1", "$SwitchMap$ClauseDesk$Kind", "[I") else bif Nat.beq a 61 then ("java/lang/Integer", "DigitOnes", "[B") else bif Nat.beq a 62 then ("java/lang/Integer", "DigitTens", "[B") else
  bif Nat.beq a 70 then ("jdk/internal/util/Preconditions", "SIOOBE_FORMATTER", "Ljava/util/function/BiFunction;") else ("ClauseDesk$Kind", c_kn.getD (a - 1) "", "LClauseDesk$Kind;")
def q_in (a : Nat) : Nat := bif Nat.beq a 45 then 101 else bif Nat.beq a 61 then 92 else bif Nat.beq a 62 then 92 else bif Nat.beq a 70 then 89 else 100
def q_ls : List Nat := [0, 1089, 1113, 1119, 1202, 822, 800, 824, 788, 834, 790, 1233, 658, 656, 1249, 1251, 1194, 1196, 730, 0, 0, 1216, 1218, 1171, 1165, 1142, 1144, 1103, 1173, 1179, 1181, 1175, 1177, 1186, 1188, 1100, 1190, 1192, 726, 720, 1069, 1053, 650, 728, 0, 668, 0, 0, 0, 0, 0, 0, 0, 0, 0, 0, 0, 0, 0, 0, 0, 1634, 1636, 0, 0, 0, 0, 0, 0, 0, 954]
def q_sr : List Nat := [1454, 1555, 1619, 1645, 1680, 1681, 1682, 1683, 1684, 1688, 1689, 1693, 1694, 1695, 1696, 1697, 1698, 1699, 1700, 1701, 1702, 1703, 1704, 1705]
def lgs_chk (q : Nat × Nat × Nat × (String × String × String) × Nat) : Bool := decide (q.2.2.2.1 = c_nm q.2.2.1) && w_1 (q_ls.getD q.2.2.1 0) (.laysStatic q.2.2.2.1.1 q.2.2.2.1.2.1 q.2.2.2.1.2.2) && w_1 (q_in q.2.2.1) (.initialized q.2.2.2.1.1) && (Nat.beq q.2.2.1 45 || Nat.beq q.2.2.1 61 || Nat.beq q.2.2.1 62 || Nat.beq q.2.2.1 70 || (Nat.ble 1 q.2.2.1 && Nat.ble q.2.2.1 43))
set_option maxRecDepth 100000 in
theorem lgs_all : z_lg.all lgs_chk = true := by decide +kernel
def lss_chk (q : Nat × Nat × Nat × String) : Bool := w_1 (q_sr.getD (q.2.2.1 - 100) 0) (.stringRef (z_cn q.1) q.2.1 q.2.2.2) && decide (tS (q.2.2.1 - 100) = .string (z_cn q.1) q.2.1) && Nat.ble 100 q.2.2.1 && Nat.blt q.2.2.1 124
set_option maxRecDepth 100000 in
theorem lss_all : z_ls.all lss_chk = true := by decide +kernel
set_option maxRecDepth 100000 in
theorem c_lays : w_1 938 (.laysStatic "java/lang/String" "COMPACT_STRINGS" "Z") = true ∧ w_1 1060 (.laysStatic "ClauseDesk" "KINDS" "[LClauseDesk$Kind;") = true ∧ w_1 69 (.initialized "ClauseDesk") = true ∧ w_1 82 (.initialized "java/lang/String") = true := by decide +kernel
set_option maxRecDepth 100000 in
theorem c_ofN : (List.range 43).all (fun i => (List.range 43).all (fun j => decide (Int32.ofNat i = Int32.ofNat j → i = j))) = true := by decide +kernel
theorem c_apart {s : State} {A : Nat → Prop} {ak : Nat → Nat} (h : ∀ i, i < 43 → va_OF "java/lang/Enum" "ordinal" "I" (.int (Int32.ofNat i)) (ak i) A s s.heap) {i j : Nat} (hi : i < 43) (hj : j < 43) (e : ak i = ak j) : i = j := by
  obtain ⟨cf, k, n, f, cell, h1, -, h3, -, h5, -⟩ := h i hi
  obtain ⟨cf', k', n', f', cell', h1', -, h3', -, h5', -⟩ := h j hj
  rw [h1] at h1'
  cases h1'
  rw [e, h3'] at h3
  cases h3
  rw [h5] at h5'
  injection h5' with h6
  injection h6 with h7
  have h8 := List.all_eq_true.mp (List.all_eq_true.mp c_ofN i (List.mem_range.mpr hi)) j (List.mem_range.mpr hj)
  exact of_decide_eq_true h8 h7
set_option maxRecDepth 100000 in
theorem c_bytes : (c_sb.all (fun l => l.all (fun x => fits .byte (.int x)))) = true ∧ (c_d1.all (fun x => fits .byte (.int x))) = true ∧ (c_d2.all (fun x => fits .byte (.int x))) = true ∧ c_d1.length = 100 ∧ c_d2.length = 100 := by decide +kernel
end
section
/-! The start: the world. -/
theorem c_16 {a : Nat} (h : c_kd a = 16) : 1 ≤ a ∧ a ≤ 43 := by
  rcases c_cases (a := a) (by omega) with ⟨h1, h2, -⟩ | rfl | rfl | rfl | rfl | rfl | ⟨j, -, -, h1⟩ | ⟨j, -, -, h1⟩
  · exact ⟨h1, h2⟩
  · exact absurd h (by decide)
  · exact absurd h (by decide)
  · exact absurd h (by decide)
  · exact absurd h (by decide)
  · exact absurd h (by decide)
  · omega
  · omega
theorem c_14 {a : Nat} (h : c_kd a = 14) : ∃ j, j < 58 ∧ a = 100 + j := by
  rcases c_cases (a := a) (by omega) with ⟨-, -, h1⟩ | rfl | rfl | rfl | rfl | rfl | ⟨j, h1, h2, -⟩ | ⟨j, -, -, h1⟩
  · omega
  · exact absurd h (by decide)
  · exact absurd h (by decide)
  · exact absurd h (by decide)
  · exact absurd h (by decide)
  · exact absurd h (by decide)
  · exact ⟨j, h1, h2⟩
  · omega
theorem c_hi {a : Nat} (h : 1000 ≤ a) : c_kd a = 0 := by
  unfold c_kd
  rw [ble_of (show 200 ≤ a by omega)]
  show (bif Nat.blt a 258 then a - 70 else 0) = 0
  rw [show Nat.blt a 258 = false from ble_no (by omega)]
  rfl
theorem c_nm_k {a : Nat} (h : a ≤ 43) : c_nm a = ("ClauseDesk$Kind", c_kn.getD (a - 1) "", "LClauseDesk$Kind;") := by
  unfold c_nm
  rw [beq_no (show a ≠ 45 by omega), beq_no (show a ≠ 61 by omega), beq_no (show a ≠ 62 by omega), beq_no (show a ≠ 70 by omega)]
  rfl
theorem va_T_to {ty : FieldType} {t N : Nat} {f g : Nat → Value} {A : Nat → Prop} {U : State} {H : Heap} (h : va_T ty t N f A U H) (e : ∀ j, j < N → f j = g j) : va_T ty t N g A U H := by
  obtain ⟨cell, h1, h2, h3, h4, h5, h6, h7⟩ := h
  exact ⟨cell, h1, h2, h3, h4, h5, fun j hj => by rw [h6 j hj, e j hj], h7⟩
theorem all_getD {α : Type} {l : List α} {p : α → Bool} (h : l.all p = true) {j : Nat} (hj : j < l.length) (d : α) : p (l.getD j d) = true := by
  have e : l.getD j d = l[j] := by simp [List.getD, hj]
  rw [e]
  exact List.all_eq_true.mp h _ (List.getElem_mem hj)
set_option maxRecDepth 100000 in
theorem zc_b : ∀ j, j < 58 → z_cty (130 + j) = .byte ∧ p_kR (130 + j) = false ∧ k_new (130 + j) = false := by decide +kernel
/-- the world of the start -/
def c_G (sz : Nat) (D : va_G) (AA : Nat → ClassId) (ad : Nat → Nat) (fm : Option Nat) (L : Nat) (xs : Nat → Int32) : GG := (sz, ad, c_op ad fm, D, AA, c_w L xs)
theorem c_rv {ad : Nat → Nat} {fm : Option Nat} (x : Nat) (h1 : x ≠ 0) (h2 : x ≠ 70) : va_rf (c_op ad fm x) = .ref (ad x) := by
  unfold c_op
  rw [beq_no h1, beq_no h2]
  rfl
set_option maxRecDepth 100000 in
theorem en_all {args : Array Value} {s : State} (h0 : n_T.before args s = true) (hall : ∀ w ∈ w_all, w.before args s = true) (hts : ∀ w ∈ w_g, w.before args s = true) {b L : Nat} {xs : Nat → Int32} (hX : va_X b L xs s s.heap) (hb : b < s.heap.size) :
    ∃ G : GG, GOK G ∧ EnvG G s ∧ Rep G (c_w L xs) s.heap ∧ g_ad G 60 = b ∧ g_sz G = s.heap.size := by
  have hA : ∀ a : Nat, a < s.heap.size → ¬ (fun q => s.heap.size ≤ q) a := fun a h1 h2 => absurd h1 (Nat.not_lt.mpr h2)
  obtain ⟨D, hD⟩ := en_cls hts
  obtain ⟨AA, hAA⟩ := en_arr hall
  obtain ⟨ak, hk⟩ := en_kind (A := fun q => s.heap.size ≤ q) h0 hA
  obtain ⟨as, av, hs⟩ := en_str (A := fun q => s.heap.size ≤ q) h0 hA
  have hkt := en_kt h0 hA (fun i hi => (hk i hi).1) (fun j hj => (hs j hj).1)
  obtain ⟨⟨ks, ks1, ks2⟩, ⟨sw, sw1, sw2⟩, ⟨d1, d11, d12⟩, d2, d21, d22⟩ := en_rows h0 hA (fun i hi => (hk i hi).1)
  obtain ⟨fm, hfm⟩ : ∃ fm : Option Nat, tFM.eval args s none [] s = some (va_rf fm) := by
    have hr := n_in h0 n1_3.1
    cases hv : tFM.eval args s none [] s with
    | none => simp [Cond.before, Cond.holds, Cond.value, hv] at hr
    | some w =>
      cases w with
      | null => exact ⟨none, rfl⟩
      | ref a => exact ⟨some a, rfl⟩
      | _ => simp [Cond.before, Cond.holds, Cond.value, hv, Value.isRef] at hr
  obtain ⟨ad, had⟩ : ∃ ad : Nat → Nat, ad = c_ad s.heap.size b ks sw d1 d2 ak as av := ⟨_, rfl⟩
  have a_n : ∀ a, 1000 ≤ a → ad a = s.heap.size + (a - 1000) := fun a h => by rw [had]; exact c_ad_n h
  have a_v : ∀ j, j < 58 → ad (200 + j) = av j := fun j h => by rw [had]; exact c_ad_v h
  have a_s : ∀ j, j < 58 → ad (100 + j) = as j := fun j h => by rw [had]; exact c_ad_s h
  have a_k : ∀ a, a ≤ 43 → ad a = ak (a - 1) := fun a h => by rw [had]; exact c_ad_k h
  have a44 : ad 44 = ks := by rw [had]; rfl
  have a45 : ad 45 = sw := by rw [had]; rfl
  have a60 : ad 60 = b := by rw [had]; rfl
  have a61 : ad 61 = d1 := by rw [had]; rfl
  have a62 : ad 62 = d2 := by rw [had]; rfl
  clear had
  refine ⟨c_G s.heap.size D AA ad fm L xs, ?_, ?_, ?_, a60, rfl⟩
  · refine ⟨rfl, fun x h1 h2 => ?_, fun a ha => ?_, rfl, rfl, fun a1 b1 ha hb h1 h2 h3 => ?_⟩
    · show c_op ad fm x = some (ad x)
      unfold c_op
      rw [beq_no h1, beq_no h2]
      rfl
    · show ad a + 1000 = s.heap.size + a
      rw [a_n a ha]
      omega
    · obtain ⟨g1, g2⟩ := c_16 h1
      obtain ⟨g3, g4⟩ := c_16 h2
      have h3 : ad a1 = ad b1 := h3
      rw [a_k _ g2, a_k _ g4] at h3
      have := c_apart (fun i hi => (hk i hi).2.2) (by omega) (by omega) h3
      omega
  · refine ⟨hD, hAA, en_nw hall, en_lm hall, en_la hall, fun q hq => ?_, fun q hq => ?_, fun q hq => ?_, fun q hq => ?_, fun a ha h => ?_, fun a ha h => ?_, fun a ha h => ?_, Nat.le_refl _, fun a ha h => ?_⟩
    · have h := List.all_eq_true.mp lgs_all q hq
      simp only [lgs_chk, Bool.and_eq_true, Bool.or_eq_true, decide_eq_true_eq] at h
      obtain ⟨⟨⟨h1, h2⟩, h3⟩, h4⟩ := h
      have hv : (Term.static q.2.2.2.1.1 q.2.2.2.1.2.1 q.2.2.2.1.2.2).eval args s none [] s = some (va_rf (c_op ad fm q.2.2.1)) := by
        rw [h1]
        rcases h4 with (((h | h) | h) | h) | h
        · rw [Nat.eq_of_beq_eq_true h, c_rv 45 (by decide) (by decide), a45]; exact sw1
        · rw [Nat.eq_of_beq_eq_true h, c_rv 61 (by decide) (by decide), a61]; exact d11
        · rw [Nat.eq_of_beq_eq_true h, c_rv 62 (by decide) (by decide), a62]; exact d21
        · rw [Nat.eq_of_beq_eq_true h]; exact hfm
        · have g1 := Nat.le_of_ble_eq_true h.1
          have g2 := Nat.le_of_ble_eq_true h.2
          rw [c_rv _ (by omega) (by omega), a_k _ g2, c_nm_k g2]
          exact (hk _ (by omega)).1
      exact va_Zof (w_1in hall h2) (w_1in hall h3) hv hA
    · simp only [z_lgi, List.mem_cons, List.not_mem_nil, or_false] at hq
      rcases hq with rfl | rfl
      · show va_Z "java/lang/String" "COMPACT_STRINGS" "Z" (.int (Int32.ofInt 1)) _ s s.heap
        rw [show Int32.ofInt 1 = 1 from by decide]
        exact va_Zof (w_1in hall c_lays.1) (w_1in hall c_lays.2.2.2) (va_eqt (n_in h0 n1_3.2)) hA
      · show va_Z "java/lang/String" "COMPACT_STRINGS" "Z" (.int (Int32.ofInt 1)) _ s s.heap
        rw [show Int32.ofInt 1 = 1 from by decide]
        exact va_Zof (w_1in hall c_lays.1) (w_1in hall c_lays.2.2.2) (va_eqt (n_in h0 n1_3.2)) hA
    · simp only [z_lgn, List.mem_cons, List.not_mem_nil, or_false] at hq
      subst hq
      show va_Z "ClauseDesk" "KINDS" "[LClauseDesk$Kind;" (va_rf (c_op ad fm 44)) _ s s.heap
      rw [c_rv 44 (by decide) (by decide), a44]
      exact va_Zof (w_1in hall c_lays.2.1) (w_1in hall c_lays.2.2.1) ks1 hA
    · have h := List.all_eq_true.mp lss_all q hq
      simp only [lss_chk, Bool.and_eq_true, decide_eq_true_eq] at h
      obtain ⟨⟨⟨h1, h2⟩, h3⟩, h4⟩ := h
      have h3 := Nat.le_of_ble_eq_true h3
      have h4 : q.2.2.1 + 1 ≤ 124 := Nat.le_of_ble_eq_true h4
      obtain ⟨j, hj⟩ : ∃ j, q.2.2.1 = 100 + j := ⟨q.2.2.1 - 100, by omega⟩
      rw [hj, show 100 + j - 100 = j by omega] at h2
      show vk_R _ _ _ (ad q.2.2.1) s
      rw [hj, a_s j (by omega)]
      exact vk_R.of (w_1in hall h1) (by rw [← h2]; exact (hs j (by omega)).1)
    · have h : c_kd a = 14 ∨ c_kd a = 16 := h
      show va_O (z_kn (c_kd a)) (ad a) _ s s.heap ∧ ∀ j, j < z_nf (c_kd a) → va_OF (z_T (c_kd a) j).1 (z_T (c_kd a) j).2.1 (z_T (c_kd a) j).2.2.1 (g_v (c_G s.heap.size D AA ad fm L xs) (f_get (z_ft (100 * c_kd a + j)) (c_w L xs) a j)) (ad a) _ s s.heap
      rcases h with h | h <;> rw [h]
      · obtain ⟨j0, hj0, rfl⟩ := c_14 h
        rw [a_s j0 hj0]
        refine ⟨(hs j0 hj0).2.1, fun j hj => ?_⟩
        have hj : j < 2 := hj
        obtain rfl | rfl : j = 0 ∨ j = 1 := by omega
        · have e : g_v (c_G s.heap.size D AA ad fm L xs) (f_get (z_ft (100 * 14 + 0)) (c_w L xs) (100 + j0) 0) = .ref (av j0) := by
            show va_rf (c_op ad fm (c_rm (100 + j0) 0)) = _
            rw [c_rm_s, c_rv _ (by omega) (by omega), a_v j0 hj0]
          rw [e]
          exact (hs j0 hj0).2.2.1
        · have e : g_v (c_G s.heap.size D AA ad fm L xs) (f_get (z_ft (100 * 14 + 1)) (c_w L xs) (100 + j0) 1) = .int 0 := by
            show Value.int (c_im xs (100 + j0) 1) = _
            rw [c_im_s hj0]
          rw [e]
          exact (hs j0 hj0).2.2.2.1
      · obtain ⟨g1, g2⟩ := c_16 h
        rw [a_k a g2]
        refine ⟨(hk (a - 1) (by omega)).2.1, fun j hj => ?_⟩
        have hj : j < 2 := hj
        obtain rfl | rfl : j = 0 ∨ j = 1 := by omega
        · have e : g_v (c_G s.heap.size D AA ad fm L xs) (f_get (z_ft (100 * 16 + 0)) (c_w L xs) a 0) = .int (Int32.ofNat (a - 1)) := by
            show Value.int (c_im xs a 0) = _
            rw [c_im_k g2]
          rw [e]
          exact (hk (a - 1) (by omega)).2.2
        · obtain ⟨g3, g4⟩ := hkt (a - 1) (by omega)
          have e : g_v (c_G s.heap.size D AA ad fm L xs) (f_get (z_ft (100 * 16 + 1)) (c_w L xs) a 1) = .ref (as (c_kt.getD (a - 1) 0)) := by
            show va_rf (c_op ad fm (c_rm a 1)) = _
            rw [c_rm_k g2, c_rv _ (by omega) (by omega), a_s _ g3]
          rw [e]
          exact g4
    · have h : c_kd a ≠ 0 := h
      show c_kd a = 14 ∨ c_kd a = 16 ∨ 100 ≤ c_kd a
      rcases c_cases h with ⟨-, -, g⟩ | rfl | rfl | rfl | rfl | rfl | ⟨j, -, -, g⟩ | ⟨j, -, -, g⟩
      · omega
      · exact Or.inr (Or.inr (by decide))
      · exact Or.inr (Or.inr (by decide))
      · exact Or.inr (Or.inr (by decide))
      · exact Or.inr (Or.inr (by decide))
      · exact Or.inr (Or.inr (by decide))
      · omega
      · omega
    · have h : 100 ≤ c_kd a := h
      rcases c_cases (a := a) (by omega) with ⟨-, -, g⟩ | rfl | rfl | rfl | rfl | rfl | ⟨j, -, -, g⟩ | ⟨j, hj, rfl, g⟩
      · omega
      · show va_T (.object "ClauseDesk$Kind") (ad 44) 43 (fun j => va_rf (c_op ad fm (j + 1))) _ s s.heap
        rw [a44]
        exact va_T_to ks2 (fun j hj => by rw [c_rv _ (by omega) (by omega), a_k _ (by omega)]; rfl)
      · show va_T .int (ad 45) 43 (fun j => .int (c_sw.getD j 0)) _ s s.heap
        rw [a45]
        exact sw2
      · show va_T .int (ad 60) L (fun j => .int (xs j)) _ s s.heap
        rw [a60]
        obtain ⟨scr, x1, x2, x3, x4, x5⟩ := hX
        exact ⟨scr, x1, x2, x3, by omega, by rw [x4], x5, hA b hb⟩
      · show va_T .byte (ad 61) 100 (fun j => .int (c_d1.getD j 0)) _ s s.heap
        rw [a61]
        exact d12
      · show va_T .byte (ad 62) 100 (fun j => .int (c_d2.getD j 0)) _ s s.heap
        rw [a62]
        exact d22
      · omega
      · obtain ⟨z1, z2, -⟩ := zc_b j hj
        show va_T (z_cty (c_kd (200 + j))) (ad (200 + j)) (c_ln L (200 + j)) (g_e (c_G s.heap.size D AA ad fm L xs) (c_w L xs) (200 + j)) _ s s.heap
        rw [g, z1, a_v j hj, c_ln_v]
        refine va_T_to (hs j hj).2.2.2.2 (fun i hi => ?_)
        show _ = (match p_kR (c_kd (200 + j)) with | true => _ | false => Value.int (c_im xs (200 + j) i))
        rw [g, z2, c_im_v]
    · have h : 100 ≤ c_kd a := h
      show k_new (c_kd a) = false
      rcases c_cases (a := a) (by omega) with ⟨-, -, g⟩ | rfl | rfl | rfl | rfl | rfl | ⟨j, -, -, g⟩ | ⟨j, hj, rfl, g⟩
      · omega
      · decide
      · decide
      · decide
      · decide
      · decide
      · omega
      · rw [g]; exact (zc_b j hj).2.2
  · refine ⟨rfl, Nat.le_refl _, fun a ha => c_hi ha, fun a h1 h2 => absurd h2 (by show ¬ a < 1000; omega), fun a j h1 h2 => ?_, fun a ha => ⟨rfl, rfl, fun _ => rfl, fun _ => rfl⟩, fun a h1 h2 => absurd (c_hi h1) h2⟩
    have h1 : p_kB (c_kd a) = true := h1
    have h2 : j < c_ln L a := h2
    show fits .byte (.int (c_im xs a j)) = true
    have hn : c_kd a ≠ 0 := fun e => by rw [e] at h1; cases h1
    rcases c_cases hn with ⟨-, -, g⟩ | rfl | rfl | rfl | rfl | rfl | ⟨j0, -, -, g⟩ | ⟨j0, hj, rfl, g⟩
    · rw [g] at h1; cases h1
    · cases h1
    · cases h1
    · cases h1
    · have z := all_getD (j := j) c_bytes.2.1 (by rw [c_bytes.2.2.2.1]; exact h2) 0
      exact z
    · have z := all_getD (j := j) c_bytes.2.2.1 (by rw [c_bytes.2.2.2.2]; exact h2) 0
      exact z
    · rw [g] at h1; cases h1
    · rw [c_im_v]
      rw [c_ln_v] at h2
      have z0 := all_getD c_bytes.1 (j := j0) (by rw [show c_sb.length = 58 from by decide]; exact hj) []
      have z := all_getD z0 (j := j) h2 0
      exact z
end
section
/-! THE CLAIM OUT OF ONE WALK OF THE LAW'S BODY. Your part is whole_start (and what it stands on); all else here is the same for every law, but numbers. -/
def R_law : String := "ClauseDeskLaw"
def lw_P (b : Addr) (xs : List Int32) (args : Array Value) (s : State) : Prop := args = #[.ref b] ∧ s.IntsAt b xs ∧ xs.length ≤ 260 ∧ (Jvm.Cond.and given_1 narrow_1).before args s = true
/-- what a walk over the start with the record d0 says of its end, said of the start itself -/
theorem lw_closed {s t : State} {o : Outcome} {d0 : Drawn} {L : List Loc} {k n : Nat} (hd0 : s.drawn.sameBut d0 lw_cs) (hv : ∃ v, o = .returned v) (hW : (s.setDrawn d0).WarmedH t.vm) (hs : (s.setDrawn d0).sameButNew ({ t with vm := s.vm } : State) L k n) : State.butDraws s t lw_cs (fun t1 => Framed s o t1 L k n) := by
  have h2 : t.drawn = d0 := congrArg State.drawn hs.1
  refine ⟨⟨hv, hW, State.sameButNew.setDrawn hs s.drawn⟩, ?_, by decide⟩
  rw [h2]
  exact hd0
def lw_Q (_ : Array Value) (s : State) (o : Outcome) (t : State) : Prop := o = .returned (some (.int 1)) ∧ State.butDraws s t lw_cs (fun t1 => Framed s o t1 [] 600086 7301442)
def lw_Z (below : List Frame) (a : Array Value) (s : State) : State → Prop := fun t => ∃ o, t.status = .running ∧ Ended t below o ∧ lw_Q a s o t
/-- the law's own end, with 1 on the stack, nothing written that was there before, its room as the claim has it; d0: the record of draws at this point (at the entry s.drawn: begin with 'refine W.base ?_' and 'have hd0 := Drawn.sameBut.refl s.drawn lw_cs') -/
theorem lw_ret {p : Program} {l : Launch} {e : Env} {s : State} {m : MethodId} {below : List Frame} {meth : Method} {c : Code} {b : Nat} {d0 : Drawn} (hd0 : s.drawn.sameBut d0 lw_cs) (hx : p.tables.exec = Jvm.exec) (hb : c.code = code) (hr : meth.sig.returnType = ret) (hlocks : meth.locks = false) {pc : Nat} {H : Heap} {ls : Array Slot} (hdg : decode code pc = .ok (.ireturn, 1)) : W p l e room_1 (s.setDrawn d0) m #[Value.ref b] below meth c H [] 600086 7301442 (lw_Z below #[Value.ref b] s) (F0 m pc ls [.int 1]) := by
  intro T hT X
  obtain ⟨fs, hret, hrun, hended, hW, hframe⟩ := X.leave (v := some (.int 1)) (hlocks := hlocks) (fun h => by rw [hr] at h; cases h)
  have hmeth' : T.vm.method? m = some meth := X.method'
  refine ⟨T.setFrames fs, ?_, .returned (some (.int 1)), hrun, hended, rfl, lw_closed hd0 ⟨_, rfl⟩ hW hframe⟩
  jvm_step X.here [X.here.top, hx, hb, hdg, hmeth', hr, ret, narrow_b1]
  (try refine ⟨rfl, ?_⟩); (try refine ⟨rfl, ?_⟩)
  first | (intro acts; rw [hret _ acts rfl rfl rfl]) | rw [hret _ _ rfl rfl rfl]
  exact Steps.refl _
/-- what holds at the law's entry: the machine, the code, the tables' words (any of lw_tbl by 'hts w (by decide +kernel)'), the script of L ints xs at the cell b, what the Statement gives of the start (any of its parts by flat_of_before) -/
def lw_At (p : Program) (s : State) (m : MethodId) (meth : Method) (c : Code) (b L : Nat) (xs : Nat → Int32) : Prop :=
  p.tables.exec = Jvm.exec ∧ c.code = code ∧ meth.sig.returnType = ret ∧ c.maxLocals = 25 ∧ s.vm.findClass R_law = some m.cls ∧ (∀ w ∈ lw_tbl, w.before #[Value.ref b] s = true) ∧ va_X b L xs s s.heap ∧ b < s.heap.size ∧ meth.locks = false ∧ (Jvm.Cond.and given_1 narrow_1).before #[Value.ref b] s = true
end
section
/-- the law's run out of a run of the picture -/
theorem start_of_wp {p : Program} {e : Env} {s : State} {m : MethodId} {below : List Frame} {meth : Method} {c : Code} (l : Launch) {b L : Nat} {xs : Nat → Int32} (C0 : lw_At p s m meth c b L xs)
    (K : wp 1000 189 0 (l_ent 25 [.ref 60]) [] (c_w L xs) (fun v h => v = some (.int 1) ∧ p_nx h ≤ p_CN ∧ p_us h ≤ p_CS)) :
    W p l e room_1 s m #[Value.ref b] below meth c s.heap [] 0 0 (lw_Z below #[Value.ref b] s) (entryFrame m ([Value.ref b] : List Value).toArray 25) := by
  obtain ⟨hx, hb, hret, hml, hown, htbl, hX, hbl, hlocks, hg⟩ := C0
  have hall := w_hts htbl
  have hts : ∀ w ∈ w_g, w.before #[Value.ref b] s = true := fun w hw => hall w (List.mem_filter.mp hw).1
  obtain ⟨G, hG, E, hR, h60, hsz⟩ := en_all hg hall hts hX hbl
  obtain ⟨v, h2, ⟨rfl, hn, hu⟩, n2, u2, M⟩ := wp_MR (l := l) hG K (by decide)
  have e60 : ([Value.ref 60] : List Value).map (g_v G) = [Value.ref b] := by
    show [g_rv G 60] = _
    rw [g_rvr hG (by decide) (by decide), h60]
  have hl := LOC.ent (G := G) (a := [Value.ref 60]) (n := 25) (by decide) (by intro v hv; cases List.mem_singleton.mp hv; rfl)
  rw [e60] at hl
  rw [lg_entry_eq]
  refine W.base ?_
  have hd0 := Drawn.sameBut.refl s.drawn lw_cs
  have hcb : z_b 189 = code := rfl
  have hn1 : p_nx (c_w L xs) = 1000 := rfl
  have hu1 : p_us (c_w L xs) = 0 := rfl
  have hN : p_CN = 601086 := rfl
  have hS0 : p_CS = 7301442 := rfl
  have K1 := M p e room_1 s m #[Value.ref b] below meth c s.heap [] _ (c_w L xs) (lw_Z below #[Value.ref b] s)
    ⟨hx, hb.trans hcb.symm, hlocks, hml, hown, hts, E, (fun z => absurd z (by decide)), (by decide), (by decide), (by decide)⟩ hR va_S.rf hl (Nat.le_refl _) (Nat.le_refl _)
    (show p_nx h2 - p_nx (c_w L xs) ≤ 600086 by omega) (show p_us h2 - p_us (c_w L xs) ≤ 7301442 by omega) ?_
  · rw [Nat.sub_self, Nat.sub_self] at K1
    exact K1
  · intro H1 locs1 lsm1 pc1 hR1 hS1 hsh hdg
    refine va_forget (fun q hq => ?_) ?_
    · have z : g_sz G ≤ q.base := hS1.2.2 q hq
      omega
    · refine W.widen (k := 600086) (n := 7301442) (by omega) (by omega) ?_
      exact lw_ret hd0 hx hb hret hlocks (by rw [← hcb]; exact hdg)
end
