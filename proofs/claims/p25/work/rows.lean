section
/-! The tables' words (kit/laws/SKELETON.whole, part A, as it stands there), and four more: private methods of a class that objects of a subclass call. -/
/-- a private method of a class that the tables say can be made, by its rows of tables_1 -/
def lw_okq (q : MethodName × Nat) : Prop := (q.1.cls ≠ "java/lang/invoke/MethodHandle" ∧ q.1.cls ≠ "java/lang/invoke/VarHandle") ∧ Cond.instantiable q.1.cls q.2 ∈ tables_1 ∧ Cond.privateMethod q.1 ∈ tables_1 ∧ Cond.instanceMethod q.1 ∈ tables_1
theorem lw_p0 : lw_okq (⟨"java/lang/Throwable", "fillInStackTrace", "(I)Ljava/lang/Throwable;"⟩, 6) := ⟨⟨by decide +kernel, by decide +kernel⟩, List.mem_of_getElem? (i := 488) (by decide +kernel), List.mem_of_getElem? (i := 486) (by decide +kernel), List.mem_of_getElem? (i := 487) (by decide +kernel)⟩
theorem lw_p1 : lw_okq (⟨"ClauseDesk", "counted", "(I)I"⟩, 14) := ⟨⟨by decide +kernel, by decide +kernel⟩, List.mem_of_getElem? (i := 36) (by decide +kernel), List.mem_of_getElem? (i := 513) (by decide +kernel), List.mem_of_getElem? (i := 514) (by decide +kernel)⟩
theorem lw_p2 : lw_okq (⟨"ClauseDesk", "isFact", "(I)Z"⟩, 14) := ⟨⟨by decide +kernel, by decide +kernel⟩, List.mem_of_getElem? (i := 36) (by decide +kernel), List.mem_of_getElem? (i := 541) (by decide +kernel), List.mem_of_getElem? (i := 542) (by decide +kernel)⟩
theorem lw_p3 : lw_okq (⟨"ClauseDesk$Contract", "gather", "(LClauseDesk$Library;[III)V"⟩, 10) := ⟨⟨by decide +kernel, by decide +kernel⟩, List.mem_of_getElem? (i := 250) (by decide +kernel), List.mem_of_getElem? (i := 566) (by decide +kernel), List.mem_of_getElem? (i := 567) (by decide +kernel)⟩
theorem lw_p4 : lw_okq (⟨"ClauseDesk$Scribe", "pop", "()I"⟩, 8) := ⟨⟨by decide +kernel, by decide +kernel⟩, List.mem_of_getElem? (i := 276) (by decide +kernel), List.mem_of_getElem? (i := 592) (by decide +kernel), List.mem_of_getElem? (i := 593) (by decide +kernel)⟩
theorem lw_p5 : lw_okq (⟨"ClauseDesk$Scribe", "act", "(LClauseDesk$Kind;II)V"⟩, 8) := ⟨⟨by decide +kernel, by decide +kernel⟩, List.mem_of_getElem? (i := 276) (by decide +kernel), List.mem_of_getElem? (i := 596) (by decide +kernel), List.mem_of_getElem? (i := 597) (by decide +kernel)⟩
theorem lw_p6 : lw_okq (⟨"ClauseDesk$Scribe", "writeWord", "(II)V"⟩, 8) := ⟨⟨by decide +kernel, by decide +kernel⟩, List.mem_of_getElem? (i := 276) (by decide +kernel), List.mem_of_getElem? (i := 616) (by decide +kernel), List.mem_of_getElem? (i := 617) (by decide +kernel)⟩
theorem lw_p7 : lw_okq (⟨"ClauseDesk$Scribe", "note", "(I)V"⟩, 8) := ⟨⟨by decide +kernel, by decide +kernel⟩, List.mem_of_getElem? (i := 276) (by decide +kernel), List.mem_of_getElem? (i := 636) (by decide +kernel), List.mem_of_getElem? (i := 637) (by decide +kernel)⟩
theorem lw_p8 : lw_okq (⟨"ClauseDesk$Scribe", "placeOf", "(I)I"⟩, 8) := ⟨⟨by decide +kernel, by decide +kernel⟩, List.mem_of_getElem? (i := 276) (by decide +kernel), List.mem_of_getElem? (i := 644) (by decide +kernel), List.mem_of_getElem? (i := 645) (by decide +kernel)⟩
theorem lw_p9 : lw_okq (⟨"ClauseDesk$Scribe", "reckon", "(LClauseDesk$Kind;I)V"⟩, 8) := ⟨⟨by decide +kernel, by decide +kernel⟩, List.mem_of_getElem? (i := 276) (by decide +kernel), List.mem_of_getElem? (i := 648) (by decide +kernel), List.mem_of_getElem? (i := 649) (by decide +kernel)⟩
theorem lw_p10 : lw_okq (⟨"ClauseDesk$Scribe", "push", "(I)V"⟩, 8) := ⟨⟨by decide +kernel, by decide +kernel⟩, List.mem_of_getElem? (i := 276) (by decide +kernel), List.mem_of_getElem? (i := 654) (by decide +kernel), List.mem_of_getElem? (i := 655) (by decide +kernel)⟩
theorem lw_p11 : lw_okq (⟨"ClauseDesk$Contract", "write", "(LClauseDesk$Library;)V"⟩, 10) := ⟨⟨by decide +kernel, by decide +kernel⟩, List.mem_of_getElem? (i := 250) (by decide +kernel), List.mem_of_getElem? (i := 699) (by decide +kernel), List.mem_of_getElem? (i := 700) (by decide +kernel)⟩
theorem lw_p12 : lw_okq (⟨"ClauseDesk$Contract", "tally", "(LClauseDesk$Library;)V"⟩, 10) := ⟨⟨by decide +kernel, by decide +kernel⟩, List.mem_of_getElem? (i := 250) (by decide +kernel), List.mem_of_getElem? (i := 705) (by decide +kernel), List.mem_of_getElem? (i := 706) (by decide +kernel)⟩
theorem lw_p13 : lw_okq (⟨"ClauseDesk$Contract", "tallyItem", "(LClauseDesk$Library;II)V"⟩, 10) := ⟨⟨by decide +kernel, by decide +kernel⟩, List.mem_of_getElem? (i := 250) (by decide +kernel), List.mem_of_getElem? (i := 709) (by decide +kernel), List.mem_of_getElem? (i := 710) (by decide +kernel)⟩
theorem lw_p14 : lw_okq (⟨"ClauseDesk$Contract", "judge", "(LClauseDesk$Library;)V"⟩, 10) := ⟨⟨by decide +kernel, by decide +kernel⟩, List.mem_of_getElem? (i := 250) (by decide +kernel), List.mem_of_getElem? (i := 724) (by decide +kernel), List.mem_of_getElem? (i := 725) (by decide +kernel)⟩
theorem lw_p15 : lw_okq (⟨"ClauseDesk$Contract", "judgeLinks", "(LClauseDesk$Library;IILClauseDesk$Kind;)V"⟩, 10) := ⟨⟨by decide +kernel, by decide +kernel⟩, List.mem_of_getElem? (i := 250) (by decide +kernel), List.mem_of_getElem? (i := 734) (by decide +kernel), List.mem_of_getElem? (i := 735) (by decide +kernel)⟩
def lw_privs_1 : List (MethodName × Nat) := [(⟨"java/lang/Throwable", "fillInStackTrace", "(I)Ljava/lang/Throwable;"⟩, 6), (⟨"ClauseDesk", "counted", "(I)I"⟩, 14), (⟨"ClauseDesk", "isFact", "(I)Z"⟩, 14), (⟨"ClauseDesk$Contract", "gather", "(LClauseDesk$Library;[III)V"⟩, 10), (⟨"ClauseDesk$Scribe", "pop", "()I"⟩, 8), (⟨"ClauseDesk$Scribe", "act", "(LClauseDesk$Kind;II)V"⟩, 8), (⟨"ClauseDesk$Scribe", "writeWord", "(II)V"⟩, 8), (⟨"ClauseDesk$Scribe", "note", "(I)V"⟩, 8), (⟨"ClauseDesk$Scribe", "placeOf", "(I)I"⟩, 8), (⟨"ClauseDesk$Scribe", "reckon", "(LClauseDesk$Kind;I)V"⟩, 8), (⟨"ClauseDesk$Scribe", "push", "(I)V"⟩, 8), (⟨"ClauseDesk$Contract", "write", "(LClauseDesk$Library;)V"⟩, 10), (⟨"ClauseDesk$Contract", "tally", "(LClauseDesk$Library;)V"⟩, 10), (⟨"ClauseDesk$Contract", "tallyItem", "(LClauseDesk$Library;II)V"⟩, 10), (⟨"ClauseDesk$Contract", "judge", "(LClauseDesk$Library;)V"⟩, 10), (⟨"ClauseDesk$Contract", "judgeLinks", "(LClauseDesk$Library;IILClauseDesk$Kind;)V"⟩, 10)]
theorem lw_r1 : ∀ q ∈ lw_privs_1, lw_okq q := List.forall_mem_cons.mpr ⟨lw_p0, List.forall_mem_cons.mpr ⟨lw_p1, List.forall_mem_cons.mpr ⟨lw_p2, List.forall_mem_cons.mpr ⟨lw_p3, List.forall_mem_cons.mpr ⟨lw_p4, List.forall_mem_cons.mpr ⟨lw_p5, List.forall_mem_cons.mpr ⟨lw_p6, List.forall_mem_cons.mpr ⟨lw_p7, List.forall_mem_cons.mpr ⟨lw_p8, List.forall_mem_cons.mpr ⟨lw_p9, List.forall_mem_cons.mpr ⟨lw_p10, List.forall_mem_cons.mpr ⟨lw_p11, List.forall_mem_cons.mpr ⟨lw_p12, List.forall_mem_cons.mpr ⟨lw_p13, List.forall_mem_cons.mpr ⟨lw_p14, List.forall_mem_cons.mpr ⟨lw_p15, fun _ h => absurd h List.not_mem_nil⟩⟩⟩⟩⟩⟩⟩⟩⟩⟩⟩⟩⟩⟩⟩⟩
theorem lw_p16 : lw_okq (⟨"ClauseDesk$Contract", "placeOf", "(I)I"⟩, 10) := ⟨⟨by decide +kernel, by decide +kernel⟩, List.mem_of_getElem? (i := 250) (by decide +kernel), List.mem_of_getElem? (i := 743) (by decide +kernel), List.mem_of_getElem? (i := 744) (by decide +kernel)⟩
theorem lw_p17 : lw_okq (⟨"ClauseDesk$Contract", "judgeItem", "(LClauseDesk$Library;II)V"⟩, 10) := ⟨⟨by decide +kernel, by decide +kernel⟩, List.mem_of_getElem? (i := 250) (by decide +kernel), List.mem_of_getElem? (i := 758) (by decide +kernel), List.mem_of_getElem? (i := 759) (by decide +kernel)⟩
theorem lw_p18 : lw_okq (⟨"ClauseDesk$Contract", "judgeTerm", "(LClauseDesk$Kind;II)V"⟩, 10) := ⟨⟨by decide +kernel, by decide +kernel⟩, List.mem_of_getElem? (i := 250) (by decide +kernel), List.mem_of_getElem? (i := 762) (by decide +kernel), List.mem_of_getElem? (i := 763) (by decide +kernel)⟩
theorem lw_p19 : lw_okq (⟨"ClauseDesk", "isClause", "(I)Z"⟩, 14) := ⟨⟨by decide +kernel, by decide +kernel⟩, List.mem_of_getElem? (i := 36) (by decide +kernel), List.mem_of_getElem? (i := 772) (by decide +kernel), List.mem_of_getElem? (i := 773) (by decide +kernel)⟩
theorem lw_p20 : lw_okq (⟨"ClauseDesk", "choiceOf", "(I)I"⟩, 14) := ⟨⟨by decide +kernel, by decide +kernel⟩, List.mem_of_getElem? (i := 36) (by decide +kernel), List.mem_of_getElem? (i := 776) (by decide +kernel), List.mem_of_getElem? (i := 777) (by decide +kernel)⟩
theorem lw_p21 : lw_okq (⟨"ClauseDesk", "toldOfClause", "(II)I"⟩, 14) := ⟨⟨by decide +kernel, by decide +kernel⟩, List.mem_of_getElem? (i := 36) (by decide +kernel), List.mem_of_getElem? (i := 786) (by decide +kernel), List.mem_of_getElem? (i := 787) (by decide +kernel)⟩
theorem lw_p22 : lw_okq (⟨"ClauseDesk", "itemBytes", "(LClauseDesk$Clause;)I"⟩, 14) := ⟨⟨by decide +kernel, by decide +kernel⟩, List.mem_of_getElem? (i := 36) (by decide +kernel), List.mem_of_getElem? (i := 790) (by decide +kernel), List.mem_of_getElem? (i := 791) (by decide +kernel)⟩
theorem lw_p23 : lw_okq (⟨"ClauseDesk", "append", "(I)V"⟩, 14) := ⟨⟨by decide +kernel, by decide +kernel⟩, List.mem_of_getElem? (i := 36) (by decide +kernel), List.mem_of_getElem? (i := 929) (by decide +kernel), List.mem_of_getElem? (i := 930) (by decide +kernel)⟩
theorem lw_p24 : lw_okq (⟨"ClauseDesk$Tokens", "pastBlanks", "(I)I"⟩, 7) := ⟨⟨by decide +kernel, by decide +kernel⟩, List.mem_of_getElem? (i := 56) (by decide +kernel), List.mem_of_getElem? (i := 954) (by decide +kernel), List.mem_of_getElem? (i := 955) (by decide +kernel)⟩
theorem lw_p25 : lw_okq (⟨"ClauseDesk$Tokens", "lengthAt", "(I)I"⟩, 7) := ⟨⟨by decide +kernel, by decide +kernel⟩, List.mem_of_getElem? (i := 56) (by decide +kernel), List.mem_of_getElem? (i := 959) (by decide +kernel), List.mem_of_getElem? (i := 960) (by decide +kernel)⟩
theorem lw_p26 : lw_okq (⟨"ClauseDesk$Tokens", "wordLength", "(I)I"⟩, 7) := ⟨⟨by decide +kernel, by decide +kernel⟩, List.mem_of_getElem? (i := 56) (by decide +kernel), List.mem_of_getElem? (i := 966) (by decide +kernel), List.mem_of_getElem? (i := 967) (by decide +kernel)⟩
theorem lw_p27 : lw_okq (⟨"ClauseDesk$Tokens", "numberLength", "(I)I"⟩, 7) := ⟨⟨by decide +kernel, by decide +kernel⟩, List.mem_of_getElem? (i := 56) (by decide +kernel), List.mem_of_getElem? (i := 973) (by decide +kernel), List.mem_of_getElem? (i := 974) (by decide +kernel)⟩
theorem lw_p28 : lw_okq (⟨"ClauseDesk$Tokens", "stringLength", "(I)I"⟩, 7) := ⟨⟨by decide +kernel, by decide +kernel⟩, List.mem_of_getElem? (i := 56) (by decide +kernel), List.mem_of_getElem? (i := 977) (by decide +kernel), List.mem_of_getElem? (i := 978) (by decide +kernel)⟩
theorem lw_p29 : lw_okq (⟨"ClauseDesk$Tokens", "kindOf", "(II)LClauseDesk$Kind;"⟩, 7) := ⟨⟨by decide +kernel, by decide +kernel⟩, List.mem_of_getElem? (i := 56) (by decide +kernel), List.mem_of_getElem? (i := 981) (by decide +kernel), List.mem_of_getElem? (i := 982) (by decide +kernel)⟩
theorem lw_p30 : lw_okq (⟨"ClauseDesk$Tokens", "kindWritten", "(IILClauseDesk$Kind;)LClauseDesk$Kind;"⟩, 7) := ⟨⟨by decide +kernel, by decide +kernel⟩, List.mem_of_getElem? (i := 56) (by decide +kernel), List.mem_of_getElem? (i := 988) (by decide +kernel), List.mem_of_getElem? (i := 989) (by decide +kernel)⟩
theorem lw_p31 : lw_okq (⟨"ClauseDesk$Tokens", "isWritten", "(Ljava/lang/String;I)Z"⟩, 7) := ⟨⟨by decide +kernel, by decide +kernel⟩, List.mem_of_getElem? (i := 56) (by decide +kernel), List.mem_of_getElem? (i := 995) (by decide +kernel), List.mem_of_getElem? (i := 996) (by decide +kernel)⟩
def lw_privs_2 : List (MethodName × Nat) := [(⟨"ClauseDesk$Contract", "placeOf", "(I)I"⟩, 10), (⟨"ClauseDesk$Contract", "judgeItem", "(LClauseDesk$Library;II)V"⟩, 10), (⟨"ClauseDesk$Contract", "judgeTerm", "(LClauseDesk$Kind;II)V"⟩, 10), (⟨"ClauseDesk", "isClause", "(I)Z"⟩, 14), (⟨"ClauseDesk", "choiceOf", "(I)I"⟩, 14), (⟨"ClauseDesk", "toldOfClause", "(II)I"⟩, 14), (⟨"ClauseDesk", "itemBytes", "(LClauseDesk$Clause;)I"⟩, 14), (⟨"ClauseDesk", "append", "(I)V"⟩, 14), (⟨"ClauseDesk$Tokens", "pastBlanks", "(I)I"⟩, 7), (⟨"ClauseDesk$Tokens", "lengthAt", "(I)I"⟩, 7), (⟨"ClauseDesk$Tokens", "wordLength", "(I)I"⟩, 7), (⟨"ClauseDesk$Tokens", "numberLength", "(I)I"⟩, 7), (⟨"ClauseDesk$Tokens", "stringLength", "(I)I"⟩, 7), (⟨"ClauseDesk$Tokens", "kindOf", "(II)LClauseDesk$Kind;"⟩, 7), (⟨"ClauseDesk$Tokens", "kindWritten", "(IILClauseDesk$Kind;)LClauseDesk$Kind;"⟩, 7), (⟨"ClauseDesk$Tokens", "isWritten", "(Ljava/lang/String;I)Z"⟩, 7)]
theorem lw_r2 : ∀ q ∈ lw_privs_2, lw_okq q := List.forall_mem_cons.mpr ⟨lw_p16, List.forall_mem_cons.mpr ⟨lw_p17, List.forall_mem_cons.mpr ⟨lw_p18, List.forall_mem_cons.mpr ⟨lw_p19, List.forall_mem_cons.mpr ⟨lw_p20, List.forall_mem_cons.mpr ⟨lw_p21, List.forall_mem_cons.mpr ⟨lw_p22, List.forall_mem_cons.mpr ⟨lw_p23, List.forall_mem_cons.mpr ⟨lw_p24, List.forall_mem_cons.mpr ⟨lw_p25, List.forall_mem_cons.mpr ⟨lw_p26, List.forall_mem_cons.mpr ⟨lw_p27, List.forall_mem_cons.mpr ⟨lw_p28, List.forall_mem_cons.mpr ⟨lw_p29, List.forall_mem_cons.mpr ⟨lw_p30, List.forall_mem_cons.mpr ⟨lw_p31, fun _ h => absurd h List.not_mem_nil⟩⟩⟩⟩⟩⟩⟩⟩⟩⟩⟩⟩⟩⟩⟩⟩
theorem lw_p32 : lw_okq (⟨"ClauseDesk$Tokens", "valueOf", "(II)I"⟩, 7) := ⟨⟨by decide +kernel, by decide +kernel⟩, List.mem_of_getElem? (i := 56) (by decide +kernel), List.mem_of_getElem? (i := 1003) (by decide +kernel), List.mem_of_getElem? (i := 1004) (by decide +kernel)⟩
theorem lw_p33 : lw_okq (⟨"ClauseDesk$Grammar", "has", "(LClauseDesk$Kind;)Z"⟩, 6) := ⟨⟨by decide +kernel, by decide +kernel⟩, List.mem_of_getElem? (i := 50) (by decide +kernel), List.mem_of_getElem? (i := 1016) (by decide +kernel), List.mem_of_getElem? (i := 1017) (by decide +kernel)⟩
theorem lw_p34 : lw_okq (⟨"ClauseDesk$Grammar", "tellsFact", "()Z"⟩, 6) := ⟨⟨by decide +kernel, by decide +kernel⟩, List.mem_of_getElem? (i := 50) (by decide +kernel), List.mem_of_getElem? (i := 1023) (by decide +kernel), List.mem_of_getElem? (i := 1024) (by decide +kernel)⟩
theorem lw_p35 : lw_okq (⟨"ClauseDesk$Grammar", "take", "(LClauseDesk$Kind;)Z"⟩, 6) := ⟨⟨by decide +kernel, by decide +kernel⟩, List.mem_of_getElem? (i := 50) (by decide +kernel), List.mem_of_getElem? (i := 1027) (by decide +kernel), List.mem_of_getElem? (i := 1028) (by decide +kernel)⟩
theorem lw_p36 : lw_okq (⟨"ClauseDesk$Grammar", "tellsClause", "()Z"⟩, 6) := ⟨⟨by decide +kernel, by decide +kernel⟩, List.mem_of_getElem? (i := 50) (by decide +kernel), List.mem_of_getElem? (i := 1037) (by decide +kernel), List.mem_of_getElem? (i := 1038) (by decide +kernel)⟩
theorem lw_p37 : lw_okq (⟨"ClauseDesk$Grammar", "whenPart", "(LClauseDesk$Clause;)Z"⟩, 6) := ⟨⟨by decide +kernel, by decide +kernel⟩, List.mem_of_getElem? (i := 50) (by decide +kernel), List.mem_of_getElem? (i := 1047) (by decide +kernel), List.mem_of_getElem? (i := 1048) (by decide +kernel)⟩
theorem lw_p38 : lw_okq (⟨"ClauseDesk$Grammar", "test", "(I)Z"⟩, 6) := ⟨⟨by decide +kernel, by decide +kernel⟩, List.mem_of_getElem? (i := 50) (by decide +kernel), List.mem_of_getElem? (i := 1053) (by decide +kernel), List.mem_of_getElem? (i := 1054) (by decide +kernel)⟩
theorem lw_p39 : lw_okq (⟨"ClauseDesk$Grammar", "both", "(I)Z"⟩, 6) := ⟨⟨by decide +kernel, by decide +kernel⟩, List.mem_of_getElem? (i := 50) (by decide +kernel), List.mem_of_getElem? (i := 1057) (by decide +kernel), List.mem_of_getElem? (i := 1058) (by decide +kernel)⟩
theorem lw_p40 : lw_okq (⟨"ClauseDesk$Grammar", "single", "(I)Z"⟩, 6) := ⟨⟨by decide +kernel, by decide +kernel⟩, List.mem_of_getElem? (i := 50) (by decide +kernel), List.mem_of_getElem? (i := 1061) (by decide +kernel), List.mem_of_getElem? (i := 1062) (by decide +kernel)⟩
theorem lw_p41 : lw_okq (⟨"ClauseDesk$Grammar", "enter", "(LClauseDesk$Kind;I)Z"⟩, 6) := ⟨⟨by decide +kernel, by decide +kernel⟩, List.mem_of_getElem? (i := 50) (by decide +kernel), List.mem_of_getElem? (i := 1066) (by decide +kernel), List.mem_of_getElem? (i := 1067) (by decide +kernel)⟩
theorem lw_p42 : lw_okq (⟨"ClauseDesk$Grammar", "sum", "(I)Z"⟩, 6) := ⟨⟨by decide +kernel, by decide +kernel⟩, List.mem_of_getElem? (i := 50) (by decide +kernel), List.mem_of_getElem? (i := 1078) (by decide +kernel), List.mem_of_getElem? (i := 1079) (by decide +kernel)⟩
theorem lw_p43 : lw_okq (⟨"ClauseDesk$Grammar", "product", "(I)Z"⟩, 6) := ⟨⟨by decide +kernel, by decide +kernel⟩, List.mem_of_getElem? (i := 50) (by decide +kernel), List.mem_of_getElem? (i := 1082) (by decide +kernel), List.mem_of_getElem? (i := 1083) (by decide +kernel)⟩
theorem lw_p44 : lw_okq (⟨"ClauseDesk$Grammar", "value", "(I)Z"⟩, 6) := ⟨⟨by decide +kernel, by decide +kernel⟩, List.mem_of_getElem? (i := 50) (by decide +kernel), List.mem_of_getElem? (i := 1086) (by decide +kernel), List.mem_of_getElem? (i := 1087) (by decide +kernel)⟩
theorem lw_p45 : lw_okq (⟨"ClauseDesk$Grammar", "here", "()LClauseDesk$Kind;"⟩, 6) := ⟨⟨by decide +kernel, by decide +kernel⟩, List.mem_of_getElem? (i := 50) (by decide +kernel), List.mem_of_getElem? (i := 1090) (by decide +kernel), List.mem_of_getElem? (i := 1091) (by decide +kernel)⟩
theorem lw_p46 : lw_okq (⟨"ClauseDesk$Grammar", "ofTwo", "(LClauseDesk$Kind;I)Z"⟩, 6) := ⟨⟨by decide +kernel, by decide +kernel⟩, List.mem_of_getElem? (i := 50) (by decide +kernel), List.mem_of_getElem? (i := 1099) (by decide +kernel), List.mem_of_getElem? (i := 1100) (by decide +kernel)⟩
theorem lw_p47 : lw_okq (⟨"ClauseDesk$Grammar", "optionalPart", "(LClauseDesk$Clause;)Z"⟩, 6) := ⟨⟨by decide +kernel, by decide +kernel⟩, List.mem_of_getElem? (i := 50) (by decide +kernel), List.mem_of_getElem? (i := 1130) (by decide +kernel), List.mem_of_getElem? (i := 1131) (by decide +kernel)⟩
def lw_privs_3 : List (MethodName × Nat) := [(⟨"ClauseDesk$Tokens", "valueOf", "(II)I"⟩, 7), (⟨"ClauseDesk$Grammar", "has", "(LClauseDesk$Kind;)Z"⟩, 6), (⟨"ClauseDesk$Grammar", "tellsFact", "()Z"⟩, 6), (⟨"ClauseDesk$Grammar", "take", "(LClauseDesk$Kind;)Z"⟩, 6), (⟨"ClauseDesk$Grammar", "tellsClause", "()Z"⟩, 6), (⟨"ClauseDesk$Grammar", "whenPart", "(LClauseDesk$Clause;)Z"⟩, 6), (⟨"ClauseDesk$Grammar", "test", "(I)Z"⟩, 6), (⟨"ClauseDesk$Grammar", "both", "(I)Z"⟩, 6), (⟨"ClauseDesk$Grammar", "single", "(I)Z"⟩, 6), (⟨"ClauseDesk$Grammar", "enter", "(LClauseDesk$Kind;I)Z"⟩, 6), (⟨"ClauseDesk$Grammar", "sum", "(I)Z"⟩, 6), (⟨"ClauseDesk$Grammar", "product", "(I)Z"⟩, 6), (⟨"ClauseDesk$Grammar", "value", "(I)Z"⟩, 6), (⟨"ClauseDesk$Grammar", "here", "()LClauseDesk$Kind;"⟩, 6), (⟨"ClauseDesk$Grammar", "ofTwo", "(LClauseDesk$Kind;I)Z"⟩, 6), (⟨"ClauseDesk$Grammar", "optionalPart", "(LClauseDesk$Clause;)Z"⟩, 6)]
theorem lw_r3 : ∀ q ∈ lw_privs_3, lw_okq q := List.forall_mem_cons.mpr ⟨lw_p32, List.forall_mem_cons.mpr ⟨lw_p33, List.forall_mem_cons.mpr ⟨lw_p34, List.forall_mem_cons.mpr ⟨lw_p35, List.forall_mem_cons.mpr ⟨lw_p36, List.forall_mem_cons.mpr ⟨lw_p37, List.forall_mem_cons.mpr ⟨lw_p38, List.forall_mem_cons.mpr ⟨lw_p39, List.forall_mem_cons.mpr ⟨lw_p40, List.forall_mem_cons.mpr ⟨lw_p41, List.forall_mem_cons.mpr ⟨lw_p42, List.forall_mem_cons.mpr ⟨lw_p43, List.forall_mem_cons.mpr ⟨lw_p44, List.forall_mem_cons.mpr ⟨lw_p45, List.forall_mem_cons.mpr ⟨lw_p46, List.forall_mem_cons.mpr ⟨lw_p47, fun _ h => absurd h List.not_mem_nil⟩⟩⟩⟩⟩⟩⟩⟩⟩⟩⟩⟩⟩⟩⟩⟩
theorem lw_p48 : lw_okq (⟨"ClauseDesk$Grammar", "linkPart", "()Z"⟩, 6) := ⟨⟨by decide +kernel, by decide +kernel⟩, List.mem_of_getElem? (i := 50) (by decide +kernel), List.mem_of_getElem? (i := 1137) (by decide +kernel), List.mem_of_getElem? (i := 1138) (by decide +kernel)⟩
theorem lw_p49 : lw_okq (⟨"ClauseDesk$Grammar", "block", "(I)Z"⟩, 6) := ⟨⟨by decide +kernel, by decide +kernel⟩, List.mem_of_getElem? (i := 50) (by decide +kernel), List.mem_of_getElem? (i := 1144) (by decide +kernel), List.mem_of_getElem? (i := 1145) (by decide +kernel)⟩
theorem lw_p50 : lw_okq (⟨"ClauseDesk$Grammar", "item", "(I)Z"⟩, 6) := ⟨⟨by decide +kernel, by decide +kernel⟩, List.mem_of_getElem? (i := 50) (by decide +kernel), List.mem_of_getElem? (i := 1152) (by decide +kernel), List.mem_of_getElem? (i := 1153) (by decide +kernel)⟩
theorem lw_p51 : lw_okq (⟨"ClauseDesk$Grammar", "nameItem", "()Z"⟩, 6) := ⟨⟨by decide +kernel, by decide +kernel⟩, List.mem_of_getElem? (i := 50) (by decide +kernel), List.mem_of_getElem? (i := 1157) (by decide +kernel), List.mem_of_getElem? (i := 1158) (by decide +kernel)⟩
theorem lw_p52 : lw_okq (⟨"ClauseDesk$Grammar", "showItem", "(I)Z"⟩, 6) := ⟨⟨by decide +kernel, by decide +kernel⟩, List.mem_of_getElem? (i := 50) (by decide +kernel), List.mem_of_getElem? (i := 1161) (by decide +kernel), List.mem_of_getElem? (i := 1162) (by decide +kernel)⟩
theorem lw_p53 : lw_okq (⟨"ClauseDesk$Grammar", "ifItem", "(I)Z"⟩, 6) := ⟨⟨by decide +kernel, by decide +kernel⟩, List.mem_of_getElem? (i := 50) (by decide +kernel), List.mem_of_getElem? (i := 1167) (by decide +kernel), List.mem_of_getElem? (i := 1168) (by decide +kernel)⟩
theorem lw_p54 : lw_okq (⟨"ClauseDesk$Grammar", "pointsItem", "(I)Z"⟩, 6) := ⟨⟨by decide +kernel, by decide +kernel⟩, List.mem_of_getElem? (i := 50) (by decide +kernel), List.mem_of_getElem? (i := 1177) (by decide +kernel), List.mem_of_getElem? (i := 1178) (by decide +kernel)⟩
theorem lw_p55 : lw_okq (⟨"ClauseDesk$Library", "lookAtName", "(ILClauseDesk$Kind;)I"⟩, 12) := ⟨⟨by decide +kernel, by decide +kernel⟩, List.mem_of_getElem? (i := 44) (by decide +kernel), List.mem_of_getElem? (i := 1191) (by decide +kernel), List.mem_of_getElem? (i := 1192) (by decide +kernel)⟩
theorem lw_p56 : lw_okq (⟨"ClauseDesk$Library", "addFact", "(I)I"⟩, 12) := ⟨⟨by decide +kernel, by decide +kernel⟩, List.mem_of_getElem? (i := 44) (by decide +kernel), List.mem_of_getElem? (i := 1197) (by decide +kernel), List.mem_of_getElem? (i := 1198) (by decide +kernel)⟩
theorem lw_p57 : lw_okq (⟨"ClauseDesk$Library", "numberOf", "(I[II)I"⟩, 12) := ⟨⟨by decide +kernel, by decide +kernel⟩, List.mem_of_getElem? (i := 44) (by decide +kernel), List.mem_of_getElem? (i := 1201) (by decide +kernel), List.mem_of_getElem? (i := 1202) (by decide +kernel)⟩
theorem lw_p58 : lw_okq (⟨"ClauseDesk$Library", "addClause", "(I)I"⟩, 12) := ⟨⟨by decide +kernel, by decide +kernel⟩, List.mem_of_getElem? (i := 44) (by decide +kernel), List.mem_of_getElem? (i := 1212) (by decide +kernel), List.mem_of_getElem? (i := 1213) (by decide +kernel)⟩
theorem lw_p59 : lw_okq (⟨"ClauseDesk$Library", "clauseNamed", "(I)I"⟩, 12) := ⟨⟨by decide +kernel, by decide +kernel⟩, List.mem_of_getElem? (i := 44) (by decide +kernel), List.mem_of_getElem? (i := 1216) (by decide +kernel), List.mem_of_getElem? (i := 1217) (by decide +kernel)⟩
theorem lw_p60 : lw_okq (⟨"ClauseDesk$Library", "meanClause", "(ILClauseDesk$Kind;)I"⟩, 12) := ⟨⟨by decide +kernel, by decide +kernel⟩, List.mem_of_getElem? (i := 44) (by decide +kernel), List.mem_of_getElem? (i := 1222) (by decide +kernel), List.mem_of_getElem? (i := 1223) (by decide +kernel)⟩
theorem lw_p61 : lw_okq (⟨"ClauseDesk$Library", "meanTerm", "(I)I"⟩, 12) := ⟨⟨by decide +kernel, by decide +kernel⟩, List.mem_of_getElem? (i := 44) (by decide +kernel), List.mem_of_getElem? (i := 1236) (by decide +kernel), List.mem_of_getElem? (i := 1237) (by decide +kernel)⟩
theorem lw_p62 : lw_okq (⟨"ClauseDesk$Library", "meanFact", "(I)I"⟩, 12) := ⟨⟨by decide +kernel, by decide +kernel⟩, List.mem_of_getElem? (i := 44) (by decide +kernel), List.mem_of_getElem? (i := 1240) (by decide +kernel), List.mem_of_getElem? (i := 1241) (by decide +kernel)⟩
theorem lw_p63 : lw_okq (⟨"ClauseDesk", "takeUpSpare", "()V"⟩, 14) := ⟨⟨by decide +kernel, by decide +kernel⟩, List.mem_of_getElem? (i := 36) (by decide +kernel), List.mem_of_getElem? (i := 1249) (by decide +kernel), List.mem_of_getElem? (i := 1250) (by decide +kernel)⟩
def lw_privs_4 : List (MethodName × Nat) := [(⟨"ClauseDesk$Grammar", "linkPart", "()Z"⟩, 6), (⟨"ClauseDesk$Grammar", "block", "(I)Z"⟩, 6), (⟨"ClauseDesk$Grammar", "item", "(I)Z"⟩, 6), (⟨"ClauseDesk$Grammar", "nameItem", "()Z"⟩, 6), (⟨"ClauseDesk$Grammar", "showItem", "(I)Z"⟩, 6), (⟨"ClauseDesk$Grammar", "ifItem", "(I)Z"⟩, 6), (⟨"ClauseDesk$Grammar", "pointsItem", "(I)Z"⟩, 6), (⟨"ClauseDesk$Library", "lookAtName", "(ILClauseDesk$Kind;)I"⟩, 12), (⟨"ClauseDesk$Library", "addFact", "(I)I"⟩, 12), (⟨"ClauseDesk$Library", "numberOf", "(I[II)I"⟩, 12), (⟨"ClauseDesk$Library", "addClause", "(I)I"⟩, 12), (⟨"ClauseDesk$Library", "clauseNamed", "(I)I"⟩, 12), (⟨"ClauseDesk$Library", "meanClause", "(ILClauseDesk$Kind;)I"⟩, 12), (⟨"ClauseDesk$Library", "meanTerm", "(I)I"⟩, 12), (⟨"ClauseDesk$Library", "meanFact", "(I)I"⟩, 12), (⟨"ClauseDesk", "takeUpSpare", "()V"⟩, 14)]
theorem lw_r4 : ∀ q ∈ lw_privs_4, lw_okq q := List.forall_mem_cons.mpr ⟨lw_p48, List.forall_mem_cons.mpr ⟨lw_p49, List.forall_mem_cons.mpr ⟨lw_p50, List.forall_mem_cons.mpr ⟨lw_p51, List.forall_mem_cons.mpr ⟨lw_p52, List.forall_mem_cons.mpr ⟨lw_p53, List.forall_mem_cons.mpr ⟨lw_p54, List.forall_mem_cons.mpr ⟨lw_p55, List.forall_mem_cons.mpr ⟨lw_p56, List.forall_mem_cons.mpr ⟨lw_p57, List.forall_mem_cons.mpr ⟨lw_p58, List.forall_mem_cons.mpr ⟨lw_p59, List.forall_mem_cons.mpr ⟨lw_p60, List.forall_mem_cons.mpr ⟨lw_p61, List.forall_mem_cons.mpr ⟨lw_p62, List.forall_mem_cons.mpr ⟨lw_p63, fun _ h => absurd h List.not_mem_nil⟩⟩⟩⟩⟩⟩⟩⟩⟩⟩⟩⟩⟩⟩⟩⟩
def lw_privs : List (MethodName × Nat) := lw_privs_1 ++ (lw_privs_2 ++ (lw_privs_3 ++ (lw_privs_4)))
def lw_tbl : List Cond := k2_sels lw_privs ++ tables_1
theorem lw_privs_ok : ∀ q ∈ lw_privs, lw_okq q := by
  show ∀ q ∈ lw_privs_1 ++ (lw_privs_2 ++ (lw_privs_3 ++ (lw_privs_4))), lw_okq q
  exact List.forall_mem_append.mpr ⟨lw_r1, List.forall_mem_append.mpr ⟨lw_r2, List.forall_mem_append.mpr ⟨lw_r3, lw_r4⟩⟩⟩
/-- the streams that the claim lets the run draw from -/
abbrev lw_cs : List Choice := [Jvm.Choice.named "NaN.bits"]
theorem lw_bits : nanBits ∈ lw_cs := by first | decide | exact List.mem_cons_self | simp [lw_cs, nanBits]

/-- a private method, called on an object of a subclass -/
theorem w_priv {C : String} {y : MethodName} {s : State} {args : Array Value} {n : Nat} (hy : y.cls ≠ "java/lang/invoke/MethodHandle" ∧ y.cls ≠ "java/lang/invoke/VarHandle")
    (hins : (Cond.instantiable C n).before args s = true) (hpriv : (Cond.privateMethod y).before args s = true) (hinst : (Cond.instanceMethod y).before args s = true) (hf : ∀ c : ClassId, ∀ k : Class, s.vm.findClass y.cls = some c → s.vm.classes[c]? = some k → k.isInterface = false) :
    (Cond.selects C y y).before args s = true := by
  obtain ⟨c, k, hc, hk, -, hniab, -, -⟩ := Cond.instantiable_spec hins
  have hni : k.isInterface = false := (Bool.or_eq_false_iff.mp hniab).1
  obtain ⟨mk, methM, hnamed, hmethM, -, -⟩ := Cond.instanceMethod_spec hinst
  have hfound : s.methodFound? y.cls y.name y.desc = some mk := State.methodFound?_of_named hnamed hy
  obtain ⟨kP, hkP, -⟩ := className_of_methodNamed hnamed
  have hfc := findClass_of_methodNamed hnamed
  have hkn := hf _ _ hfc hkP
  have hsel : selectMethod {} s.vm c mk = .method mk := selectMethod_private hmethM (Cond.privateMethod_at hpriv mk methM hnamed hmethM)
  simp only [Cond.before, Cond.holds, Cond.value, hc, hfound, hnamed, hsel, hk]
  simp [hkP, hkn]
def w_px : List MethodName := [⟨"java/lang/AbstractStringBuilder", "ensureCapacityInternal", "(I)V"⟩, ⟨"java/lang/AbstractStringBuilder", "inflateIfNeededFor", "(Ljava/lang/String;)V"⟩, ⟨"java/lang/AbstractStringBuilder", "newCapacity", "(I)I"⟩, ⟨"java/lang/AbstractStringBuilder", "putStringAt", "(ILjava/lang/String;)V"⟩]
def w_x : List Cond := w_px.map (fun y => Cond.selects "java/lang/StringBuilder" y y)
def w_all : List Cond := w_x ++ lw_tbl
/-- the words that a callee may have too -/
def w_g : List Cond := w_all.filter goodWord
theorem w_x_ok : ∀ y ∈ w_px, y.cls = "java/lang/AbstractStringBuilder" ∧ Cond.privateMethod y ∈ lw_tbl ∧ Cond.instanceMethod y ∈ lw_tbl := by decide +kernel
theorem w_hts {args : Array Value} {s : State} (hts : ∀ w ∈ lw_tbl, w.before args s = true) : ∀ w ∈ w_all, w.before args s = true := by
  intro w hw
  rcases List.mem_append.mp hw with hw | hw
  · obtain ⟨y, hy, rfl⟩ := List.mem_map.mp hw
    obtain ⟨h0, h1, h2⟩ := w_x_ok y hy
    have hi : (Cond.selects "java/lang/StringBuilder" ⟨"java/lang/AbstractStringBuilder", "isLatin1", "()Z"⟩ ⟨"java/lang/AbstractStringBuilder", "isLatin1", "()Z"⟩).before args s = true := hts _ (List.mem_of_getElem? (i := 1494) (by decide +kernel))
    obtain ⟨c2, r2, m2, q1, q2, q3, q4, kP, hkP, hkPi⟩ := Cond.selects_spec hi
    refine w_priv (n := 4) (by rw [h0]; decide) (hts _ (List.mem_of_getElem? (i := 1348) (by decide +kernel))) (hts _ h1) (hts _ h2) ?_
    intro c k hc hk
    rw [h0] at hc
    have := (findClass_of_methodNamed q3).symm.trans hc
    cases this
    cases hkP.symm.trans hk
    exact hkPi
  · exact hts w hw
theorem w_at {i : Nat} {w : Cond} (h : w_all[i]? = some w) (hg : goodWord w = true) : w ∈ w_g := List.mem_filter.mpr ⟨List.mem_of_getElem? h, hg⟩
theorem w_good : ∀ w ∈ w_g, (w.onTables && w.keeps) = true ∨ ∃ ty, w = .arrayClass ty := fun _ h => good_of_word (List.mem_filter.mp h).2
end
section
/-! THE TABLES: made by a program out of the claim (wip/p25/gen2.py): the linked code of the methods that the law reaches.
A jump names a place in the list of instructions; a field is 100 * (its class's number) + its place; a method, a class, a constant by its number. -/
/-- 0: ClauseDesk$Tokens.(new) ()V -/
def zc_0 : List Instr := [.aload 0, .invokespecial 902, .aload 0, .iconst 3000, .newarray .byte, .putfield 400, .aload 0, .iconst 0, .putfield 401, .aload 0, .iconst 601, .anewarray 310, .putfield 402, .aload 0, .iconst 601, .newarray .int, .putfield 403, .aload 0, .iconst 601, .newarray .int, .putfield 404, .aload 0, .iconst 601, .newarray .int, .putfield 405, .aload 0, .iconst 0, .putfield 406, .return_]
def zv_0 : List (Nat × List Bool) := []
/-- 1: ClauseDesk$Code.(new) ()V -/
def zc_1 : List Instr := [.aload 0, .invokespecial 902, .aload 0, .iconst 600, .anewarray 310, .putfield 500, .aload 0, .iconst 600, .newarray .int, .putfield 501, .aload 0, .iconst 0, .putfield 502, .return_]
def zv_1 : List (Nat × List Bool) := []
/-- 2: ClauseDesk$Clause.(new) ()V -/
def zc_2 : List Instr := [.aload 0, .invokespecial 902, .aload 0, .iconst 0, .putfield 600, .aload 0, .iconst 0, .putfield 601, .aload 0, .iconst 0, .putfield 602, .aload 0, .iconst 0, .putfield 603, .aload 0, .iconst 0, .putfield 604, .aload 0, .iconst 0, .putfield 605, .aload 0, .iconst 0, .putfield 606, .aload 0, .iconst 0, .putfield 607, .aload 0, .iconst 0, .putfield 608, .aload 0, .iconst 0, .putfield 609, .aload 0, .iconst 0, .putfield 610, .return_]
def zv_2 : List (Nat × List Bool) := []
/-- 3: ClauseDesk$Grammar.(new) ()V -/
def zc_3 : List Instr := [.aload 0, .invokespecial 902, .aload 0, .new 4, .dup, .invokespecial 0, .putfield 300, .aload 0, .new 5, .dup, .invokespecial 1, .putfield 301, .aload 0, .iconst 16, .anewarray 312, .putfield 302, .aload 0, .new 6, .dup, .invokespecial 2, .putfield 303, .aload 0, .iconst 0, .putfield 304, .aload 0, .iconst 0, .putfield 305, .iconst 0, .istore 1, .iload 1, .iconst 16, .if_icmp .ge 41, .aload 0, .getfield 302, .iload 1, .new 6, .dup, .invokespecial 2, .aastore, .iinc 1 1, .goto 29, .return_]
def zv_3 : List (Nat × List Bool) := [(29, [true, true]), (41, [false, false])]
/-- 4: ClauseDesk$Library.(new) ()V -/
def zc_4 : List Instr := [.aload 0, .invokespecial 902, .aload 0, .new 3, .dup, .invokespecial 3, .putfield 200, .aload 0, .aload 0, .getfield 200, .getfield 300, .putfield 201, .aload 0, .aload 0, .getfield 200, .getfield 301, .putfield 202, .aload 0, .aload 0, .getfield 200, .getfield 302, .putfield 203, .aload 0, .iconst 10, .newarray .int, .putfield 204, .aload 0, .iconst 10, .newarray .int, .putfield 205, .aload 0, .iconst 24, .newarray .int, .putfield 206, .aload 0, .iconst 0, .putfield 207, .aload 0, .iconst 0, .putfield 208, .aload 0, .iconst 0, .putfield 209, .aload 0, .iconst 0, .putfield 210, .aload 0, .iconst 0, .putfield 211, .return_]
def zv_4 : List (Nat × List Bool) := []
/-- 5: ClauseDesk$Conflicts.(new) ()V -/
def zc_5 : List Instr := [.aload 0, .invokespecial 902, .aload 0, .iconst 60, .newarray .int, .putfield 800, .aload 0, .iconst 60, .newarray .int, .putfield 801, .aload 0, .iconst 60, .newarray .int, .putfield 802, .aload 0, .iconst 0, .putfield 803, .return_]
def zv_5 : List (Nat × List Bool) := []
/-- 6: ClauseDesk$Scribe.(new) ()V -/
def zc_6 : List Instr := [.aload 0, .invokespecial 902, .aload 0, .aconst_null, .putfield 900, .aload 0, .aconst_null, .putfield 901, .aload 0, .aconst_null, .putfield 902, .aload 0, .aconst_null, .putfield 903, .aload 0, .iconst 64, .newarray .int, .putfield 904, .aload 0, .iconst 0, .putfield 905, .aload 0, .iconst 600, .newarray .int, .putfield 906, .aload 0, .iconst 0, .putfield 907, .return_]
def zv_6 : List (Nat × List Bool) := []
/-- 7: ClauseDesk$Page.(new) (I)V -/
def zc_7 : List Instr := [.aload 0, .invokespecial 902, .aload 0, .iconst 0, .putfield 1101, .aload 0, .iload 1, .ifCond .le 10, .iload 1, .goto 11, .iconst 0, .newarray .byte, .putfield 1100, .return_]
def zv_7 : List (Nat × List Bool) := [(10, [false, false]), (11, [false, false])]
/-- 8: ClauseDesk$Draft.(new) (I)V -/
def zc_8 : List Instr := [.aload 0, .invokespecial 902, .aload 0, .iconst 0, .putfield 1000, .aload 0, .iconst 0, .putfield 1001, .aload 0, .iconst 16, .newarray .int, .putfield 1002, .aload 0, .iconst 16, .newarray .int, .putfield 1003, .aload 0, .iconst 16, .newarray .int, .putfield 1004, .aload 0, .iconst 16, .newarray .int, .putfield 1005, .aload 0, .new 11, .dup, .iload 1, .invokespecial 7, .putfield 1006, .return_]
def zv_8 : List (Nat × List Bool) := []
/-- 9: ClauseDesk$Contract.(new) (I)V -/
def zc_9 : List Instr := [.aload 0, .invokespecial 902, .aload 0, .new 8, .dup, .invokespecial 5, .putfield 701, .aload 0, .new 9, .dup, .invokespecial 6, .putfield 702, .aload 0, .iconst 0, .putfield 703, .aload 0, .iconst 0, .putfield 704, .aload 0, .iconst 16, .newarray .int, .putfield 705, .aload 0, .iconst 24, .newarray .int, .putfield 706, .aload 0, .iconst 24, .newarray .int, .putfield 707, .aload 0, .iconst 24, .newarray .int, .putfield 708, .aload 0, .iconst 24, .newarray .int, .putfield 709, .aload 0, .new 10, .dup, .iload 1, .invokespecial 8, .putfield 700, .return_]
def zv_9 : List (Nat × List Bool) := []
/-- 10: ClauseDesk.(new) ()V -/
def zc_10 : List Instr := [.aload 0, .invokespecial 902, .aload 0, .iconst 3000, .newarray .byte, .putfield 100, .aload 0, .iconst 0, .putfield 101, .aload 0, .iconst (-1), .putfield 102, .aload 0, .new 2, .dup, .invokespecial 4, .putfield 103, .aload 0, .new 2, .dup, .invokespecial 4, .putfield 104, .aload 0, .iconst 10, .newarray .int, .putfield 105, .aload 0, .iconst 0, .putfield 106, .aload 0, .iconst 0, .putfield 107, .aload 0, .new 7, .dup, .iconst 6000, .invokespecial 9, .putfield 108, .aload 0, .new 7, .dup, .iconst 0, .invokespecial 9, .putfield 109, .aload 0, .new 9, .dup, .invokespecial 6, .putfield 110, .aload 0, .new 11, .dup, .iconst 0, .invokespecial 7, .putfield 111, .aload 0, .new 10, .dup, .iconst 6000, .invokespecial 8, .putfield 112, .aload 0, .iconst 16, .newarray .int, .putfield 113, .return_]
def zv_10 : List (Nat × List Bool) := []
/-- 11: java.lang.AbstractStringBuilder.(new) (I)V -/
def zc_11 : List Instr := [.aload 0, .invokespecial 902, .iconst 1, .ifCond .eq 12, .aload 0, .iload 1, .newarray .byte, .putfield 1300, .aload 0, .iconst 0, .putfield 1301, .goto 19, .aload 0, .iload 1, .athrow, .putfield 1300, .aload 0, .iconst 1, .putfield 1301, .return_]
def zv_11 : List (Nat × List Bool) := [(12, [true, true]), (19, [false, false])]
/-- 12: java.lang.StringBuilder.(new) ()V -/
def zc_12 : List Instr := [.aload 0, .iconst 16, .invokespecial 11, .return_]
def zv_12 : List (Nat × List Bool) := []
/-- 13: ClauseDeskLaw$Sim.(new) ()V -/
def zc_13 : List Instr := [.aload 0, .invokespecial 902, .aload 0, .iconst 6, .newarray .int, .putfield 1214, .aload 0, .new 13, .dup, .invokespecial 12, .putfield 1218, .return_]
def zv_13 : List (Nat × List Bool) := []
/-- 14: ClauseDeskLaw.cell ([II)I -/
def zc_14 : List Instr := [.iload 1, .aload 0, .arraylength, .if_icmp .ge 8, .aload 0, .iload 1, .iaload, .goto 13, .iconst 790386105, .iload 1, .iconst 3, .iadd, .imul, .ireturn]
def zv_14 : List (Nat × List Bool) := [(8, [false, true]), (13, [false, false])]
/-- 15: ClauseDeskLaw.below (II)I -/
def zc_15 : List Instr := [.iload 0, .iconst 2147483647, .iand, .iload 1, .irem, .ireturn]
def zv_15 : List (Nat × List Bool) := []
/-- 16: java.lang.String.coder ()B -/
def zc_16 : List Instr := [.iconst 1, .ifCond .eq 5, .aload 0, .getfield 1401, .goto 6, .iconst 1, .ireturn]
def zv_16 : List (Nat × List Bool) := [(5, [false]), (6, [false])]
/-- 17: java.lang.String.length ()I -/
def zc_17 : List Instr := [.aload 0, .getfield 1400, .arraylength, .aload 0, .invokevirtual 16, .ishr, .ireturn]
def zv_17 : List (Nat × List Bool) := []
/-- 18: java.lang.Math.max (II)I -/
def zc_18 : List Instr := [.iload 0, .iload 1, .if_icmp .lt 5, .iload 0, .goto 6, .iload 1, .ireturn]
def zv_18 : List (Nat × List Bool) := [(5, [false, true]), (6, [false, false])]
/-- 19: jdk.internal.util.ArraysSupport.newLength (III)I -/
def zc_19 : List Instr := [.iload 0, .iload 1, .iload 2, .invokestatic 18, .iadd, .istore 3, .iconst 0, .iload 3, .if_icmp .ge 14, .iload 3, .iconst 2147483639, .if_icmp .gt 14, .iload 3, .ireturn, .iload 0, .iload 1, .athrow, .ireturn]
def zv_19 : List (Nat × List Bool) := [(14, [true, true, false, false])]
/-- 20: java.lang.AbstractStringBuilder.newCapacity (I)I -/
def zc_20 : List Instr := [.aload 0, .getfield 1300, .arraylength, .istore 2, .iload 1, .aload 0, .getfield 1301, .ishl, .istore 3, .iload 3, .iload 2, .isub, .istore 4, .iload 2, .iload 4, .iload 2, .iconst 2, .aload 0, .getfield 1301, .ishl, .iadd, .invokestatic 19, .istore 5, .iload 5, .iconst 2147483647, .if_icmp .ne 31, .athrow, .dup, .athrow, .athrow, .athrow, .iload 5, .aload 0, .getfield 1301, .ishr, .ireturn]
def zv_20 : List (Nat × List Bool) := [(31, [true, false, false, false, false, true])]
/-- 21: java.lang.Math.min (II)I -/
def zc_21 : List Instr := [.iload 0, .iload 1, .if_icmp .gt 5, .iload 0, .goto 6, .iload 1, .ireturn]
def zv_21 : List (Nat × List Bool) := [(5, [false, true]), (6, [false, false])]
/-- 22: java.util.Arrays.copyOf ([BI)[B -/
def zc_22 : List Instr := [.iload 1, .aload 0, .arraylength, .if_icmp .ne 8, .aload 0, .invokevirtual 901, .checkcast 0, .areturn, .iload 1, .newarray .byte, .astore 2, .aload 0, .iconst 0, .aload 2, .iconst 0, .aload 0, .arraylength, .iload 1, .invokestatic 21, .invokestatic 900, .aload 2, .areturn]
def zv_22 : List (Nat × List Bool) := [(8, [true, true, false])]
/-- 23: java.lang.AbstractStringBuilder.ensureCapacityInternal (I)V -/
def zc_23 : List Instr := [.aload 0, .getfield 1300, .arraylength, .aload 0, .getfield 1301, .ishr, .istore 2, .iload 1, .iload 2, .isub, .ifCond .le 22, .aload 0, .aload 0, .getfield 1300, .aload 0, .iload 1, .invokevirtual 20, .aload 0, .getfield 1301, .ishl, .invokestatic 22, .putfield 1300, .return_]
def zv_23 : List (Nat × List Bool) := [(22, [false, false, false])]
/-- 24: java.lang.AbstractStringBuilder.inflateIfNeededFor (Ljava/lang/String;)V -/
def zc_24 : List Instr := [.iconst 1, .ifCond .eq 9, .aload 0, .getfield 1301, .aload 1, .invokevirtual 16, .if_icmp .eq 9, .aload 0, .athrow, .return_]
def zv_24 : List (Nat × List Bool) := [(9, [false, false])]
/-- 25: java.lang.String.getBytes ([BIB)V -/
def zc_25 : List Instr := [.aload 0, .invokevirtual 16, .iload 3, .if_icmp .ne 16, .aload 0, .getfield 1400, .iconst 0, .aload 1, .iload 2, .iload 3, .ishl, .aload 0, .getfield 1400, .arraylength, .invokestatic 900, .goto 25, .aload 0, .getfield 1400, .iconst 0, .aload 1, .iload 2, .aload 0, .getfield 1400, .arraylength, .athrow, .return_]
def zv_25 : List (Nat × List Bool) := [(16, [true, true, true, false]), (25, [false, false, false, false])]
/-- 26: java.lang.AbstractStringBuilder.putStringAt (ILjava/lang/String;)V -/
def zc_26 : List Instr := [.aload 0, .aload 2, .invokevirtual 24, .aload 2, .aload 0, .getfield 1300, .iload 1, .aload 0, .getfield 1301, .invokevirtual 25, .return_]
def zv_26 : List (Nat × List Bool) := []
/-- 27: java.lang.AbstractStringBuilder.append (Ljava/lang/String;)Ljava/lang/AbstractStringBuilder; -/
def zc_27 : List Instr := [.aload 1, .ifnonnull 5, .aload 0, .athrow, .areturn, .aload 1, .invokevirtual 17, .istore 2, .aload 0, .aload 0, .getfield 1303, .iload 2, .iadd, .invokevirtual 23, .aload 0, .aload 0, .getfield 1303, .aload 1, .invokevirtual 26, .aload 0, .dup, .getfield 1303, .iload 2, .iadd, .putfield 1303, .aload 0, .areturn]
def zv_27 : List (Nat × List Bool) := [(5, [true, true, false])]
/-- 28: java.lang.StringBuilder.append (Ljava/lang/String;)Ljava/lang/StringBuilder; -/
def zc_28 : List Instr := [.aload 0, .aload 1, .invokevirtual 27, .pop, .aload 0, .areturn]
def zv_28 : List (Nat × List Bool) := []
/-- 29: java.lang.AbstractStringBuilder.isLatin1 ()Z -/
def zc_29 : List Instr := [.iconst 1, .ifCond .eq 7, .aload 0, .getfield 1301, .ifCond .ne 7, .iconst 1, .goto 8, .iconst 0, .ireturn]
def zv_29 : List (Nat × List Bool) := [(7, [false]), (8, [false])]
/-- 30: java.lang.StringLatin1.canEncode (C)Z -/
def zc_30 : List Instr := [.iload 0, .iconst 255, .if_icmp .gt 5, .iconst 1, .goto 6, .iconst 0, .ireturn]
def zv_30 : List (Nat × List Bool) := [(5, [false]), (6, [false])]
/-- 31: java.lang.AbstractStringBuilder.append (C)Ljava/lang/AbstractStringBuilder; -/
def zc_31 : List Instr := [.aload 0, .aload 0, .getfield 1303, .iconst 1, .iadd, .invokevirtual 23, .aload 0, .invokevirtual 29, .ifCond .eq 25, .iload 1, .invokestatic 30, .ifCond .eq 25, .aload 0, .getfield 1300, .aload 0, .dup, .getfield 1303, .dup_x1, .iconst 1, .iadd, .putfield 1303, .iload 1, .i2b, .bastore, .goto 41, .aload 0, .invokevirtual 29, .ifCond .eq 30, .aload 0, .athrow, .aload 0, .getfield 1300, .aload 0, .dup, .getfield 1303, .dup_x1, .iconst 1, .iadd, .putfield 1303, .iload 1, .athrow, .aload 0, .areturn]
def zv_31 : List (Nat × List Bool) := [(25, [true, true]), (30, [true, true]), (41, [true, false])]
/-- 32: java.lang.StringBuilder.append (C)Ljava/lang/StringBuilder; -/
def zc_32 : List Instr := [.aload 0, .iload 1, .invokevirtual 31, .pop, .aload 0, .areturn]
def zv_32 : List (Nat × List Bool) := []
/-- 33: java.lang.AbstractStringBuilder.getValue ()[B -/
def zc_33 : List Instr := [.aload 0, .getfield 1300, .areturn]
def zv_33 : List (Nat × List Bool) := []
/-- 34: java.lang.AbstractStringBuilder.length ()I -/
def zc_34 : List Instr := [.aload 0, .getfield 1303, .ireturn]
def zv_34 : List (Nat × List Bool) := []
/-- 35: java.lang.StringBuilder.length ()I -/
def zc_35 : List Instr := [.aload 0, .invokevirtual 34, .ireturn]
def zv_35 : List (Nat × List Bool) := []
/-- 36: java.util.Arrays.checkLength (II)V -/
def zc_36 : List Instr := [.iload 1, .iload 0, .if_icmp .ge 17, .athrow, .dup, .athrow, .dup, .athrow, .iload 0, .athrow, .athrow, .athrow, .iload 1, .athrow, .athrow, .athrow, .athrow, .return_]
def zv_36 : List (Nat × List Bool) := [(17, [false, false])]
/-- 37: java.util.Arrays.copyOfRangeByte ([BII)[B -/
def zc_37 : List Instr := [.iload 1, .iload 2, .invokestatic 36, .iload 2, .iload 1, .isub, .istore 3, .iload 3, .newarray .byte, .astore 4, .aload 0, .iload 1, .aload 4, .iconst 0, .aload 0, .arraylength, .iload 1, .isub, .iload 3, .invokestatic 21, .invokestatic 900, .aload 4, .areturn]
def zv_37 : List (Nat × List Bool) := []
/-- 38: java.util.Arrays.copyOfRange ([BII)[B -/
def zc_38 : List Instr := [.iload 1, .ifCond .ne 6, .iload 2, .aload 0, .arraylength, .if_icmp .eq 11, .aload 0, .iload 1, .iload 2, .invokestatic 37, .areturn, .aload 0, .invokevirtual 901, .checkcast 0, .areturn]
def zv_38 : List (Nat × List Bool) := [(6, [true, true, true]), (11, [true, false, false])]
/-- 39: java.lang.String.(new) (Ljava/lang/AbstractStringBuilder;Ljava/lang/Void;)V -/
def zc_39 : List Instr := [.aload 0, .invokespecial 902, .aload 1, .invokevirtual 33, .astore 3, .aload 1, .invokevirtual 35, .istore 4, .aload 1, .invokevirtual 29, .ifCond .eq 21, .aload 0, .iconst 0, .putfield 1401, .aload 0, .aload 3, .iconst 0, .iload 4, .invokestatic 38, .putfield 1400, .goto 50, .iconst 1, .ifCond .eq 39, .aload 1, .getfield 1302, .ifCond .eq 39, .aload 0, .aload 3, .iconst 0, .iload 4, .athrow, .putfield 1400, .aload 0, .aload 0, .getfield 1400, .iload 4, .athrow, .putfield 1401, .return_, .aload 0, .iconst 1, .putfield 1401, .aload 0, .aload 3, .iconst 0, .iload 4, .iconst 1, .ishl, .invokestatic 38, .putfield 1400, .return_]
def zv_39 : List (Nat × List Bool) := [(21, [true, true, false, true, true]), (39, [true, false, false, true, true]), (50, [false, false, false, false, false])]
/-- 40: java.lang.String.(new) (Ljava/lang/StringBuilder;)V -/
def zc_40 : List Instr := [.aload 0, .aload 1, .aconst_null, .invokespecial 39, .return_]
def zv_40 : List (Nat × List Bool) := []
/-- 41: java.lang.StringBuilder.toString ()Ljava/lang/String; -/
def zc_41 : List Instr := [.new 14, .dup, .aload 0, .invokespecial 40, .areturn]
def zv_41 : List (Nat × List Bool) := []
/-- 42: ClauseDeskLaw.name (CI)Ljava/lang/String; -/
def zc_42 : List Instr := [.new 13, .dup, .invokespecial 12, .ldc 101, .invokevirtual 28, .iload 0, .invokevirtual 32, .iconst 97, .iload 1, .iadd, .i2c, .invokevirtual 32, .invokevirtual 41, .areturn]
def zv_42 : List (Nat × List Bool) := []
/-- 43: java.lang.Integer.stringSize (I)I -/
def zc_43 : List Instr := [.iconst 1, .istore 1, .iload 0, .ifCond .lt 9, .iconst 0, .istore 1, .iload 0, .ineg, .istore 0, .iconst (-10), .istore 2, .iconst 1, .istore 3, .iload 3, .iconst 10, .if_icmp .ge 29, .iload 0, .iload 2, .if_icmp .le 23, .iload 3, .iload 1, .iadd, .ireturn, .iconst 10, .iload 2, .imul, .istore 2, .iinc 3 1, .goto 13, .iconst 10, .iload 1, .iadd, .ireturn]
def zv_43 : List (Nat × List Bool) := [(9, [true, true, false, false]), (13, [true, true, true, true]), (23, [true, true, true, true]), (29, [false, true, false, false])]
/-- 44: java.lang.Integer.getChars (II[B)I -/
def zc_44 : List Instr := [.iload 1, .istore 5, .iload 0, .ifCond .ge 6, .iconst 1, .goto 7, .iconst 0, .istore 6, .iload 6, .ifCond .ne 13, .iload 0, .ineg, .istore 0, .iload 0, .iconst (-100), .if_icmp .gt 43, .iload 0, .iconst 100, .idiv, .istore 3, .iload 3, .iconst 100, .imul, .iload 0, .isub, .istore 4, .iload 3, .istore 0, .aload 2, .iinc 5 (-1), .iload 5, .ldc 61, .iload 4, .baload, .bastore, .aload 2, .iinc 5 (-1), .iload 5, .ldc 62, .iload 4, .baload, .bastore, .goto 13, .aload 2, .iinc 5 (-1), .iload 5, .ldc 61, .iload 0, .ineg, .baload, .bastore, .iload 0, .iconst (-9), .if_icmp .ge 62, .aload 2, .iinc 5 (-1), .iload 5, .ldc 62, .iload 0, .ineg, .baload, .bastore, .iload 6, .ifCond .eq 69, .aload 2, .iinc 5 (-1), .iload 5, .iconst 45, .bastore, .iload 5, .ireturn]
def zv_44 : List (Nat × List Bool) := [(6, [true, false, true, false, false, true, false]), (7, [true, false, true, false, false, true, false]), (13, [true, false, true, false, false, true, true]), (43, [true, false, true, false, false, true, true]), (62, [false, false, true, false, false, true, true]), (69, [false, false, false, false, false, true, false])]
/-- 45: java.lang.AbstractStringBuilder.append (I)Ljava/lang/AbstractStringBuilder; -/
def zc_45 : List Instr := [.aload 0, .getfield 1303, .istore 2, .iload 2, .iload 1, .invokestatic 43, .iadd, .istore 3, .aload 0, .iload 3, .invokevirtual 23, .aload 0, .invokevirtual 29, .ifCond .eq 21, .iload 1, .iload 3, .aload 0, .getfield 1300, .invokestatic 44, .pop, .goto 28, .iload 1, .iload 2, .iload 3, .aload 0, .getfield 1300, .athrow, .pop, .aload 0, .iload 3, .putfield 1303, .aload 0, .areturn]
def zv_45 : List (Nat × List Bool) := [(21, [true, true, true, true]), (28, [true, false, false, true])]
/-- 46: java.lang.StringBuilder.append (I)Ljava/lang/StringBuilder; -/
def zc_46 : List Instr := [.aload 0, .iload 1, .invokevirtual 45, .pop, .aload 0, .areturn]
def zv_46 : List (Nat × List Bool) := []
/-- 47: ClauseDeskLaw.row (IIII)[I -/
def zc_47 : List Instr := [.iload 0, .iload 3, .iconst 1, .iadd, .invokestatic 15, .istore 4, .iload 1, .iconst 2, .if_icmp .ge 11, .iconst 0, .goto 12, .iload 4, .newarray .int, .astore 5, .iconst 0, .istore 6, .iload 6, .aload 5, .arraylength, .if_icmp .ge 47, .aload 5, .iload 6, .iload 0, .iconst 2, .iconst 3, .iload 6, .imul, .iadd, .ishr, .iload 1, .invokestatic 15, .iastore, .aload 5, .iload 6, .iaload, .iload 2, .if_icmp .ne 45, .aload 5, .iload 6, .iload 2, .iconst 1, .iadd, .iload 1, .irem, .iastore, .iinc 6 1, .goto 16, .aload 5, .areturn]
def zv_47 : List (Nat × List Bool) := [(11, [true, true, true, false, true, false, false]), (12, [true, true, true, false, false, false, false]), (16, [true, true, true, false, false, true, true]), (45, [true, true, true, false, false, true, true]), (47, [false, false, false, false, false, true, false])]
/-- 48: ClauseDeskLaw$Item.(new) ()V -/
def zc_48 : List Instr := [.aload 0, .invokespecial 902, .return_]
def zv_48 : List (Nat × List Bool) := []
/-- 49: ClauseDeskLaw.block (LClauseDeskLaw$Sim;[III)[LClauseDeskLaw$Item; -/
def zc_49 : List Instr := [.aload 1, .iload 2, .iconst 16, .irem, .invokestatic 14, .iload 2, .iconst 16, .idiv, .ishr, .iload 3, .ifCond .ne 13, .iconst 4, .goto 14, .iconst 3, .invokestatic 15, .istore 4, .iload 4, .anewarray 313, .astore 5, .iconst 0, .istore 6, .iload 6, .iload 4, .if_icmp .ge 153, .aload 1, .iload 2, .iload 6, .iadd, .iconst 16, .irem, .invokestatic 14, .iconst 2, .iload 6, .imul, .ishr, .iconst 13, .iload 2, .imul, .iadd, .iconst 7, .iload 6, .imul, .iadd, .istore 7, .new 15, .dup, .invokespecial 48, .astore 8, .aload 8, .iload 7, .iload 3, .ifCond .ne 54, .iconst 7, .goto 55, .iconst 5, .invokestatic 15, .putfield 1500, .aload 8, .iload 7, .iconst 4, .ishr, .aload 0, .getfield 1200, .invokestatic 15, .putfield 1502, .aload 8, .aload 8, .getfield 1500, .iconst 1, .if_icmp .ne 77, .iload 7, .iconst 3, .ishr, .aload 0, .getfield 1201, .invokestatic 15, .goto 96, .aload 8, .getfield 1500, .iconst 2, .if_icmp .eq 85, .aload 8, .getfield 1500, .iconst 3, .if_icmp .ne 91, .iload 7, .iconst 3, .ishr, .iconst 6, .invokestatic 15, .goto 96, .iload 7, .iconst 5, .ishr, .iconst 20, .invokestatic 15, .putfield 1501, .aload 8, .getfield 1500, .iconst 1, .if_icmp .ne 111, .aload 8, .getfield 1501, .iload 2, .aload 0, .getfield 1201, .irem, .if_icmp .ne 111, .aload 8, .iconst 0, .putfield 1500, .aload 8, .getfield 1500, .iconst 4, .if_icmp .le 147, .aload 8, .aload 0, .aload 1, .iload 2, .iconst 3, .aload 0, .getfield 1201, .imul, .iload 6, .iconst 1, .iadd, .imul, .iadd, .iconst 1, .invokestatic 49, .putfield 1503, .aload 8, .aload 0, .aload 1, .iload 2, .iconst 3, .aload 0, .getfield 1201, .imul, .iload 6, .iconst 4, .iadd, .imul, .iadd, .iconst 1, .invokestatic 49, .putfield 1504, .aload 5, .iload 6, .aload 8, .aastore, .iinc 6 1, .goto 21, .aload 5, .areturn]
def zv_49 : List (Nat × List Bool) := [(13, [true, true, true, true, false, false, false, false, false]), (14, [true, true, true, true, false, false, false, false, false]), (21, [true, true, true, true, true, true, true, false, false]), (54, [true, true, true, true, true, true, true, true, true]), (55, [true, true, true, true, true, true, true, true, true]), (77, [true, true, true, true, true, true, true, true, true]), (85, [true, true, true, true, true, true, true, true, true]), (91, [true, true, true, true, true, true, true, true, true]), (96, [true, true, true, true, true, true, true, false, true]), (111, [true, true, true, true, true, true, true, false, true]), (147, [true, true, true, true, true, true, true, false, true]), (153, [false, false, false, false, false, true, false, false, false])]
/-- 50: ClauseDeskLaw.say (Ljava/lang/StringBuilder;Ljava/lang/String;[I)V -/
def zc_50 : List Instr := [.aload 2, .astore 3, .aload 3, .arraylength, .istore 4, .iconst 0, .istore 5, .iload 5, .iload 4, .if_icmp .ge 28, .aload 3, .iload 5, .iaload, .istore 6, .aload 0, .aload 1, .invokevirtual 28, .iconst 32, .invokevirtual 32, .iconst 99, .iload 6, .invokestatic 42, .invokevirtual 28, .iconst 32, .invokevirtual 32, .pop, .iinc 5 1, .goto 7, .return_]
def zv_50 : List (Nat × List Bool) := [(7, [true, true, false, true, true, true, false]), (28, [false, false, false, false, false, false, false])]
/-- 51: ClauseDeskLaw.say (Ljava/lang/StringBuilder;LClauseDeskLaw$Sim;[LClauseDeskLaw$Item;[I)V -/
def zc_51 : List Instr := [.aload 0, .ldc 111, .invokevirtual 28, .pop, .aload 2, .astore 4, .aload 4, .arraylength, .istore 5, .iconst 0, .istore 6, .iload 6, .iload 5, .if_icmp .ge 185, .aload 4, .iload 6, .aaload, .astore 7, .aload 7, .getfield 1500, .iconst 2, .if_icmp .eq 26, .aload 7, .getfield 1500, .iconst 3, .if_icmp .ne 72, .aload 7, .getfield 1501, .istore 8, .aload 3, .iload 8, .iaload, .ifCond .ge 50, .aload 3, .iload 8, .aload 1, .getfield 1202, .iastore, .aload 1, .getfield 1214, .aload 1, .getfield 1202, .iload 8, .iastore, .aload 1, .dup, .getfield 1202, .iconst 1, .iadd, .putfield 1202, .aload 7, .aload 3, .iload 8, .iaload, .putfield 1501, .aload 0, .aload 7, .getfield 1500, .iconst 2, .if_icmp .ne 62, .ldc 112, .goto 63, .ldc 113, .invokevirtual 28, .iconst 116, .iload 8, .invokestatic 42, .invokevirtual 28, .iconst 32, .invokevirtual 32, .pop, .goto 183, .aload 7, .getfield 1500, .ifCond .ne 85, .aload 0, .ldc 114, .invokevirtual 28, .aload 7, .getfield 1501, .invokevirtual 46, .ldc 115, .invokevirtual 28, .pop, .goto 183, .aload 7, .getfield 1500, .iconst 1, .if_icmp .ne 101, .aload 0, .ldc 116, .invokevirtual 28, .iconst 99, .aload 7, .getfield 1501, .invokestatic 42, .invokevirtual 28, .iconst 32, .invokevirtual 32, .pop, .goto 183, .aload 7, .getfield 1500, .iconst 4, .if_icmp .ne 122, .aload 0, .ldc 117, .invokevirtual 28, .iconst 102, .aload 7, .getfield 1502, .invokestatic 42, .invokevirtual 28, .ldc 118, .invokevirtual 28, .aload 7, .getfield 1501, .invokevirtual 46, .ldc 103, .invokevirtual 28, .pop, .goto 183, .aload 7, .getfield 1500, .iconst 5, .if_icmp .ne 159, .aload 0, .ldc 119, .invokevirtual 28, .iconst 102, .aload 7, .getfield 1502, .invokestatic 42, .invokevirtual 28, .iconst 62, .invokevirtual 32, .aload 7, .getfield 1501, .invokevirtual 46, .iconst 32, .invokevirtual 32, .pop, .aload 0, .aload 1, .aload 7, .getfield 1503, .aload 3, .invokestatic 51, .aload 0, .ldc 120, .invokevirtual 28, .pop, .aload 0, .aload 1, .aload 7, .getfield 1504, .aload 3, .invokestatic 51, .goto 183, .aload 0, .ldc 121, .invokevirtual 28, .pop, .aload 0, .aload 1, .aload 7, .getfield 1503, .aload 3, .invokestatic 51, .aload 0, .ldc 122, .invokevirtual 28, .pop, .aload 0, .aload 1, .aload 7, .getfield 1504, .aload 3, .invokestatic 51, .aload 0, .ldc 123, .invokevirtual 28, .pop, .iinc 6 1, .goto 11, .aload 0, .ldc 123, .invokevirtual 28, .pop, .return_]
def zv_51 : List (Nat × List Bool) := [(11, [true, true, false, true, true, true, true, false, false]), (26, [true, true, false, true, true, true, true, true, false]), (50, [true, true, false, true, true, true, true, true, true]), (62, [true, true, false, true, true, true, true, false, true]), (63, [true, true, false, true, true, true, true, false, true]), (72, [true, true, false, true, true, true, true, true, false]), (85, [true, true, false, true, true, true, true, true, false]), (101, [true, true, false, true, true, true, true, true, false]), (122, [true, true, false, true, true, true, true, true, false]), (159, [true, true, false, true, true, true, true, true, false]), (183, [true, true, false, true, true, true, true, false, false]), (185, [true, false, false, false, false, false, false, false, false])]
/-- 52: ClauseDeskLaw.sim ([IILjava/lang/StringBuilder;)LClauseDeskLaw$Sim; -/
def zc_52 : List Instr := [.new 12, .dup, .invokespecial 13, .astore 3, .aload 3, .iconst 1, .aload 0, .iconst 0, .invokestatic 14, .iconst 3, .invokestatic 15, .iadd, .putfield 1200, .aload 3, .iconst 1, .aload 0, .iconst 1, .invokestatic 14, .iload 1, .invokestatic 15, .iadd, .putfield 1201, .aload 3, .getfield 1201, .istore 4, .aload 3, .aload 3, .getfield 1200, .newarray .int, .putfield 1203, .iconst 0, .istore 5, .iload 5, .aload 3, .getfield 1200, .if_icmp .ge 68, .aload 3, .getfield 1203, .iload 5, .aload 0, .iconst 2, .invokestatic 14, .iconst 4, .iload 5, .imul, .ishr, .iconst 20, .invokestatic 15, .iastore, .aload 2, .ldc 100, .invokevirtual 28, .iconst 102, .iload 5, .invokestatic 42, .invokevirtual 28, .ldc 102, .invokevirtual 28, .aload 3, .getfield 1203, .iload 5, .iaload, .invokevirtual 46, .ldc 103, .invokevirtual 28, .pop, .iinc 5 1, .goto 32, .aload 3, .iload 4, .newarray .int, .putfield 1204, .aload 3, .iload 4, .newarray .int, .putfield 1205, .aload 3, .iload 4, .newarray .boolean, .putfield 1206, .aload 3, .iload 4, .newarray .int, .putfield 1207, .aload 3, .iload 4, .newarray .int, .putfield 1208, .aload 3, .iload 4, .anewarray 314, .putfield 1209, .aload 3, .iload 4, .anewarray 314, .putfield 1210, .aload 3, .iload 4, .anewarray 314, .putfield 1211, .aload 3, .iload 4, .anewarray 315, .putfield 1212, .aload 3, .iload 4, .newarray .int, .putfield 1213, .iconst 6, .newarray .int, .dup, .iconst 0, .iconst (-1), .iastore, .dup, .iconst 1, .iconst (-1), .iastore, .dup, .iconst 2, .iconst (-1), .iastore, .dup, .iconst 3, .iconst (-1), .iastore, .dup, .iconst 4, .iconst (-1), .iastore, .dup, .iconst 5, .iconst (-1), .iastore, .astore 5, .iconst 0, .istore 6, .iload 6, .iload 4, .if_icmp .ge 364, .aload 0, .iconst 3, .iload 6, .iconst 5, .irem, .iadd, .invokestatic 14, .iload 6, .ishr, .iconst 29, .iload 6, .imul, .iadd, .istore 7, .aload 3, .getfield 1213, .iload 6, .iconst (-1), .iastore, .aload 3, .getfield 1204, .iload 6, .iload 7, .iconst 2, .invokestatic 15, .ifCond .ne 168, .iconst (-1), .goto 174, .iload 7, .iconst 2, .ishr, .aload 3, .getfield 1200, .invokestatic 15, .iastore, .aload 3, .getfield 1205, .iload 6, .iload 7, .iconst 4, .ishr, .iconst 20, .invokestatic 15, .iastore, .aload 3, .getfield 1206, .iload 6, .iload 7, .iconst 3, .ishr, .iconst 3, .invokestatic 15, .ifCond .ne 195, .iconst 1, .goto 196, .iconst 0, .castore, .aload 3, .getfield 1207, .iload 6, .iload 7, .iconst 5, .ishr, .iconst 30, .invokestatic 15, .iastore, .aload 3, .getfield 1208, .iload 6, .iload 7, .iconst 6, .ishr, .iconst 30, .invokestatic 15, .iastore, .aload 3, .getfield 1209, .iload 6, .aload 0, .iconst 8, .invokestatic 14, .iload 6, .ishr, .iconst 3, .iload 6, .imul, .iadd, .iload 4, .iload 6, .iconst 2, .invokestatic 47, .aastore, .aload 3, .getfield 1210, .iload 6, .aload 0, .iconst 9, .invokestatic 14, .iload 6, .ishr, .iconst 5, .iload 6, .imul, .iadd, .iload 4, .iload 6, .iconst 1, .invokestatic 47, .aastore, .aload 3, .getfield 1211, .iload 6, .aload 0, .iconst 10, .invokestatic 14, .iload 6, .ishr, .iconst 7, .iload 6, .imul, .iadd, .iload 4, .iload 6, .iconst 2, .invokestatic 47, .aastore, .aload 3, .getfield 1212, .iload 6, .aload 3, .aload 0, .iload 6, .iconst 0, .invokestatic 49, .aastore, .aload 2, .ldc 104, .invokevirtual 28, .iconst 99, .iload 6, .invokestatic 42, .invokevirtual 28, .iconst 32, .invokevirtual 32, .pop, .aload 3, .getfield 1204, .iload 6, .iaload, .ifCond .lt 310, .aload 2, .ldc 105, .invokevirtual 28, .iconst 102, .aload 3, .getfield 1204, .iload 6, .iaload, .invokestatic 42, .invokevirtual 28, .ldc 106, .invokevirtual 28, .aload 3, .getfield 1205, .iload 6, .iaload, .invokevirtual 46, .iconst 32, .invokevirtual 32, .pop, .aload 3, .getfield 1206, .iload 6, .baload, .ifCond .eq 333, .aload 2, .ldc 107, .invokevirtual 28, .aload 3, .getfield 1207, .iload 6, .iaload, .invokevirtual 46, .iconst 32, .invokevirtual 32, .aload 3, .getfield 1208, .iload 6, .iaload, .invokevirtual 46, .iconst 32, .invokevirtual 32, .pop, .aload 2, .ldc 108, .aload 3, .getfield 1209, .iload 6, .aaload, .invokestatic 50, .aload 2, .ldc 109, .aload 3, .getfield 1210, .iload 6, .aaload, .invokestatic 50, .aload 2, .ldc 110, .aload 3, .getfield 1211, .iload 6, .aaload, .invokestatic 50, .aload 2, .aload 3, .aload 3, .getfield 1212, .iload 6, .aaload, .aload 5, .invokestatic 51, .iinc 6 1, .goto 137, .aload 3, .areturn]
def zv_52 : List (Nat × List Bool) := [(32, [true, false, true, true, true, true, false, false]), (68, [true, false, true, true, true, false, false, false]), (137, [true, false, true, true, true, true, true, false]), (168, [true, false, true, true, true, true, true, true]), (174, [true, false, true, true, true, true, true, true]), (195, [true, false, true, true, true, true, true, true]), (196, [true, false, true, true, true, true, true, true]), (310, [true, false, true, true, true, true, true, false]), (333, [true, false, true, true, true, true, true, false]), (364, [false, false, false, true, false, false, false, false])]
/-- 53: jdk.internal.util.Preconditions.checkIndex (IILjava/util/function/BiFunction;)I -/
def zc_53 : List Instr := [.iload 0, .ifCond .lt 5, .iload 0, .iload 1, .if_icmp .lt 10, .aload 2, .iload 0, .iload 1, .athrow, .athrow, .iload 0, .ireturn]
def zv_53 : List (Nat × List Bool) := [(5, [true, true, true]), (10, [true, false, false])]
/-- 54: java.lang.String.checkIndex (II)V -/
def zc_54 : List Instr := [.iload 0, .iload 1, .ldc 70, .invokestatic 53, .pop, .return_]
def zv_54 : List (Nat × List Bool) := []
/-- 55: java.lang.AbstractStringBuilder.charAt (I)C -/
def zc_55 : List Instr := [.aload 0, .getfield 1301, .istore 2, .aload 0, .getfield 1300, .astore 3, .aload 0, .getfield 1303, .aload 3, .arraylength, .iload 2, .ishr, .invokestatic 21, .istore 4, .iload 1, .iload 4, .invokestatic 54, .iload 2, .ifCond .ne 26, .aload 3, .iload 1, .baload, .iconst 255, .iand, .i2c, .ireturn, .aload 3, .iload 1, .athrow, .ireturn]
def zv_55 : List (Nat × List Bool) := [(26, [false, true, false, true, false])]
/-- 56: java.lang.StringBuilder.charAt (I)C -/
def zc_56 : List Instr := [.aload 0, .iload 1, .invokevirtual 55, .ireturn]
def zv_56 : List (Nat × List Bool) := []
/-- 57: ClauseDeskLaw.isShort (Ljava/lang/StringBuilder;)Z -/
def zc_57 : List Instr := [.iconst 0, .istore 1, .iconst 0, .istore 2, .iconst 0, .istore 3, .iload 3, .aload 0, .invokevirtual 35, .if_icmp .ge 107, .aload 0, .iload 3, .invokevirtual 56, .istore 4, .iload 4, .iconst 39, .if_icmp .ne 32, .iload 2, .ifCond .ne 21, .iconst 1, .goto 22, .iconst 0, .istore 2, .iload 1, .iload 2, .ifCond .eq 28, .iconst 1, .goto 29, .iconst 0, .iadd, .istore 1, .goto 105, .iload 2, .ifCond .ne 105, .iload 4, .iconst 32, .if_icmp .ne 38, .goto 105, .iload 4, .iconst 97, .if_icmp .lt 44, .iload 4, .iconst 122, .if_icmp .le 52, .iload 4, .iconst 48, .if_icmp .lt 50, .iload 4, .iconst 57, .if_icmp .le 52, .iconst 1, .goto 53, .iconst 0, .istore 5, .iload 3, .ifCond .le 93, .aload 0, .iload 3, .iconst 1, .isub, .invokevirtual 56, .iconst 32, .if_icmp .eq 93, .aload 0, .iload 3, .iconst 1, .isub, .invokevirtual 56, .iconst 97, .if_icmp .lt 77, .aload 0, .iload 3, .iconst 1, .isub, .invokevirtual 56, .iconst 122, .if_icmp .le 91, .aload 0, .iload 3, .iconst 1, .isub, .invokevirtual 56, .iconst 48, .if_icmp .lt 93, .aload 0, .iload 3, .iconst 1, .isub, .invokevirtual 56, .iconst 57, .if_icmp .gt 93, .iconst 1, .goto 94, .iconst 0, .istore 6, .iload 1, .iload 5, .ifCond .ne 100, .iload 6, .ifCond .ne 102, .iconst 1, .goto 103, .iconst 0, .iadd, .istore 1, .iinc 3 1, .goto 6, .iload 1, .iconst 600, .if_icmp .gt 116, .aload 0, .invokevirtual 35, .iconst 2980, .if_icmp .gt 116, .iconst 1, .goto 117, .iconst 0, .ireturn]
def zv_57 : List (Nat × List Bool) := [(6, [true, true, true, true, false, false, false]), (21, [true, true, false, true, false, false, false]), (22, [true, true, false, true, false, false, false]), (28, [true, false, true, true, false, false, false]), (29, [true, false, true, true, false, false, false]), (32, [true, true, true, true, true, false, false]), (38, [true, true, true, true, true, false, false]), (44, [true, true, true, true, true, false, false]), (50, [true, true, true, true, false, false, false]), (52, [true, true, true, true, false, false, false]), (53, [true, true, true, true, false, false, false]), (77, [true, true, true, true, false, true, false]), (91, [true, true, true, true, false, true, false]), (93, [true, true, true, true, false, true, false]), (94, [true, true, true, true, false, true, false]), (100, [true, false, true, true, false, false, false]), (102, [true, false, true, true, false, false, false]), (103, [true, false, true, true, false, false, false]), (105, [true, true, true, true, false, false, false]), (107, [true, true, false, false, false, false, false]), (116, [false, false, false, false, false, false, false]), (117, [false, false, false, false, false, false, false])]
/-- 58: java.lang.String.isLatin1 ()Z -/
def zc_58 : List Instr := [.iconst 1, .ifCond .eq 7, .aload 0, .getfield 1401, .ifCond .ne 7, .iconst 1, .goto 8, .iconst 0, .ireturn]
def zv_58 : List (Nat × List Bool) := [(7, [false]), (8, [false])]
/-- 59: java.lang.StringLatin1.charAt ([BI)C -/
def zc_59 : List Instr := [.iload 1, .aload 0, .arraylength, .invokestatic 54, .aload 0, .iload 1, .baload, .iconst 255, .iand, .i2c, .ireturn]
def zv_59 : List (Nat × List Bool) := []
/-- 60: java.lang.String.charAt (I)C -/
def zc_60 : List Instr := [.aload 0, .invokevirtual 58, .ifCond .eq 8, .aload 0, .getfield 1400, .iload 1, .invokestatic 59, .ireturn, .aload 0, .getfield 1400, .iload 1, .athrow, .ireturn]
def zv_60 : List (Nat × List Bool) := [(8, [true, true])]
/-- 61: ClauseDesk.append (I)V -/
def zc_61 : List Instr := [.iconst 24, .istore 2, .iload 2, .ifCond .lt 25, .aload 0, .getfield 101, .iconst 3000, .if_icmp .ge 23, .aload 0, .getfield 100, .aload 0, .getfield 101, .iload 1, .iload 2, .ishr, .i2b, .bastore, .aload 0, .dup, .getfield 101, .iconst 1, .iadd, .putfield 101, .iinc 2 (-8), .goto 2, .return_]
def zv_61 : List (Nat × List Bool) := [(2, [true, true, true]), (23, [true, true, true]), (25, [false, false, false])]
/-- 62: ClauseDesk.feed (IIIII)I -/
def zc_62 : List Instr := [.aload 0, .getfield 101, .iconst 20, .iadd, .iconst 3000, .if_icmp .le 10, .athrow, .dup, .athrow, .athrow, .aload 0, .iload 1, .invokevirtual 61, .aload 0, .iload 2, .invokevirtual 61, .aload 0, .iload 3, .invokevirtual 61, .aload 0, .iload 4, .invokevirtual 61, .aload 0, .iload 5, .invokevirtual 61, .aload 0, .getfield 101, .ireturn]
def zv_62 : List (Nat × List Bool) := [(10, [true, true, true, true, true, true])]
/-- 63: ClauseDesk.trim (I)I -/
def zc_63 : List Instr := [.iload 1, .ifCond .lt 6, .iload 1, .aload 0, .getfield 101, .if_icmp .le 10, .athrow, .dup, .athrow, .athrow, .aload 0, .iload 1, .putfield 101, .iload 1, .ireturn]
def zv_63 : List (Nat × List Bool) := [(6, [false, false]), (10, [true, true])]
/-- 64: ClauseDesk$Tokens.signAt (I)I -/
def zc_64 : List Instr := [.iload 1, .ifCond .lt 6, .iload 1, .aload 0, .getfield 401, .if_icmp .lt 8, .iconst (-1), .goto 14, .aload 0, .getfield 400, .iload 1, .baload, .iconst 255, .iand, .ireturn]
def zv_64 : List (Nat × List Bool) := [(6, [false, false]), (8, [true, true]), (14, [false, false])]
/-- 65: ClauseDesk$Tokens.pastBlanks (I)I -/
def zc_65 : List Instr := [.iload 1, .istore 2, .iconst 0, .istore 3, .iload 3, .iconst 3000, .if_icmp .ge 20, .aload 0, .iload 2, .invokevirtual 64, .iconst 32, .if_icmp .eq 17, .aload 0, .iload 2, .invokevirtual 64, .iconst 10, .if_icmp .ne 20, .iinc 2 1, .iinc 3 1, .goto 4, .iload 2, .ireturn]
def zv_65 : List (Nat × List Bool) := [(4, [true, false, true, true]), (17, [true, false, true, true]), (20, [false, false, true, false])]
/-- 66: ClauseDesk$Tokens.isLetter (I)Z -/
def zc_66 : List Instr := [.iload 0, .iconst 97, .if_icmp .lt 8, .iload 0, .iconst 122, .if_icmp .gt 8, .iconst 1, .goto 9, .iconst 0, .ireturn]
def zv_66 : List (Nat × List Bool) := [(8, [false]), (9, [false])]
/-- 67: ClauseDesk$Tokens.isDigit (I)Z -/
def zc_67 : List Instr := [.iload 0, .iconst 48, .if_icmp .lt 8, .iload 0, .iconst 57, .if_icmp .gt 8, .iconst 1, .goto 9, .iconst 0, .ireturn]
def zv_67 : List (Nat × List Bool) := [(8, [false]), (9, [false])]
/-- 68: ClauseDesk$Tokens.wordLength (I)I -/
def zc_68 : List Instr := [.iconst 0, .istore 2, .iconst 0, .istore 3, .iload 3, .iconst 3000, .if_icmp .ge 24, .aload 0, .iload 1, .iload 3, .iadd, .invokevirtual 64, .invokestatic 66, .ifCond .ne 21, .aload 0, .iload 1, .iload 3, .iadd, .invokevirtual 64, .invokestatic 67, .ifCond .eq 24, .iinc 2 1, .iinc 3 1, .goto 4, .iload 2, .ireturn]
def zv_68 : List (Nat × List Bool) := [(4, [true, true, true, true]), (21, [true, true, true, true]), (24, [false, false, true, false])]
/-- 69: ClauseDesk$Tokens.numberLength (I)I -/
def zc_69 : List Instr := [.iconst 0, .istore 2, .iconst 0, .istore 3, .iload 3, .iconst 3000, .if_icmp .ge 17, .aload 0, .iload 1, .iload 3, .iadd, .invokevirtual 64, .invokestatic 67, .ifCond .eq 17, .iinc 2 1, .iinc 3 1, .goto 4, .iload 2, .ireturn]
def zv_69 : List (Nat × List Bool) := [(4, [true, true, true, true]), (17, [false, false, true, false])]
/-- 70: ClauseDesk$Tokens.stringLength (I)I -/
def zc_70 : List Instr := [.iconst 1, .istore 2, .iload 2, .iconst 41, .if_icmp .gt 33, .aload 0, .iload 1, .iload 2, .iadd, .invokevirtual 64, .istore 3, .iload 3, .iconst 39, .if_icmp .ne 23, .iload 2, .iconst 1, .if_icmp .ne 19, .iconst 0, .goto 22, .iload 2, .iconst 1, .iadd, .ireturn, .iload 3, .iconst 32, .if_icmp .lt 29, .iload 3, .iconst 126, .if_icmp .le 31, .iconst 0, .ireturn, .iinc 2 1, .goto 2, .iconst 0, .ireturn]
def zv_70 : List (Nat × List Bool) := [(2, [true, true, true, false]), (19, [false, false, true, false]), (22, [false, false, false, false]), (23, [true, true, true, true]), (29, [false, false, false, false]), (31, [true, true, true, false]), (33, [false, false, false, false])]
/-- 71: ClauseDesk$Tokens.lengthAt (I)I -/
def zc_71 : List Instr := [.aload 0, .iload 1, .invokevirtual 64, .istore 2, .iload 2, .invokestatic 66, .ifCond .eq 11, .aload 0, .iload 1, .invokevirtual 68, .ireturn, .iload 2, .invokestatic 67, .ifCond .eq 18, .aload 0, .iload 1, .invokevirtual 69, .ireturn, .iload 2, .iconst 39, .if_icmp .ne 25, .aload 0, .iload 1, .invokevirtual 70, .ireturn, .iload 2, .iconst 60, .if_icmp .eq 31, .iload 2, .iconst 62, .if_icmp .ne 40, .aload 0, .iload 1, .iconst 1, .iadd, .invokevirtual 64, .iconst 61, .if_icmp .ne 40, .iconst 1, .goto 41, .iconst 0, .istore 3, .iload 3, .ifCond .eq 46, .iconst 2, .goto 47, .iconst 1, .ireturn]
def zv_71 : List (Nat × List Bool) := [(11, [true, true, true, false]), (18, [true, true, true, false]), (25, [true, true, true, false]), (31, [true, true, false, false]), (40, [false, false, false, false]), (41, [false, false, false, false]), (46, [false, false, false, false]), (47, [false, false, false, false])]
/-- 72: ClauseDesk$Tokens.isWritten (Ljava/lang/String;I)Z -/
def zc_72 : List Instr := [.iconst 0, .istore 3, .iload 3, .aload 1, .invokevirtual 17, .if_icmp .ge 19, .aload 1, .iload 3, .invokevirtual 60, .aload 0, .iload 2, .iload 3, .iadd, .invokevirtual 64, .if_icmp .eq 17, .iconst 0, .ireturn, .iinc 3 1, .goto 2, .iconst 1, .ireturn]
def zv_72 : List (Nat × List Bool) := [(2, [true, true, true, true]), (17, [true, true, true, true]), (19, [false, false, false, false])]
/-- 73: ClauseDesk$Tokens.kindWritten (IILClauseDesk$Kind;)LClauseDesk$Kind; -/
def zc_73 : List Instr := [.ldc 44, .astore 4, .aload 4, .arraylength, .istore 5, .iconst 0, .istore 6, .iload 6, .iload 5, .if_icmp .ge 29, .aload 4, .iload 6, .aaload, .astore 7, .aload 7, .getfield 1601, .invokevirtual 17, .iload 2, .if_icmp .ne 27, .aload 0, .aload 7, .getfield 1601, .iload 1, .invokevirtual 72, .ifCond .eq 27, .aload 7, .areturn, .iinc 6 1, .goto 7, .aload 3, .areturn]
def zv_73 : List (Nat × List Bool) := [(7, [true, true, true, true, true, true, true, false]), (27, [true, true, true, true, true, true, true, false]), (29, [false, false, false, true, false, false, false, false])]
/-- 74: ClauseDesk$Tokens.kindOf (II)LClauseDesk$Kind; -/
def zc_74 : List Instr := [.aload 0, .iload 1, .invokevirtual 64, .istore 3, .iload 3, .ifCond .ge 8, .ldc 41, .areturn, .iload 3, .invokestatic 66, .ifCond .eq 22, .iload 2, .iconst 10, .if_icmp .le 16, .ldc 42, .goto 21, .aload 0, .iload 1, .iload 2, .ldc 38, .invokevirtual 73, .areturn, .iload 3, .invokestatic 67, .ifCond .eq 32, .iload 2, .iconst 5, .if_icmp .le 30, .ldc 42, .goto 31, .ldc 39, .areturn, .iload 3, .iconst 39, .if_icmp .ne 41, .iload 2, .ifCond .ne 39, .ldc 42, .goto 40, .ldc 40, .areturn, .aload 0, .iload 1, .iload 2, .ldc 42, .invokevirtual 73, .areturn]
def zv_74 : List (Nat × List Bool) := [(8, [true, true, true, true]), (16, [true, true, true, false]), (21, [false, false, false, false]), (22, [true, true, true, true]), (30, [false, false, false, false]), (31, [false, false, false, false]), (32, [true, true, true, true]), (39, [false, false, false, false]), (40, [false, false, false, false]), (41, [true, true, true, false])]
/-- 75: ClauseDesk$Tokens.valueOf (II)I -/
def zc_75 : List Instr := [.iconst 0, .istore 3, .iconst 0, .istore 4, .iload 4, .iload 2, .if_icmp .ge 24, .iload 4, .iconst 5, .if_icmp .ge 24, .iload 3, .iconst 10, .imul, .aload 0, .iload 1, .iload 4, .iadd, .invokevirtual 64, .iadd, .iconst 48, .isub, .istore 3, .iinc 4 1, .goto 4, .iload 3, .ireturn]
def zv_75 : List (Nat × List Bool) := [(4, [true, true, true, true, true]), (24, [false, false, false, true, false])]
/-- 76: ClauseDesk$Tokens.read ([BI)V -/
def zc_76 : List Instr := [.aload 0, .iconst 0, .iload 2, .aload 1, .arraylength, .iconst 3000, .invokestatic 21, .invokestatic 21, .invokestatic 18, .putfield 401, .aload 1, .iconst 0, .aload 0, .getfield 400, .iconst 0, .aload 0, .getfield 401, .invokestatic 900, .aload 0, .iconst 0, .putfield 406, .iconst 0, .istore 3, .iconst 0, .istore 4, .iconst 0, .istore 5, .iload 5, .iconst 600, .if_icmp .gt 103, .iload 4, .ifCond .ne 103, .aload 0, .iload 3, .invokevirtual 65, .istore 3, .aload 0, .iload 3, .invokevirtual 71, .istore 6, .iload 5, .iconst 600, .if_icmp .ne 49, .iload 3, .aload 0, .getfield 401, .if_icmp .ge 49, .ldc 42, .goto 53, .aload 0, .iload 3, .iload 6, .invokevirtual 74, .astore 7, .aload 0, .getfield 402, .iload 5, .aload 7, .aastore, .aload 0, .getfield 403, .iload 5, .iload 3, .iastore, .aload 0, .getfield 404, .iload 5, .iload 6, .iastore, .aload 0, .getfield 405, .iload 5, .aload 7, .ldc 39, .if_acmp .ne 80, .aload 0, .iload 3, .iload 6, .invokevirtual 75, .goto 81, .iconst 0, .iastore, .aload 0, .iload 5, .iconst 1, .iadd, .putfield 406, .aload 7, .ldc 41, .if_acmp .eq 93, .aload 7, .ldc 42, .if_acmp .ne 95, .iconst 1, .goto 96, .iconst 0, .istore 4, .iload 3, .iload 6, .iadd, .istore 3, .iinc 5 1, .goto 27, .return_]
def zv_76 : List (Nat × List Bool) := [(27, [true, false, false, true, true, true, false, false]), (49, [true, false, false, true, false, true, true, false]), (53, [true, false, false, true, false, true, true, false]), (80, [true, false, false, true, false, true, true, true]), (81, [true, false, false, true, false, true, true, true]), (93, [true, false, false, true, false, true, true, false]), (95, [true, false, false, true, false, true, true, false]), (96, [true, false, false, true, false, true, true, false]), (103, [false, false, false, false, false, false, false, false])]
/-- 77: ClauseDesk$Library.open ([BI)V -/
def zc_77 : List Instr := [.aload 0, .iconst 0, .putfield 207, .aload 0, .iconst 0, .putfield 208, .aload 0, .iconst 0, .putfield 209, .aload 0, .iconst 0, .putfield 210, .aload 0, .iconst 0, .putfield 211, .aload 0, .getfield 201, .aload 1, .iload 2, .invokevirtual 76, .return_]
def zv_77 : List (Nat × List Bool) := []
/-- 78: ClauseDesk$Code.clear ()V -/
def zc_78 : List Instr := [.aload 0, .iconst 0, .putfield 502, .return_]
def zv_78 : List (Nat × List Bool) := []
/-- 79: ClauseDesk$Tokens.kindAt (I)LClauseDesk$Kind; -/
def zc_79 : List Instr := [.iload 1, .ifCond .lt 11, .iload 1, .aload 0, .getfield 406, .if_icmp .ge 11, .aload 0, .getfield 402, .iload 1, .aaload, .ifnonnull 13, .ldc 42, .areturn, .aload 0, .getfield 402, .iload 1, .aaload, .areturn]
def zv_79 : List (Nat × List Bool) := [(11, [false, false]), (13, [true, true])]
/-- 80: ClauseDesk$Grammar.has (LClauseDesk$Kind;)Z -/
def zc_80 : List Instr := [.aload 0, .getfield 300, .aload 0, .getfield 305, .invokevirtual 79, .aload 1, .if_acmp .ne 9, .iconst 1, .goto 10, .iconst 0, .ireturn]
def zv_80 : List (Nat × List Bool) := [(9, [false, false]), (10, [false, false])]
/-- 81: ClauseDesk$Grammar.take (LClauseDesk$Kind;)Z -/
def zc_81 : List Instr := [.aload 0, .getfield 300, .aload 0, .getfield 305, .invokevirtual 79, .aload 1, .if_acmp .eq 9, .iconst 0, .ireturn, .aload 0, .dup, .getfield 305, .iconst 1, .iadd, .putfield 305, .iconst 1, .ireturn]
def zv_81 : List (Nat × List Bool) := [(9, [true, false])]
/-- 82: ClauseDesk$Grammar.tellsFact ()Z -/
def zc_82 : List Instr := [.aload 0, .ldc 1, .invokevirtual 81, .ifCond .eq 22, .aload 0, .ldc 38, .invokevirtual 81, .ifCond .eq 22, .aload 0, .ldc 35, .invokevirtual 81, .ifCond .eq 22, .aload 0, .ldc 39, .invokevirtual 81, .ifCond .eq 22, .aload 0, .ldc 27, .invokevirtual 81, .ifCond .eq 22, .iconst 1, .goto 23, .iconst 0, .ireturn]
def zv_82 : List (Nat × List Bool) := [(22, [false]), (23, [false])]
/-- 83: ClauseDesk$Clause.clear ()V -/
def zc_83 : List Instr := [.aload 0, .iconst 0, .putfield 600, .aload 0, .iconst 0, .putfield 601, .aload 0, .iconst 0, .putfield 602, .aload 0, .iconst 0, .putfield 603, .aload 0, .iconst 0, .putfield 604, .return_]
def zv_83 : List (Nat × List Bool) := []
/-- 84: ClauseDesk$Grammar.enter (LClauseDesk$Kind;I)Z -/
def zc_84 : List Instr := [.iload 2, .iconst 8, .if_icmp .ge 10, .aload 0, .getfield 300, .aload 0, .getfield 305, .invokevirtual 79, .aload 1, .if_acmp .eq 12, .iconst 0, .ireturn, .aload 0, .dup, .getfield 305, .iconst 1, .iadd, .putfield 305, .iconst 1, .ireturn]
def zv_84 : List (Nat × List Bool) := [(10, [false, false, false]), (12, [true, false, false])]
/-- 85: ClauseDesk$Code.add (LClauseDesk$Kind;I)I -/
def zc_85 : List Instr := [.aload 0, .getfield 502, .istore 3, .iload 3, .iconst 600, .if_icmp .ge 22, .aload 0, .getfield 500, .iload 3, .aload 1, .aastore, .aload 0, .getfield 501, .iload 3, .iload 2, .iastore, .aload 0, .dup, .getfield 502, .iconst 1, .iadd, .putfield 502, .iload 3, .ireturn]
def zv_85 : List (Nat × List Bool) := [(22, [false, false, false, true])]
/-- 86: ClauseDesk$Grammar.here ()LClauseDesk$Kind; -/
def zc_86 : List Instr := [.aload 0, .getfield 300, .aload 0, .getfield 305, .invokevirtual 79, .areturn]
def zv_86 : List (Nat × List Bool) := []
/-- 87: java.lang.Enum.ordinal ()I -/
def zc_87 : List Instr := [.aload 0, .getfield 1600, .ireturn]
def zv_87 : List (Nat × List Bool) := []
/-- 88: ClauseDesk$Grammar.ofTwo (LClauseDesk$Kind;I)Z -/
def zc_88 : List Instr := [.aload 0, .ldc 23, .iload 2, .invokevirtual 84, .ifCond .eq 23, .aload 0, .iload 2, .iconst 1, .iadd, .invokevirtual 91, .ifCond .eq 23, .aload 0, .ldc 28, .invokevirtual 81, .ifCond .eq 23, .aload 0, .iload 2, .iconst 1, .iadd, .invokevirtual 91, .ifCond .eq 23, .iconst 1, .goto 24, .iconst 0, .istore 3, .aload 0, .getfield 301, .aload 1, .iconst 0, .invokevirtual 85, .pop, .iload 3, .ifCond .eq 39, .aload 0, .ldc 24, .invokevirtual 81, .ifCond .eq 39, .iconst 1, .goto 40, .iconst 0, .ireturn]
def zv_88 : List (Nat × List Bool) := [(23, [true, true, false, false]), (24, [true, true, false, false]), (39, [false, false, false, false]), (40, [false, false, false, false])]
/-- 89: ClauseDesk$Grammar.value (I)Z -/
def zc_89 : List Instr := [.aload 0, .invokevirtual 86, .astore 2, .ldc 45, .aload 2, .invokevirtual 87, .iaload, .tableswitch 74 8 13 #[8, 8, 19, 42, 61, 61], .aload 0, .getfield 301, .aload 2, .aload 0, .getfield 305, .invokevirtual 85, .pop, .aload 0, .aload 2, .invokevirtual 81, .ireturn, .aload 0, .aload 2, .iload 1, .invokevirtual 84, .ifCond .eq 32, .aload 0, .iload 1, .iconst 1, .iadd, .invokevirtual 89, .ifCond .eq 32, .iconst 1, .goto 33, .iconst 0, .istore 3, .aload 0, .getfield 301, .ldc 43, .iconst 0, .invokevirtual 85, .pop, .iload 3, .ireturn, .aload 0, .aload 2, .iload 1, .invokevirtual 84, .ifCond .eq 59, .aload 0, .iload 1, .iconst 1, .iadd, .invokevirtual 91, .ifCond .eq 59, .aload 0, .ldc 24, .invokevirtual 81, .ifCond .eq 59, .iconst 1, .goto 60, .iconst 0, .ireturn, .aload 0, .aload 2, .invokevirtual 81, .ifCond .eq 72, .aload 0, .aload 2, .iload 1, .invokevirtual 88, .ifCond .eq 72, .iconst 1, .goto 73, .iconst 0, .ireturn, .iconst 0, .ireturn]
def zv_89 : List (Nat × List Bool) := [(8, [true, false, true, false]), (19, [true, true, true, false]), (32, [true, false, false, false]), (33, [true, false, false, false]), (42, [true, true, true, false]), (59, [false, false, false, false]), (60, [false, false, false, false]), (61, [true, true, true, false]), (72, [false, false, false, false]), (73, [false, false, false, false]), (74, [false, false, false, false])]
/-- 90: ClauseDesk$Grammar.product (I)Z -/
def zc_90 : List Instr := [.aload 0, .iload 1, .invokevirtual 89, .istore 2, .iconst 0, .istore 3, .iload 3, .iconst 600, .if_icmp .ge 40, .iload 2, .ifCond .eq 40, .aload 0, .ldc 31, .invokevirtual 80, .ifCond .ne 19, .aload 0, .ldc 32, .invokevirtual 80, .ifCond .eq 40, .aload 0, .invokevirtual 86, .astore 4, .aload 0, .dup, .getfield 305, .iconst 1, .iadd, .putfield 305, .aload 0, .iload 1, .invokevirtual 89, .istore 2, .aload 0, .getfield 301, .aload 4, .iconst 0, .invokevirtual 85, .pop, .iinc 3 1, .goto 6, .iload 2, .ireturn]
def zv_90 : List (Nat × List Bool) := [(6, [true, true, true, true, false]), (19, [true, true, false, true, false]), (40, [false, false, true, false, false])]
/-- 91: ClauseDesk$Grammar.sum (I)Z -/
def zc_91 : List Instr := [.aload 0, .iload 1, .invokevirtual 90, .istore 2, .iconst 0, .istore 3, .iload 3, .iconst 600, .if_icmp .ge 40, .iload 2, .ifCond .eq 40, .aload 0, .ldc 29, .invokevirtual 80, .ifCond .ne 19, .aload 0, .ldc 30, .invokevirtual 80, .ifCond .eq 40, .aload 0, .invokevirtual 86, .astore 4, .aload 0, .dup, .getfield 305, .iconst 1, .iadd, .putfield 305, .aload 0, .iload 1, .invokevirtual 90, .istore 2, .aload 0, .getfield 301, .aload 4, .iconst 0, .invokevirtual 85, .pop, .iinc 3 1, .goto 6, .iload 2, .ireturn]
def zv_91 : List (Nat × List Bool) := [(6, [true, true, true, true, false]), (19, [true, true, false, true, false]), (40, [false, false, true, false, false])]
/-- 92: ClauseDesk$Grammar.compares (LClauseDesk$Kind;)Z -/
def zc_92 : List Instr := [.aload 0, .ldc 33, .if_acmp .eq 15, .aload 0, .ldc 34, .if_acmp .eq 15, .aload 0, .ldc 35, .if_acmp .eq 15, .aload 0, .ldc 36, .if_acmp .eq 15, .aload 0, .ldc 37, .if_acmp .ne 17, .iconst 1, .goto 18, .iconst 0, .ireturn]
def zv_92 : List (Nat × List Bool) := [(15, [false]), (17, [false]), (18, [false])]
/-- 93: ClauseDesk$Grammar.single (I)Z -/
def zc_93 : List Instr := [.aload 0, .ldc 18, .invokevirtual 80, .ifCond .eq 27, .aload 0, .ldc 18, .iload 1, .invokevirtual 84, .ifCond .eq 17, .aload 0, .iload 1, .iconst 1, .iadd, .invokevirtual 93, .ifCond .eq 17, .iconst 1, .goto 18, .iconst 0, .istore 2, .aload 0, .getfield 301, .ldc 18, .iconst 0, .invokevirtual 85, .pop, .iload 2, .ireturn, .aload 0, .ldc 25, .invokevirtual 80, .ifCond .eq 50, .aload 0, .ldc 25, .iload 1, .invokevirtual 84, .ifCond .eq 48, .aload 0, .iload 1, .iconst 1, .iadd, .invokevirtual 95, .ifCond .eq 48, .aload 0, .ldc 26, .invokevirtual 81, .ifCond .eq 48, .iconst 1, .goto 49, .iconst 0, .ireturn, .aload 0, .iload 1, .invokevirtual 91, .ifCond .eq 58, .aload 0, .invokevirtual 86, .invokestatic 92, .ifCond .ne 60, .iconst 0, .ireturn, .aload 0, .invokevirtual 86, .astore 2, .aload 0, .dup, .getfield 305, .iconst 1, .iadd, .putfield 305, .aload 0, .iload 1, .invokevirtual 91, .istore 3, .aload 0, .getfield 301, .aload 2, .iconst 0, .invokevirtual 85, .pop, .iload 3, .ireturn]
def zv_93 : List (Nat × List Bool) := [(17, [true, false, false, false]), (18, [true, false, false, false]), (27, [true, true, false, false]), (48, [false, false, false, false]), (49, [false, false, false, false]), (50, [true, true, false, false]), (58, [false, false, false, false]), (60, [true, true, false, false])]
/-- 94: ClauseDesk$Grammar.both (I)Z -/
def zc_94 : List Instr := [.aload 0, .iload 1, .invokevirtual 93, .istore 2, .iconst 0, .istore 3, .iload 3, .iconst 600, .if_icmp .ge 27, .iload 2, .ifCond .eq 27, .aload 0, .ldc 16, .invokevirtual 81, .ifCond .eq 27, .aload 0, .iload 1, .invokevirtual 93, .istore 2, .aload 0, .getfield 301, .ldc 16, .iconst 0, .invokevirtual 85, .pop, .iinc 3 1, .goto 6, .iload 2, .ireturn]
def zv_94 : List (Nat × List Bool) := [(6, [true, true, true, true]), (27, [false, false, true, false])]
/-- 95: ClauseDesk$Grammar.test (I)Z -/
def zc_95 : List Instr := [.aload 0, .iload 1, .invokevirtual 94, .istore 2, .iconst 0, .istore 3, .iload 3, .iconst 600, .if_icmp .ge 27, .iload 2, .ifCond .eq 27, .aload 0, .ldc 17, .invokevirtual 81, .ifCond .eq 27, .aload 0, .iload 1, .invokevirtual 94, .istore 2, .aload 0, .getfield 301, .ldc 17, .iconst 0, .invokevirtual 85, .pop, .iinc 3 1, .goto 6, .iload 2, .ireturn]
def zv_95 : List (Nat × List Bool) := [(6, [true, true, true, true]), (27, [false, false, true, false])]
/-- 96: ClauseDesk$Grammar.whenPart (LClauseDesk$Clause;)Z -/
def zc_96 : List Instr := [.aload 1, .aload 0, .getfield 301, .getfield 502, .putfield 607, .aload 0, .ldc 3, .invokevirtual 81, .ifCond .eq 13, .aload 0, .iconst 0, .invokevirtual 95, .ifCond .eq 15, .iconst 1, .goto 16, .iconst 0, .istore 2, .aload 1, .aload 0, .getfield 301, .getfield 502, .putfield 608, .iload 2, .ireturn]
def zv_96 : List (Nat × List Bool) := [(13, [true, true, false]), (15, [true, true, false]), (16, [true, true, false])]
/-- 97: ClauseDesk$Tokens.meaningAt (I)I -/
def zc_97 : List Instr := [.iload 1, .ifCond .lt 6, .iload 1, .aload 0, .getfield 406, .if_icmp .lt 8, .iconst 0, .goto 12, .aload 0, .getfield 405, .iload 1, .iaload, .ireturn]
def zv_97 : List (Nat × List Bool) := [(6, [false, false]), (8, [true, true]), (12, [false, false])]
/-- 98: ClauseDesk$Grammar.optionalPart (LClauseDesk$Clause;)Z -/
def zc_98 : List Instr := [.aload 0, .ldc 4, .invokevirtual 81, .ifCond .ne 6, .iconst 1, .ireturn, .aload 0, .getfield 305, .istore 2, .aload 0, .ldc 39, .invokevirtual 81, .ifCond .eq 17, .aload 0, .ldc 39, .invokevirtual 81, .ifCond .ne 19, .iconst 0, .ireturn, .aload 1, .iconst 1, .putfield 600, .aload 1, .aload 0, .getfield 300, .iload 2, .invokevirtual 97, .aload 0, .getfield 300, .iload 2, .iconst 1, .iadd, .invokevirtual 97, .isub, .putfield 601, .iconst 1, .ireturn]
def zv_98 : List (Nat × List Bool) := [(6, [true, true, false]), (17, [false, false, false]), (19, [true, true, true])]
/-- 99: ClauseDesk$Grammar.linkPart ()Z -/
def zc_99 : List Instr := [.iconst 1, .istore 1, .iconst 0, .istore 2, .iload 2, .iconst 600, .if_icmp .ge 33, .iload 1, .ifCond .eq 33, .aload 0, .ldc 5, .invokevirtual 80, .ifCond .ne 21, .aload 0, .ldc 6, .invokevirtual 80, .ifCond .ne 21, .aload 0, .ldc 7, .invokevirtual 80, .ifCond .eq 33, .aload 0, .dup, .getfield 305, .iconst 1, .iadd, .putfield 305, .aload 0, .ldc 38, .invokevirtual 81, .istore 1, .iinc 2 1, .goto 4, .iload 1, .ireturn]
def zv_99 : List (Nat × List Bool) := [(4, [true, true, true]), (21, [true, false, true]), (33, [false, true, false])]
/-- 100: ClauseDesk$Grammar.nameItem ()Z -/
def zc_100 : List Instr := [.aload 0, .invokevirtual 86, .astore 1, .aload 0, .dup, .getfield 305, .iconst 1, .iadd, .putfield 305, .aload 0, .getfield 301, .aload 1, .aload 0, .getfield 305, .invokevirtual 85, .pop, .aload 0, .ldc 38, .invokevirtual 81, .ireturn]
def zv_100 : List (Nat × List Bool) := []
/-- 101: ClauseDesk$Grammar.showItem (I)Z -/
def zc_101 : List Instr := [.aload 0, .ldc 11, .invokevirtual 81, .ifCond .eq 8, .aload 0, .iload 1, .invokevirtual 91, .ifCond .ne 10, .iconst 0, .ireturn, .aload 0, .getfield 301, .ldc 11, .iconst 0, .invokevirtual 85, .pop, .aload 0, .ldc 27, .invokevirtual 81, .ireturn]
def zv_101 : List (Nat × List Bool) := [(8, [false, false]), (10, [true, false])]
/-- 102: ClauseDesk$Code.aimAtEnd (I)V -/
def zc_102 : List Instr := [.iload 1, .ifCond .lt 12, .iload 1, .aload 0, .getfield 502, .if_icmp .ge 12, .aload 0, .getfield 501, .iload 1, .aload 0, .getfield 502, .iastore, .return_]
def zv_102 : List (Nat × List Bool) := [(12, [false, false])]
/-- 103: ClauseDesk$Grammar.ifItem (I)Z -/
def zc_103 : List Instr := [.aload 0, .ldc 12, .invokevirtual 81, .ifCond .eq 8, .aload 0, .iload 1, .invokevirtual 95, .ifCond .ne 10, .iconst 0, .ireturn, .aload 0, .getfield 301, .ldc 12, .iconst 0, .invokevirtual 85, .istore 2, .aload 0, .iload 1, .invokevirtual 106, .ifCond .ne 22, .iconst 0, .ireturn, .aload 0, .ldc 13, .invokevirtual 81, .ifCond .ne 32, .aload 0, .getfield 301, .iload 2, .invokevirtual 102, .iconst 1, .ireturn, .aload 0, .getfield 301, .ldc 13, .iconst 0, .invokevirtual 85, .istore 3, .aload 0, .getfield 301, .iload 2, .invokevirtual 102, .aload 0, .iload 1, .invokevirtual 106, .istore 4, .aload 0, .getfield 301, .iload 3, .invokevirtual 102, .iload 4, .ireturn]
def zv_103 : List (Nat × List Bool) := [(8, [false, false, false, false, false]), (10, [true, true, false, false, false]), (22, [true, true, true, false, false]), (32, [true, true, true, false, false])]
/-- 104: ClauseDesk$Grammar.pointsItem (I)Z -/
def zc_104 : List Instr := [.aload 0, .ldc 14, .invokevirtual 81, .ifCond .eq 11, .aload 0, .ldc 21, .iload 1, .invokevirtual 84, .ifCond .eq 11, .iconst 1, .goto 12, .iconst 0, .istore 2, .iconst 1, .istore 3, .iload 3, .iconst 600, .if_icmp .gt 38, .iload 2, .ifCond .eq 38, .aload 0, .ldc 15, .invokevirtual 81, .ifCond .eq 38, .aload 0, .getfield 301, .ldc 15, .iload 3, .invokevirtual 85, .pop, .aload 0, .iload 1, .iconst 1, .iadd, .invokevirtual 106, .istore 2, .iinc 3 1, .goto 15, .iload 2, .ifCond .eq 46, .aload 0, .ldc 22, .invokevirtual 81, .ifCond .eq 46, .iconst 1, .goto 47, .iconst 0, .ireturn]
def zv_104 : List (Nat × List Bool) := [(11, [true, true, false, false]), (12, [true, true, false, false]), (15, [true, true, true, true]), (38, [true, false, true, false]), (46, [false, false, false, false]), (47, [false, false, false, false])]
/-- 105: ClauseDesk$Grammar.item (I)Z -/
def zc_105 : List Instr := [.ldc 45, .aload 0, .invokevirtual 86, .invokevirtual 87, .iaload, .tableswitch 32 1 7 #[6, 17, 17, 17, 20, 24, 28], .aload 0, .getfield 301, .ldc 40, .aload 0, .getfield 305, .invokevirtual 85, .pop, .aload 0, .ldc 40, .invokevirtual 81, .ireturn, .aload 0, .invokevirtual 100, .ireturn, .aload 0, .iload 1, .invokevirtual 101, .ireturn, .aload 0, .iload 1, .invokevirtual 103, .ireturn, .aload 0, .iload 1, .invokevirtual 104, .ireturn, .iconst 0, .ireturn]
def zv_105 : List (Nat × List Bool) := [(6, [true, false]), (17, [true, false]), (20, [true, true]), (24, [true, true]), (28, [true, true]), (32, [false, false])]
/-- 106: ClauseDesk$Grammar.block (I)Z -/
def zc_106 : List Instr := [.aload 0, .ldc 21, .iload 1, .invokevirtual 84, .istore 2, .iconst 0, .istore 3, .iload 3, .iconst 600, .if_icmp .ge 24, .iload 2, .ifCond .eq 24, .aload 0, .ldc 22, .invokevirtual 80, .ifCond .ne 24, .aload 0, .iload 1, .iconst 1, .iadd, .invokevirtual 105, .istore 2, .iinc 3 1, .goto 7, .iload 2, .ifCond .eq 32, .aload 0, .ldc 22, .invokevirtual 81, .ifCond .eq 32, .iconst 1, .goto 33, .iconst 0, .ireturn]
def zv_106 : List (Nat × List Bool) := [(7, [true, true, true, true]), (24, [true, false, true, false]), (32, [false, false, false, false]), (33, [false, false, false, false])]
/-- 107: ClauseDesk$Grammar.tellsClause ()Z -/
def zc_107 : List Instr := [.aload 0, .getfield 304, .aload 0, .getfield 302, .arraylength, .if_icmp .ge 12, .aload 0, .getfield 302, .aload 0, .getfield 304, .aaload, .goto 14, .aload 0, .getfield 303, .astore 1, .aload 0, .dup, .getfield 304, .iconst 1, .iadd, .putfield 304, .aload 1, .invokevirtual 83, .aload 0, .ldc 2, .invokevirtual 81, .ifCond .eq 31, .aload 0, .ldc 38, .invokevirtual 81, .ifCond .ne 33, .iconst 0, .ireturn, .aload 1, .aload 0, .getfield 305, .putfield 605, .aload 0, .aload 1, .invokevirtual 96, .ifCond .eq 48, .aload 0, .aload 1, .invokevirtual 98, .ifCond .eq 48, .aload 0, .invokevirtual 99, .ifCond .ne 50, .iconst 0, .ireturn, .aload 1, .aload 0, .getfield 305, .putfield 606, .aload 1, .aload 0, .getfield 301, .getfield 502, .putfield 609, .aload 0, .iconst 0, .invokevirtual 106, .istore 2, .aload 1, .aload 0, .getfield 301, .getfield 502, .putfield 610, .iload 2, .ireturn]
def zv_107 : List (Nat × List Bool) := [(12, [true, false, false]), (14, [true, false, false]), (31, [false, false, false]), (33, [true, true, false]), (48, [false, false, false]), (50, [true, true, false])]
/-- 108: ClauseDesk$Grammar.accepts ()Z -/
def zc_108 : List Instr := [.aload 0, .iconst 0, .putfield 305, .aload 0, .iconst 0, .putfield 304, .aload 0, .getfield 301, .invokevirtual 78, .iconst 1, .istore 1, .iconst 0, .istore 2, .iload 2, .iconst 600, .if_icmp .ge 34, .iload 1, .ifCond .eq 34, .aload 0, .ldc 41, .invokevirtual 80, .ifCond .ne 34, .aload 0, .ldc 1, .invokevirtual 80, .ifCond .eq 29, .aload 0, .invokevirtual 82, .goto 31, .aload 0, .invokevirtual 107, .istore 1, .iinc 2 1, .goto 13, .iload 1, .ireturn]
def zv_108 : List (Nat × List Bool) := [(13, [true, true, true]), (29, [true, false, true]), (31, [true, false, true]), (34, [false, true, false])]
/-- 109: ClauseDesk$Tokens.lengthOf (I)I -/
def zc_109 : List Instr := [.iload 1, .ifCond .lt 6, .iload 1, .aload 0, .getfield 406, .if_icmp .lt 8, .iconst 0, .goto 12, .aload 0, .getfield 404, .iload 1, .iaload, .ireturn]
def zv_109 : List (Nat × List Bool) := [(6, [false, false]), (8, [true, true]), (12, [false, false])]
/-- 110: ClauseDesk$Tokens.startAt (I)I -/
def zc_110 : List Instr := [.iload 1, .ifCond .lt 6, .iload 1, .aload 0, .getfield 406, .if_icmp .lt 8, .iconst 0, .goto 12, .aload 0, .getfield 403, .iload 1, .iaload, .ireturn]
def zv_110 : List (Nat × List Bool) := [(6, [false, false]), (8, [true, true]), (12, [false, false])]
/-- 111: ClauseDesk$Tokens.sameWord (II)Z -/
def zc_111 : List Instr := [.aload 0, .iload 1, .invokevirtual 109, .istore 3, .iload 3, .aload 0, .iload 2, .invokevirtual 109, .if_icmp .eq 11, .iconst 0, .ireturn, .iconst 0, .istore 4, .iload 4, .iload 3, .if_icmp .ge 35, .aload 0, .aload 0, .iload 1, .invokevirtual 110, .iload 4, .iadd, .invokevirtual 64, .aload 0, .aload 0, .iload 2, .invokevirtual 110, .iload 4, .iadd, .invokevirtual 64, .if_icmp .eq 33, .iconst 0, .ireturn, .iinc 4 1, .goto 13, .iconst 1, .ireturn]
def zv_111 : List (Nat × List Bool) := [(11, [true, true, true, true, false]), (13, [true, true, true, true, true]), (33, [true, true, true, true, true]), (35, [false, false, false, false, false])]
/-- 112: ClauseDesk$Library.numberOf (I[II)I -/
def zc_112 : List Instr := [.iconst 0, .istore 4, .iload 4, .iload 3, .if_icmp .ge 21, .iload 4, .aload 2, .arraylength, .if_icmp .ge 21, .aload 0, .getfield 201, .aload 2, .iload 4, .iaload, .iload 1, .invokevirtual 111, .ifCond .eq 19, .iload 4, .ireturn, .iinc 4 1, .goto 2, .iconst (-1), .ireturn]
def zv_112 : List (Nat × List Bool) := [(2, [true, true, true, true, true]), (19, [true, true, true, true, true]), (21, [false, false, false, false, false])]
/-- 113: ClauseDesk$Library.addFact (I)I -/
def zc_113 : List Instr := [.aload 0, .iload 1, .aload 0, .getfield 205, .aload 0, .getfield 207, .invokevirtual 112, .ifCond .lt 10, .iconst 2, .ireturn, .aload 0, .getfield 207, .iconst 10, .if_icmp .lt 16, .iconst 6, .ireturn, .aload 0, .getfield 205, .aload 0, .getfield 207, .iload 1, .iastore, .aload 0, .getfield 204, .aload 0, .getfield 207, .aload 0, .getfield 201, .iload 1, .iconst 2, .iadd, .invokevirtual 97, .iastore, .aload 0, .dup, .getfield 207, .iconst 1, .iadd, .putfield 207, .iconst 0, .ireturn]
def zv_113 : List (Nat × List Bool) := [(10, [true, true]), (16, [true, true])]
/-- 114: ClauseDesk$Library.clauseNamed (I)I -/
def zc_114 : List Instr := [.iconst 0, .istore 2, .iconst 0, .istore 3, .iload 3, .aload 0, .getfield 201, .getfield 406, .if_icmp .ge 28, .aload 0, .getfield 201, .iload 3, .invokevirtual 79, .ldc 2, .if_acmp .ne 26, .aload 0, .getfield 201, .iload 3, .iconst 1, .iadd, .iload 1, .invokevirtual 111, .ifCond .eq 25, .iload 2, .ireturn, .iinc 2 1, .iinc 3 1, .goto 4, .iconst (-1), .ireturn]
def zv_114 : List (Nat × List Bool) := [(4, [true, true, true, true]), (25, [true, true, true, true]), (26, [true, true, true, true]), (28, [false, false, false, false])]
/-- 115: java.lang.Integer.bitCount (I)I -/
def zc_115 : List Instr := [.iload 0, .iload 0, .iconst 1, .iushr, .iconst 1431655765, .iand, .isub, .istore 0, .iload 0, .iconst 858993459, .iand, .iload 0, .iconst 2, .iushr, .iconst 858993459, .iand, .iadd, .istore 0, .iload 0, .iload 0, .iconst 4, .iushr, .iadd, .iconst 252645135, .iand, .istore 0, .iload 0, .iload 0, .iconst 8, .iushr, .iadd, .istore 0, .iload 0, .iload 0, .iconst 16, .iushr, .iadd, .istore 0, .iload 0, .iconst 63, .iand, .ireturn]
def zv_115 : List (Nat × List Bool) := []
/-- 116: ClauseDesk$Library.addClause (I)I -/
def zc_116 : List Instr := [.aload 0, .iload 1, .invokevirtual 114, .aload 0, .getfield 208, .if_icmp .ge 8, .iconst 2, .ireturn, .aload 0, .getfield 208, .iconst 16, .if_icmp .lt 14, .iconst 6, .ireturn, .aload 0, .getfield 203, .aload 0, .getfield 208, .aaload, .getfield 600, .ifCond .eq 37, .aload 0, .getfield 210, .invokestatic 115, .iconst 8, .if_icmp .lt 28, .iconst 6, .ireturn, .aload 0, .dup, .getfield 210, .iconst 1, .aload 0, .getfield 208, .ishl, .ior, .putfield 210, .aload 0, .dup, .getfield 208, .iconst 1, .iadd, .putfield 208, .iconst 0, .ireturn]
def zv_116 : List (Nat × List Bool) := [(8, [true, false]), (14, [true, false]), (28, [true, false]), (37, [true, false])]
/-- 117: ClauseDesk$Tokens.setMeaning (II)V -/
def zc_117 : List Instr := [.iload 1, .ifCond .lt 11, .iload 1, .aload 0, .getfield 406, .if_icmp .ge 11, .aload 0, .getfield 405, .iload 1, .iload 2, .iastore, .return_]
def zv_117 : List (Nat × List Bool) := [(11, [false, false, false])]
/-- 118: ClauseDesk$Library.addLink (LClauseDesk$Clause;LClauseDesk$Kind;I)V -/
def zc_118 : List Instr := [.aload 0, .dup, .getfield 602, .aload 1, .ldc 5, .if_acmp .ne 8, .iload 2, .goto 9, .iconst 0, .ior, .putfield 602, .aload 0, .dup, .getfield 603, .aload 1, .ldc 6, .if_acmp .ne 19, .iload 2, .goto 20, .iconst 0, .ior, .putfield 603, .aload 0, .dup, .getfield 604, .aload 1, .ldc 7, .if_acmp .ne 30, .iload 2, .goto 31, .iconst 0, .ior, .putfield 604, .return_]
def zv_118 : List (Nat × List Bool) := [(8, [true, true, true]), (9, [true, true, true]), (19, [true, true, true]), (20, [true, true, true]), (30, [false, false, false]), (31, [false, false, false])]
/-- 119: ClauseDesk$Library.meanClause (ILClauseDesk$Kind;)I -/
def zc_119 : List Instr := [.aload 0, .iload 1, .invokevirtual 114, .istore 3, .iload 3, .ifCond .ge 8, .iconst 3, .ireturn, .iload 3, .aload 0, .getfield 208, .iconst 1, .isub, .if_icmp .ne 16, .iconst 5, .ireturn, .aload 0, .getfield 201, .iload 1, .iload 3, .invokevirtual 117, .aload 0, .getfield 208, .ifCond .le 36, .aload 0, .getfield 203, .aload 0, .getfield 208, .iconst 1, .isub, .aaload, .aload 2, .iconst 1, .iload 3, .ishl, .invokestatic 118, .iconst 0, .ireturn]
def zv_119 : List (Nat × List Bool) := [(8, [true, true, true, true]), (16, [true, true, true, true]), (36, [false, false, false, false])]
/-- 120: ClauseDesk$Library.meanTerm (I)I -/
def zc_120 : List Instr := [.aload 0, .iload 1, .aload 0, .getfield 206, .aload 0, .getfield 209, .invokevirtual 112, .istore 2, .iload 2, .ifCond .ge 30, .aload 0, .getfield 209, .iconst 24, .if_icmp .lt 16, .iconst 6, .ireturn, .aload 0, .getfield 209, .istore 2, .aload 0, .getfield 206, .iload 2, .iload 1, .iastore, .aload 0, .dup, .getfield 209, .iconst 1, .iadd, .putfield 209, .aload 0, .getfield 201, .iload 1, .iload 2, .invokevirtual 117, .iconst 0, .ireturn]
def zv_120 : List (Nat × List Bool) := [(16, [true, true, false]), (30, [true, true, true])]
/-- 121: ClauseDesk$Library.meanFact (I)I -/
def zc_121 : List Instr := [.aload 0, .iload 1, .aload 0, .getfield 205, .aload 0, .getfield 207, .invokevirtual 112, .istore 2, .aload 0, .getfield 201, .iload 1, .iload 2, .invokevirtual 117, .iload 2, .ifCond .ge 17, .iconst 4, .goto 18, .iconst 0, .ireturn]
def zv_121 : List (Nat × List Bool) := [(17, [false, false, false]), (18, [false, false, false])]
/-- 122: ClauseDesk$Library.lookAtName (ILClauseDesk$Kind;)I -/
def zc_122 : List Instr := [.ldc 45, .aload 2, .invokevirtual 87, .iaload, .tableswitch 22 2 18 #[13, 18, 18, 22, 22, 22, 22, 22, 22, 22, 22, 22, 5, 9, 13, 13, 13], .aload 0, .iload 1, .invokevirtual 113, .ireturn, .aload 0, .iload 1, .invokevirtual 116, .ireturn, .aload 0, .iload 1, .aload 2, .invokevirtual 119, .ireturn, .aload 0, .iload 1, .invokevirtual 120, .ireturn, .aload 0, .iload 1, .invokevirtual 121, .ireturn]
def zv_122 : List (Nat × List Bool) := [(5, [true, true, false]), (9, [true, true, false]), (13, [true, true, true]), (18, [true, true, false]), (22, [true, true, false])]
/-- 123: ClauseDesk$Library.lookAtNames ()I -/
def zc_123 : List Instr := [.iconst 0, .istore 1, .iconst 1, .istore 2, .iload 2, .aload 0, .getfield 201, .getfield 406, .if_icmp .ge 32, .iload 1, .ifCond .ne 32, .aload 0, .getfield 201, .iload 2, .invokevirtual 79, .ldc 38, .if_acmp .ne 30, .aload 0, .iload 2, .putfield 211, .aload 0, .iload 2, .aload 0, .getfield 201, .iload 2, .iconst 1, .isub, .invokevirtual 79, .invokevirtual 122, .istore 1, .iinc 2 1, .goto 4, .iload 1, .ireturn]
def zv_123 : List (Nat × List Bool) := [(4, [true, true, true]), (30, [true, true, true]), (32, [false, true, false])]
/-- 124: ClauseDesk$Library.placeOfError (I)I -/
def zc_124 : List Instr := [.iload 1, .ifCond .ne 4, .iconst (-1), .ireturn, .aload 0, .getfield 201, .iload 1, .iconst 1, .if_icmp .ne 13, .aload 0, .getfield 200, .getfield 305, .goto 15, .aload 0, .getfield 211, .invokevirtual 110, .ireturn]
def zv_124 : List (Nat × List Bool) := [(4, [true, true]), (13, [true, false]), (15, [false, false])]
/-- 125: ClauseDesk$Page.clear ()V -/
def zc_125 : List Instr := [.aload 0, .iconst 0, .putfield 1101, .return_]
def zv_125 : List (Nat × List Bool) := []
/-- 126: ClauseDesk$Draft.clear ()V -/
def zc_126 : List Instr := [.aload 0, .iconst 0, .putfield 1000, .aload 0, .iconst 0, .putfield 1001, .iconst 0, .istore 1, .iload 1, .iconst 16, .if_icmp .ge 28, .aload 0, .getfield 1003, .iload 1, .iconst 0, .iastore, .aload 0, .getfield 1004, .iload 1, .iconst 0, .iastore, .aload 0, .getfield 1005, .iload 1, .iconst 0, .iastore, .iinc 1 1, .goto 8, .aload 0, .getfield 1006, .invokevirtual 125, .return_]
def zv_126 : List (Nat × List Bool) := [(8, [true, true]), (28, [true, false])]
/-- 127: ClauseDesk.takeUpSpare ()V -/
def zc_127 : List Instr := [.aload 0, .getfield 103, .astore 1, .aload 0, .aload 0, .getfield 104, .putfield 103, .aload 0, .aload 1, .putfield 104, .iconst 0, .istore 2, .iload 2, .iconst 10, .if_icmp .ge 26, .aload 0, .getfield 105, .iload 2, .aload 0, .getfield 103, .getfield 204, .iload 2, .iaload, .iastore, .iinc 2 1, .goto 12, .aload 0, .iconst 0, .putfield 106, .aload 0, .iconst 0, .putfield 107, .aload 0, .getfield 112, .invokevirtual 126, .return_]
def zv_127 : List (Nat × List Bool) := [(12, [true, false, true]), (26, [true, false, false])]
/-- 128: ClauseDesk$Scribe.open (LClauseDesk$Library;[I[ILClauseDesk$Page;)V -/
def zc_128 : List Instr := [.aload 0, .aload 1, .putfield 900, .aload 0, .aload 2, .putfield 901, .aload 0, .aload 3, .putfield 902, .aload 0, .aload 4, .putfield 903, .aload 0, .iconst 0, .putfield 907, .return_]
def zv_128 : List (Nat × List Bool) := []
/-- 129: ClauseDesk$Code.kindAt (I)LClauseDesk$Kind; -/
def zc_129 : List Instr := [.iload 1, .ifCond .lt 11, .iload 1, .aload 0, .getfield 502, .if_icmp .ge 11, .aload 0, .getfield 500, .iload 1, .aaload, .ifnonnull 13, .ldc 42, .areturn, .aload 0, .getfield 500, .iload 1, .aaload, .areturn]
def zv_129 : List (Nat × List Bool) := [(11, [false, false]), (13, [true, true])]
/-- 130: ClauseDesk$Code.operandAt (I)I -/
def zc_130 : List Instr := [.iload 1, .ifCond .lt 6, .iload 1, .aload 0, .getfield 502, .if_icmp .lt 8, .iconst 0, .goto 12, .aload 0, .getfield 501, .iload 1, .iaload, .ireturn]
def zv_130 : List (Nat × List Bool) := [(6, [false, false]), (8, [true, true]), (12, [false, false])]
/-- 131: ClauseDesk$Scribe.pop ()I -/
def zc_131 : List Instr := [.aload 0, .getfield 905, .ifCond .le 7, .aload 0, .getfield 905, .iconst 64, .if_icmp .le 9, .iconst 0, .ireturn, .aload 0, .dup, .getfield 905, .iconst 1, .isub, .putfield 905, .aload 0, .getfield 904, .aload 0, .getfield 905, .iaload, .ireturn]
def zv_131 : List (Nat × List Bool) := [(7, [false]), (9, [true])]
/-- 132: ClauseDesk$Page.put (I)V -/
def zc_132 : List Instr := [.aload 0, .getfield 1101, .ifCond .lt 16, .aload 0, .getfield 1101, .aload 0, .getfield 1100, .arraylength, .if_icmp .ge 16, .aload 0, .getfield 1100, .aload 0, .getfield 1101, .iload 1, .i2b, .bastore, .aload 0, .dup, .getfield 1101, .iconst 1, .iadd, .putfield 1101, .return_]
def zv_132 : List (Nat × List Bool) := [(16, [true, false])]
/-- 133: ClauseDesk$Scribe.writeWord (II)V -/
def zc_133 : List Instr := [.iconst 0, .istore 3, .iload 3, .iload 2, .if_icmp .ge 17, .aload 0, .getfield 903, .aload 0, .getfield 900, .getfield 201, .iload 1, .iload 3, .iadd, .invokevirtual 64, .invokevirtual 132, .iinc 3 1, .goto 2, .return_]
def zv_133 : List (Nat × List Bool) := [(2, [true, true, true, true]), (17, [false, false, false, false])]
/-- 134: ClauseDesk$Page.putNumber (I)V -/
def zc_134 : List Instr := [.iload 1, .i2l, .lstore 2, .lload 2, .ldc2_w 0, .lcmp, .ifCond .ge 13, .aload 0, .iconst 45, .invokevirtual 132, .lload 2, .lneg, .lstore 2, .iconst 0, .istore 4, .ldc2_w 1000000000, .lstore 5, .lload 5, .ldc2_w 0, .lcmp, .ifCond .le 52, .iload 4, .ifCond .ne 31, .lload 2, .lload 5, .lcmp, .ifCond .ge 31, .lload 5, .ldc2_w 1, .lcmp, .ifCond .ne 33, .iconst 1, .goto 34, .iconst 0, .istore 4, .iload 4, .ifCond .eq 47, .aload 0, .ldc2_w 48, .lload 2, .lload 5, .ldiv, .ldc2_w 10, .lrem, .ladd, .l2i, .invokevirtual 132, .lload 5, .ldc2_w 10, .ldiv, .lstore 5, .goto 17, .return_]
def zv_134 : List (Nat × List Bool) := [(13, [true, false, true, false, false, false, false]), (17, [true, false, true, false, true, true, false]), (31, [true, false, true, false, false, true, false]), (33, [true, false, true, false, false, true, false]), (34, [true, false, true, false, false, true, false]), (47, [true, false, true, false, true, true, false]), (52, [false, false, false, false, false, false, false])]
/-- 135: ClauseDesk$Scribe.note (I)V -/
def zc_135 : List Instr := [.aload 0, .getfield 907, .iconst 600, .if_icmp .ge 16, .aload 0, .getfield 906, .aload 0, .getfield 907, .iload 1, .iastore, .aload 0, .dup, .getfield 907, .iconst 1, .iadd, .putfield 907, .return_]
def zv_135 : List (Nat × List Bool) := [(16, [false, false])]
/-- 136: ClauseDesk$Scribe.placeOf (I)I -/
def zc_136 : List Instr := [.iload 1, .ifCond .lt 7, .iload 1, .aload 0, .getfield 902, .arraylength, .if_icmp .lt 9, .iconst 0, .goto 13, .aload 0, .getfield 902, .iload 1, .iaload, .ireturn]
def zv_136 : List (Nat × List Bool) := [(7, [false, false]), (9, [true, true]), (13, [false, false])]
/-- 137: ClauseDesk$Scribe.push (I)V -/
def zc_137 : List Instr := [.aload 0, .getfield 905, .ifCond .lt 19, .aload 0, .getfield 905, .iconst 64, .if_icmp .ge 19, .aload 0, .getfield 904, .aload 0, .getfield 905, .iload 1, .iastore, .aload 0, .dup, .getfield 905, .iconst 1, .iadd, .putfield 905, .return_]
def zv_137 : List (Nat × List Bool) := [(19, [false, false])]
/-- 138: ClauseDesk$Scribe.ofTwo (LClauseDesk$Kind;II)I -/
def zc_138 : List Instr := [.ldc 45, .aload 0, .invokevirtual 87, .iaload, .tableswitch 76 10 29 #[9, 76, 25, 29, 76, 76, 76, 76, 76, 76, 5, 13, 17, 33, 40, 47, 54, 61, 68, 72], .iload 1, .iload 2, .iadd, .ireturn, .iload 1, .iload 2, .isub, .ireturn, .iload 1, .iload 2, .imul, .ireturn, .iload 2, .ifCond .ne 21, .iconst 0, .goto 24, .iload 1, .iload 2, .idiv, .ireturn, .iload 1, .iload 2, .invokestatic 21, .ireturn, .iload 1, .iload 2, .invokestatic 18, .ireturn, .iload 1, .iload 2, .if_icmp .ge 38, .iconst 1, .goto 39, .iconst 0, .ireturn, .iload 1, .iload 2, .if_icmp .le 45, .iconst 1, .goto 46, .iconst 0, .ireturn, .iload 1, .iload 2, .if_icmp .ne 52, .iconst 1, .goto 53, .iconst 0, .ireturn, .iload 1, .iload 2, .if_icmp .gt 59, .iconst 1, .goto 60, .iconst 0, .ireturn, .iload 1, .iload 2, .if_icmp .lt 66, .iconst 1, .goto 67, .iconst 0, .ireturn, .iload 1, .iload 2, .iand, .ireturn, .iload 1, .iload 2, .ior, .ireturn, .iconst 0, .ireturn]
def zv_138 : List (Nat × List Bool) := [(5, [false, true, true]), (9, [false, true, true]), (13, [false, true, true]), (17, [false, true, true]), (21, [false, true, true]), (24, [false, false, false]), (25, [false, true, true]), (29, [false, true, true]), (33, [false, true, true]), (38, [false, false, false]), (39, [false, false, false]), (40, [false, true, true]), (45, [false, false, false]), (46, [false, false, false]), (47, [false, true, true]), (52, [false, false, false]), (53, [false, false, false]), (54, [false, true, true]), (59, [false, false, false]), (60, [false, false, false]), (61, [false, true, true]), (66, [false, false, false]), (67, [false, false, false]), (68, [false, true, true]), (72, [false, true, true]), (76, [false, false, false])]
/-- 139: ClauseDesk$Scribe.reckon (LClauseDesk$Kind;I)V -/
def zc_139 : List Instr := [.aload 1, .ldc 39, .if_acmp .ne 11, .aload 0, .aload 0, .getfield 900, .getfield 201, .iload 2, .invokevirtual 97, .invokevirtual 137, .goto 69, .aload 1, .ldc 38, .if_acmp .ne 36, .aload 0, .getfield 900, .getfield 201, .iload 2, .invokevirtual 97, .istore 3, .aload 0, .iload 3, .ifCond .lt 28, .iload 3, .aload 0, .getfield 901, .arraylength, .if_icmp .lt 30, .iconst 0, .goto 34, .aload 0, .getfield 901, .iload 3, .iaload, .invokevirtual 137, .goto 69, .aload 1, .ldc 43, .if_acmp .ne 45, .aload 0, .aload 0, .invokevirtual 131, .ineg, .invokevirtual 137, .goto 69, .aload 1, .ldc 18, .if_acmp .ne 57, .aload 0, .aload 0, .invokevirtual 131, .ifCond .ne 54, .iconst 1, .goto 55, .iconst 0, .invokevirtual 137, .goto 69, .aload 0, .invokevirtual 131, .istore 3, .aload 0, .invokevirtual 131, .istore 4, .aload 0, .aload 1, .iload 4, .iload 3, .invokestatic 138, .invokevirtual 137, .return_]
def zv_139 : List (Nat × List Bool) := [(11, [true, true, true, false, false]), (28, [false, false, false, false, false]), (30, [true, false, false, true, false]), (34, [false, false, false, false, false]), (36, [true, true, false, false, false]), (45, [true, true, false, false, false]), (54, [false, false, false, false, false]), (55, [false, false, false, false, false]), (57, [true, true, false, false, false]), (69, [false, false, false, false, false])]
/-- 140: ClauseDesk$Scribe.act (LClauseDesk$Kind;II)V -/
def zc_140 : List Instr := [.ldc 45, .aload 1, .invokevirtual 87, .iaload, .tableswitch 133 1 19 #[6, 50, 73, 97, 23, 5, 133, 133, 133, 133, 133, 133, 133, 133, 133, 133, 133, 133, 29], .goto 137, .aload 0, .aload 0, .getfield 900, .getfield 201, .iload 2, .invokevirtual 110, .iconst 1, .iadd, .aload 0, .getfield 900, .getfield 201, .iload 2, .invokevirtual 109, .iconst 2, .isub, .invokevirtual 133, .goto 137, .aload 0, .getfield 903, .aload 0, .invokevirtual 131, .invokevirtual 134, .goto 137, .aload 0, .getfield 903, .iconst 32, .invokevirtual 132, .aload 0, .getfield 903, .iconst 40, .invokevirtual 132, .aload 0, .getfield 903, .iload 2, .invokevirtual 134, .aload 0, .getfield 903, .iconst 41, .invokevirtual 132, .aload 0, .getfield 903, .iconst 32, .invokevirtual 132, .goto 137, .aload 0, .iload 3, .invokevirtual 135, .aload 0, .aload 0, .getfield 900, .getfield 201, .iload 2, .invokevirtual 97, .invokevirtual 136, .istore 4, .iload 4, .ifCond .le 68, .aload 0, .getfield 903, .iload 4, .invokevirtual 134, .goto 137, .aload 0, .getfield 903, .iconst 63, .invokevirtual 132, .goto 137, .aload 0, .iload 3, .invokevirtual 135, .aload 0, .getfield 903, .iconst 34, .invokevirtual 132, .aload 0, .aload 0, .getfield 900, .getfield 201, .iload 2, .invokevirtual 110, .aload 0, .getfield 900, .getfield 201, .iload 2, .invokevirtual 109, .invokevirtual 133, .aload 0, .getfield 903, .iconst 34, .invokevirtual 132, .goto 137, .aload 0, .iload 3, .invokevirtual 135, .aload 0, .getfield 903, .aload 0, .getfield 900, .getfield 201, .aload 0, .getfield 900, .getfield 201, .iload 2, .invokevirtual 110, .invokevirtual 64, .iconst 97, .isub, .iconst 65, .iadd, .invokevirtual 132, .aload 0, .aload 0, .getfield 900, .getfield 201, .iload 2, .invokevirtual 110, .iconst 1, .iadd, .aload 0, .getfield 900, .getfield 201, .iload 2, .invokevirtual 109, .iconst 1, .isub, .invokevirtual 133, .goto 137, .aload 0, .aload 1, .iload 2, .invokevirtual 139, .return_]
def zv_140 : List (Nat × List Bool) := [(5, [false, false, false, false, false]), (6, [true, false, true, false, false]), (23, [true, false, false, false, false]), (29, [true, false, true, false, false]), (50, [true, false, true, true, false]), (68, [true, false, false, false, false]), (73, [true, false, true, true, false]), (97, [true, false, true, true, false]), (133, [true, true, true, false, false]), (137, [false, false, false, false, false])]
/-- 141: ClauseDesk$Scribe.follow (II)V -/
def zc_141 : List Instr := [.aload 0, .getfield 900, .ifnull 12, .aload 0, .getfield 901, .ifnull 12, .aload 0, .getfield 902, .ifnull 12, .aload 0, .getfield 903, .ifnonnull 13, .return_, .aload 0, .iconst 0, .putfield 905, .iload 1, .istore 3, .iconst 0, .istore 4, .iload 4, .iconst 600, .if_icmp .ge 68, .iload 3, .iload 2, .if_icmp .ge 68, .aload 0, .getfield 900, .getfield 202, .iload 3, .invokevirtual 129, .astore 5, .aload 0, .getfield 900, .getfield 202, .iload 3, .invokevirtual 130, .istore 6, .aload 5, .ldc 13, .if_acmp .eq 47, .aload 5, .ldc 12, .if_acmp .ne 49, .aload 0, .invokevirtual 131, .ifCond .ne 49, .iconst 1, .goto 50, .iconst 0, .istore 7, .iload 7, .ifCond .ne 58, .aload 0, .aload 5, .iload 6, .iload 3, .invokevirtual 140, .iload 7, .ifCond .eq 62, .iload 6, .goto 65, .iload 3, .iconst 1, .iadd, .istore 3, .iinc 4 1, .goto 20, .return_]
def zv_141 : List (Nat × List Bool) := [(12, [false, false, false, false, false, false, false, false]), (13, [true, true, true, false, false, false, false, false]), (20, [true, false, true, true, true, false, false, false]), (47, [true, false, true, true, true, true, true, false]), (49, [true, false, true, true, true, true, true, false]), (50, [true, false, true, true, true, true, true, false]), (58, [true, false, true, true, true, false, true, true]), (62, [true, false, true, true, true, false, false, false]), (65, [true, false, true, false, true, false, false, false]), (68, [false, false, false, false, false, false, false, false])]
/-- 142: ClauseDesk$Scribe.holds ()Z -/
def zc_142 : List Instr := [.aload 0, .invokevirtual 131, .ifCond .eq 5, .iconst 1, .goto 6, .iconst 0, .ireturn]
def zv_142 : List (Nat × List Bool) := [(5, [false]), (6, [false])]
/-- 143: ClauseDesk.withBit (IIZ)I -/
def zc_143 : List Instr := [.iconst 1, .iload 1, .ishl, .istore 3, .iload 2, .ifCond .eq 10, .iload 0, .iload 3, .ior, .goto 15, .iload 0, .iload 3, .iconst (-1), .ixor, .iand, .ireturn]
def zv_143 : List (Nat × List Bool) := [(10, [true, false, false, true]), (15, [false, false, false, false])]
/-- 144: ClauseDesk.hasBit (II)Z -/
def zc_144 : List Instr := [.iload 0, .iload 1, .ishr, .iconst 1, .iand, .ifCond .eq 8, .iconst 1, .goto 9, .iconst 0, .ireturn]
def zv_144 : List (Nat × List Bool) := [(8, [false, false]), (9, [false, false])]
/-- 145: ClauseDesk$Library.closure (II)I -/
def zc_145 : List Instr := [.iload 1, .istore 3, .iconst 0, .istore 4, .iload 4, .iconst 16, .if_icmp .ge 33, .iconst 0, .istore 5, .iload 5, .aload 0, .getfield 208, .if_icmp .ge 31, .iload 3, .iload 5, .invokestatic 144, .ifCond .eq 29, .iload 3, .aload 0, .getfield 203, .iload 5, .aaload, .getfield 602, .iload 2, .iconst (-1), .ixor, .iand, .ior, .istore 3, .iinc 5 1, .goto 9, .iinc 4 1, .goto 4, .iload 3, .ireturn]
def zv_145 : List (Nat × List Bool) := [(4, [true, false, true, true, true, false]), (9, [true, false, true, true, true, true]), (29, [true, false, true, true, true, true]), (31, [true, false, true, true, true, false]), (33, [false, false, false, true, false, false])]
/-- 146: ClauseDesk$Draft.nextOf (LClauseDesk$Library;I)I -/
def zc_146 : List Instr := [.iconst 0, .istore 2, .iconst 15, .istore 3, .iload 3, .ifCond .lt 14, .iload 1, .iload 3, .invokestatic 144, .ifCond .eq 12, .iload 3, .istore 2, .iinc 3 (-1), .goto 4, .iload 2, .istore 3, .iload 3, .iconst 16, .if_icmp .ge 35, .iload 1, .iload 3, .invokestatic 144, .ifCond .eq 33, .aload 0, .getfield 203, .iload 3, .aaload, .getfield 604, .iload 1, .iand, .ifCond .ne 33, .iload 3, .ireturn, .iinc 3 1, .goto 16, .iload 2, .ireturn]
def zv_146 : List (Nat × List Bool) := [(4, [true, true, true, true]), (12, [true, true, true, true]), (14, [true, true, true, false]), (16, [true, true, true, true]), (33, [true, true, true, true]), (35, [false, false, true, false])]
/-- 147: ClauseDesk$Draft.arrange (LClauseDesk$Library;I)V -/
def zc_147 : List Instr := [.aload 0, .invokevirtual 126, .aload 0, .iload 2, .putfield 1000, .iload 2, .istore 3, .iconst 0, .istore 4, .iload 4, .iconst 16, .if_icmp .ge 41, .iload 3, .ifCond .eq 41, .aload 1, .iload 3, .invokestatic 146, .istore 5, .aload 0, .getfield 1002, .iload 4, .iload 5, .iastore, .aload 0, .iload 4, .iconst 1, .iadd, .putfield 1001, .aload 0, .getfield 1003, .iload 5, .aload 0, .getfield 1001, .iastore, .iload 3, .iload 5, .iconst 0, .invokestatic 143, .istore 3, .iinc 4 1, .goto 9, .return_]
def zv_147 : List (Nat × List Bool) := [(9, [true, true, false, true, true, false]), (41, [false, false, false, false, false, false])]
/-- 148: ClauseDesk$Contract.gather (LClauseDesk$Library;[III)V -/
def zc_148 : List Instr := [.aload 0, .getfield 702, .aload 1, .aload 2, .aload 0, .getfield 700, .getfield 1003, .aload 0, .getfield 700, .getfield 1006, .invokevirtual 128, .aload 0, .iconst 0, .putfield 703, .iconst 0, .istore 5, .iload 5, .aload 1, .getfield 208, .if_icmp .ge 52, .aload 1, .getfield 203, .iload 5, .aaload, .astore 6, .aload 0, .getfield 702, .aload 6, .getfield 607, .aload 6, .getfield 608, .invokevirtual 141, .aload 0, .aload 0, .getfield 703, .iload 5, .aload 6, .getfield 607, .aload 6, .getfield 608, .if_icmp .eq 45, .aload 0, .getfield 702, .invokevirtual 142, .ifCond .eq 47, .iconst 1, .goto 48, .iconst 0, .invokestatic 143, .putfield 703, .iinc 5 1, .goto 16, .aload 0, .iload 3, .aload 0, .getfield 703, .iload 4, .iconst (-1), .ixor, .iand, .aload 1, .getfield 210, .iconst (-1), .ixor, .iand, .ior, .putfield 704, .aload 0, .getfield 700, .aload 1, .aload 1, .aload 0, .getfield 704, .iload 4, .invokevirtual 145, .invokevirtual 147, .return_]
def zv_148 : List (Nat × List Bool) := [(16, [true, true, false, true, true, true, false]), (45, [true, true, false, true, true, true, false]), (47, [true, true, false, true, true, true, false]), (48, [true, true, false, true, true, true, false]), (52, [true, true, false, true, true, false, false])]
/-- 149: ClauseDesk$Contract.write (LClauseDesk$Library;)V -/
def zc_149 : List Instr := [.aload 0, .getfield 700, .getfield 1006, .astore 2, .iconst 0, .istore 3, .iload 3, .aload 0, .getfield 700, .getfield 1001, .if_icmp .ge 67, .aload 0, .getfield 700, .getfield 1002, .iload 3, .iaload, .istore 4, .aload 2, .iload 3, .iconst 1, .iadd, .invokevirtual 134, .aload 2, .iconst 46, .invokevirtual 132, .aload 2, .iconst 32, .invokevirtual 132, .aload 0, .getfield 700, .getfield 1004, .iload 4, .aload 2, .getfield 1101, .iastore, .aload 0, .getfield 702, .aload 1, .getfield 203, .iload 4, .aaload, .getfield 609, .aload 1, .getfield 203, .iload 4, .aaload, .getfield 610, .invokevirtual 141, .aload 0, .getfield 700, .getfield 1005, .iload 4, .aload 2, .getfield 1101, .iastore, .aload 2, .iconst 10, .invokevirtual 132, .aload 0, .getfield 705, .iload 3, .aload 0, .getfield 702, .getfield 907, .iastore, .iinc 3 1, .goto 6, .return_]
def zv_149 : List (Nat × List Bool) := [(6, [true, true, true, true, false]), (67, [false, false, false, false, false])]
/-- 150: ClauseDesk$Contract.meaningOf (LClauseDesk$Library;I)I -/
def zc_150 : List Instr := [.iconst 0, .aload 0, .getfield 201, .aload 0, .getfield 202, .iload 1, .invokevirtual 130, .invokevirtual 97, .invokestatic 18, .ireturn]
def zv_150 : List (Nat × List Bool) := []
/-- 151: ClauseDesk$Contract.tallyItem (LClauseDesk$Library;II)V -/
def zc_151 : List Instr := [.aload 1, .getfield 202, .iload 2, .invokevirtual 129, .astore 4, .aload 1, .iload 2, .invokestatic 150, .istore 5, .aload 4, .ldc 8, .if_acmp .eq 15, .iload 5, .iconst 24, .if_icmp .lt 16, .return_, .aload 4, .ldc 10, .if_acmp .ne 28, .aload 0, .getfield 707, .iload 5, .dup2, .iaload, .iconst 1, .iadd, .iastore, .return_, .aload 0, .getfield 706, .iload 5, .dup2, .iaload, .iconst 1, .iadd, .iastore, .aload 0, .getfield 708, .iload 5, .iaload, .ifCond .ge 46, .aload 0, .getfield 708, .iload 5, .iload 3, .iastore, .return_]
def zv_151 : List (Nat × List Bool) := [(15, [false, false, false, false, false, false]), (16, [true, false, false, true, true, true]), (28, [true, false, false, true, false, true]), (46, [false, false, false, false, false, false])]
/-- 152: ClauseDesk$Contract.tally (LClauseDesk$Library;)V -/
def zc_152 : List Instr := [.iconst 0, .istore 2, .iload 2, .iconst 24, .if_icmp .ge 27, .aload 0, .getfield 706, .iload 2, .iconst 0, .iastore, .aload 0, .getfield 707, .iload 2, .iconst 0, .iastore, .aload 0, .getfield 708, .iload 2, .iconst (-1), .iastore, .aload 0, .getfield 709, .iload 2, .iconst 0, .iastore, .iinc 2 1, .goto 2, .iconst 0, .istore 2, .iconst 0, .istore 3, .iload 3, .aload 0, .getfield 700, .getfield 1001, .if_icmp .ge 59, .iload 2, .aload 0, .getfield 705, .iload 3, .iaload, .if_icmp .ge 57, .aload 0, .aload 1, .aload 0, .getfield 702, .getfield 906, .iload 2, .iaload, .aload 0, .getfield 700, .getfield 1002, .iload 3, .iaload, .invokevirtual 151, .iinc 2 1, .goto 36, .iinc 3 1, .goto 31, .return_]
def zv_152 : List (Nat × List Bool) := [(2, [true, true, true, false]), (27, [true, true, false, false]), (31, [true, true, true, true]), (36, [true, true, true, true]), (57, [true, true, true, true]), (59, [false, false, false, false])]
/-- 153: ClauseDesk$Conflicts.clear ()V -/
def zc_153 : List Instr := [.aload 0, .iconst 0, .putfield 803, .return_]
def zv_153 : List (Nat × List Bool) := []
/-- 154: ClauseDesk$Contract.placeOf (I)I -/
def zc_154 : List Instr := [.iload 1, .ifCond .lt 5, .iload 1, .iconst 16, .if_icmp .lt 7, .iconst 0, .goto 12, .aload 0, .getfield 700, .getfield 1003, .iload 1, .iaload, .ireturn]
def zv_154 : List (Nat × List Bool) := [(5, [false, false]), (7, [true, true]), (12, [false, false])]
/-- 155: ClauseDesk$Contract.isConflict (III)Z -/
def zc_155 : List Instr := [.iload 0, .iconst 1, .if_icmp .ne 9, .iload 2, .ifCond .le 7, .iconst 1, .goto 8, .iconst 0, .ireturn, .iload 0, .iconst 2, .if_icmp .ne 18, .iload 2, .ifCond .ne 16, .iconst 1, .goto 24, .iconst 0, .goto 24, .iload 2, .iload 1, .if_icmp .le 23, .iconst 1, .goto 24, .iconst 0, .ireturn]
def zv_155 : List (Nat × List Bool) := [(7, [false, false, false]), (8, [false, false, false]), (9, [true, true, true]), (16, [false, false, false]), (18, [false, true, true]), (23, [false, false, false]), (24, [false, false, false])]
/-- 156: ClauseDesk$Conflicts.add (III)V -/
def zc_156 : List Instr := [.aload 0, .getfield 803, .iconst 60, .if_icmp .ge 28, .aload 0, .getfield 800, .aload 0, .getfield 803, .iload 1, .iastore, .aload 0, .getfield 801, .aload 0, .getfield 803, .iload 2, .iastore, .aload 0, .getfield 802, .aload 0, .getfield 803, .iload 3, .iastore, .aload 0, .dup, .getfield 803, .iconst 1, .iadd, .putfield 803, .return_]
def zv_156 : List (Nat × List Bool) := [(28, [false, false, false, false])]
/-- 157: ClauseDesk$Contract.judgeLinks (LClauseDesk$Library;IILClauseDesk$Kind;)V -/
def zc_157 : List Instr := [.aload 1, .getfield 203, .iload 2, .aaload, .getfield 606, .istore 5, .aload 1, .getfield 203, .iload 2, .aaload, .getfield 605, .istore 6, .iload 6, .iload 5, .if_icmp .ge 45, .aload 1, .getfield 201, .iload 6, .invokevirtual 79, .aload 4, .if_acmp .ne 43, .aload 1, .getfield 201, .iload 6, .iconst 1, .iadd, .invokevirtual 97, .istore 7, .iload 3, .aload 0, .iload 2, .invokevirtual 154, .aload 0, .iload 7, .invokevirtual 154, .invokestatic 155, .ifCond .eq 43, .aload 0, .getfield 701, .iload 3, .iload 2, .iload 7, .invokevirtual 156, .iinc 6 1, .goto 12, .return_]
def zv_157 : List (Nat × List Bool) := [(12, [true, true, true, true, true, true, true, false]), (43, [true, true, true, true, true, true, true, false]), (45, [false, false, false, false, false, false, false, false])]
/-- 158: ClauseDesk$Contract.judgeTerm (LClauseDesk$Kind;II)V -/
def zc_158 : List Instr := [.aload 1, .ldc 9, .if_acmp .ne 23, .aload 0, .getfield 709, .iload 2, .iaload, .ifCond .le 14, .aload 0, .getfield 701, .iconst 5, .iload 3, .iload 2, .invokevirtual 156, .aload 0, .getfield 709, .iload 2, .dup2, .iaload, .iconst 1, .iadd, .iastore, .goto 46, .aload 0, .getfield 706, .iload 2, .iaload, .ifCond .ne 35, .aload 0, .getfield 701, .iconst 6, .iload 3, .iload 2, .invokevirtual 156, .goto 46, .aload 0, .getfield 709, .iload 2, .iaload, .ifCond .ne 46, .aload 0, .getfield 701, .iconst 7, .iload 3, .iload 2, .invokevirtual 156, .return_]
def zv_158 : List (Nat × List Bool) := [(14, [true, false, true, false]), (23, [true, false, true, true]), (35, [true, false, true, true]), (46, [false, false, false, false])]
/-- 159: ClauseDesk$Contract.judgeItem (LClauseDesk$Library;II)V -/
def zc_159 : List Instr := [.aload 1, .getfield 202, .iload 2, .invokevirtual 129, .astore 4, .aload 1, .iload 2, .invokestatic 150, .istore 5, .aload 4, .ldc 8, .if_acmp .ne 23, .aload 0, .iload 5, .invokevirtual 154, .ifCond .ne 31, .aload 0, .getfield 701, .iconst 4, .iload 3, .iload 5, .invokevirtual 156, .goto 31, .iload 5, .iconst 24, .if_icmp .ge 31, .aload 0, .aload 4, .iload 5, .iload 3, .invokevirtual 158, .return_]
def zv_159 : List (Nat × List Bool) := [(23, [true, false, false, true, true, true]), (31, [false, false, false, false, false, false])]
/-- 160: ClauseDesk$Contract.judge (LClauseDesk$Library;)V -/
def zc_160 : List Instr := [.aload 0, .getfield 701, .invokevirtual 153, .iconst 0, .istore 2, .iconst 0, .istore 3, .iload 3, .aload 0, .getfield 700, .getfield 1001, .if_icmp .ge 55, .aload 0, .getfield 700, .getfield 1002, .iload 3, .iaload, .istore 4, .aload 0, .aload 1, .iload 4, .iconst 1, .ldc 6, .invokevirtual 157, .aload 0, .aload 1, .iload 4, .iconst 2, .ldc 5, .invokevirtual 157, .aload 0, .aload 1, .iload 4, .iconst 3, .ldc 7, .invokevirtual 157, .iload 2, .aload 0, .getfield 705, .iload 3, .iaload, .if_icmp .ge 53, .aload 0, .aload 1, .aload 0, .getfield 702, .getfield 906, .iload 2, .iaload, .iload 4, .invokevirtual 159, .iinc 2 1, .goto 36, .iinc 3 1, .goto 7, .iconst 0, .istore 3, .iload 3, .aload 1, .getfield 209, .if_icmp .ge 82, .aload 0, .getfield 706, .iload 3, .iaload, .ifCond .le 80, .aload 0, .getfield 707, .iload 3, .iaload, .ifCond .ne 80, .aload 0, .getfield 701, .iconst 8, .aload 0, .getfield 708, .iload 3, .iaload, .iload 3, .invokevirtual 156, .iinc 3 1, .goto 57, .return_]
def zv_160 : List (Nat × List Bool) := [(7, [true, true, true, true, false]), (36, [true, true, true, true, true]), (53, [true, true, true, true, false]), (55, [true, true, false, false, false]), (57, [true, true, false, true, false]), (80, [true, true, false, true, false]), (82, [false, false, false, false, false])]
/-- 161: ClauseDesk$Contract.draw (LClauseDesk$Library;[III)V -/
def zc_161 : List Instr := [.aload 0, .aload 1, .aload 2, .iload 3, .iload 4, .invokevirtual 148, .aload 0, .aload 1, .invokevirtual 149, .aload 0, .aload 1, .invokevirtual 152, .aload 0, .aload 1, .invokevirtual 160, .return_]
def zv_161 : List (Nat × List Bool) := []
/-- 162: ClauseDesk.teach ()I -/
def zc_162 : List Instr := [.aload 0, .getfield 104, .aload 0, .getfield 100, .aload 0, .getfield 101, .invokevirtual 77, .aload 0, .iconst 0, .putfield 101, .aload 0, .getfield 104, .getfield 200, .invokevirtual 108, .ifCond .eq 19, .aload 0, .getfield 104, .invokevirtual 123, .goto 20, .iconst 1, .istore 1, .aload 0, .aload 0, .getfield 104, .iload 1, .invokevirtual 124, .putfield 102, .iload 1, .ifCond .ne 42, .aload 0, .invokevirtual 127, .aload 0, .getfield 108, .aload 0, .getfield 103, .aload 0, .getfield 105, .aload 0, .getfield 106, .aload 0, .getfield 107, .invokevirtual 161, .iload 1, .ireturn]
def zv_162 : List (Nat × List Bool) := [(19, [true, false]), (20, [true, false]), (42, [false, true])]
/-- 163: ClauseDeskLaw.tell (LClauseDesk;Ljava/lang/String;)I -/
def zc_163 : List Instr := [.iconst 0, .istore 2, .iload 2, .aload 1, .invokevirtual 17, .if_icmp .ge 62, .iconst 5, .newarray .int, .astore 3, .iconst 0, .istore 4, .iload 4, .iconst 20, .if_icmp .ge 42, .aload 3, .iload 4, .iconst 4, .idiv, .aload 3, .iload 4, .iconst 4, .idiv, .iaload, .iconst 8, .ishl, .iload 2, .iload 4, .iadd, .aload 1, .invokevirtual 17, .if_icmp .ge 37, .aload 1, .iload 2, .iload 4, .iadd, .invokevirtual 60, .goto 38, .iconst 32, .ior, .iastore, .iinc 4 1, .goto 11, .aload 0, .aload 3, .iconst 0, .iaload, .aload 3, .iconst 1, .iaload, .aload 3, .iconst 2, .iaload, .aload 3, .iconst 3, .iaload, .aload 3, .iconst 4, .iaload, .invokevirtual 62, .pop, .iinc 2 20, .goto 2, .aload 0, .aload 1, .invokevirtual 17, .invokevirtual 63, .pop, .aload 0, .invokevirtual 162, .ireturn]
def zv_163 : List (Nat × List Bool) := [(2, [true, true, true, false, false]), (11, [true, true, true, true, true]), (37, [true, true, true, true, true]), (38, [true, true, true, true, true]), (42, [true, true, true, true, false]), (62, [true, true, false, false, false])]
/-- 164: ClauseDesk.isFact (I)Z -/
def zc_164 : List Instr := [.iload 1, .ifCond .lt 9, .iload 1, .aload 0, .getfield 103, .getfield 207, .if_icmp .ge 9, .iconst 1, .goto 10, .iconst 0, .ireturn]
def zv_164 : List (Nat × List Bool) := [(9, [false, false]), (10, [false, false])]
/-- 165: ClauseDesk.setFact (II)I -/
def zc_165 : List Instr := [.aload 0, .iload 1, .invokevirtual 164, .ifCond .ne 8, .athrow, .dup, .athrow, .athrow, .iload 2, .iconst (-99999), .if_icmp .lt 14, .iload 2, .iconst 99999, .if_icmp .le 18, .athrow, .dup, .athrow, .athrow, .aload 0, .getfield 105, .iload 1, .iaload, .istore 3, .aload 0, .getfield 105, .iload 1, .iload 2, .iastore, .aload 0, .getfield 108, .aload 0, .getfield 103, .aload 0, .getfield 105, .aload 0, .getfield 106, .aload 0, .getfield 107, .invokevirtual 161, .iload 3, .ireturn]
def zv_165 : List (Nat × List Bool) := [(8, [true, true, true, false]), (14, [false, false, false, false]), (18, [true, true, true, false])]
/-- 166: ClauseDesk.isClause (I)Z -/
def zc_166 : List Instr := [.iload 1, .ifCond .lt 9, .iload 1, .aload 0, .getfield 103, .getfield 208, .if_icmp .ge 9, .iconst 1, .goto 10, .iconst 0, .ireturn]
def zv_166 : List (Nat × List Bool) := [(9, [false, false]), (10, [false, false])]
/-- 167: ClauseDesk.choiceOf (I)I -/
def zc_167 : List Instr := [.aload 0, .getfield 106, .iload 1, .invokestatic 144, .ifCond .eq 7, .iconst 1, .ireturn, .aload 0, .getfield 107, .iload 1, .invokestatic 144, .ifCond .eq 14, .iconst 0, .goto 15, .iconst (-1), .ireturn]
def zv_167 : List (Nat × List Bool) := [(7, [true, true]), (14, [false, false]), (15, [false, false])]
/-- 168: ClauseDesk.choose (II)I -/
def zc_168 : List Instr := [.aload 0, .iload 1, .invokevirtual 166, .ifCond .ne 8, .athrow, .dup, .athrow, .athrow, .iload 2, .iconst (-1), .if_icmp .lt 14, .iload 2, .iconst 1, .if_icmp .le 18, .athrow, .dup, .athrow, .athrow, .aload 0, .iload 1, .invokevirtual 167, .istore 3, .aload 0, .aload 0, .getfield 106, .iload 1, .iload 2, .iconst 1, .if_icmp .ne 31, .iconst 1, .goto 32, .iconst 0, .invokestatic 143, .putfield 106, .aload 0, .aload 0, .getfield 107, .iload 1, .iload 2, .ifCond .ne 42, .iconst 1, .goto 43, .iconst 0, .invokestatic 143, .putfield 107, .aload 0, .getfield 108, .aload 0, .getfield 103, .aload 0, .getfield 105, .aload 0, .getfield 106, .aload 0, .getfield 107, .invokevirtual 161, .iload 3, .ireturn]
def zv_168 : List (Nat × List Bool) := [(8, [true, true, true, false]), (14, [false, false, false, false]), (18, [true, true, true, false]), (31, [true, true, true, true]), (32, [true, true, true, true]), (42, [true, false, false, true]), (43, [true, false, false, true])]
/-- 169: ClauseDesk.itemBytes (LClauseDesk$Clause;)I -/
def zc_169 : List Instr := [.aload 0, .getfield 111, .invokevirtual 125, .aload 0, .getfield 110, .aload 0, .getfield 103, .aload 0, .getfield 105, .aload 0, .getfield 108, .getfield 700, .getfield 1003, .aload 0, .getfield 111, .invokevirtual 128, .aload 0, .getfield 110, .aload 1, .getfield 609, .aload 1, .getfield 610, .invokevirtual 141, .aload 0, .getfield 111, .getfield 1101, .ireturn]
def zv_169 : List (Nat × List Bool) := []
/-- 170: ClauseDesk.toldOfClause (II)I -/
def zc_170 : List Instr := [.aload 0, .getfield 103, .getfield 203, .iload 1, .aaload, .astore 3, .iload 2, .tableswitch 56 0 7 #[8, 12, 22, 33, 40, 47, 50, 53], .aload 0, .iload 1, .invokevirtual 167, .ireturn, .aload 0, .getfield 108, .getfield 703, .iload 1, .invokestatic 144, .ifCond .eq 20, .iconst 1, .goto 21, .iconst 0, .ireturn, .aload 0, .getfield 108, .getfield 700, .getfield 1000, .iload 1, .invokestatic 144, .ifCond .eq 31, .iconst 1, .goto 32, .iconst 0, .ireturn, .aload 0, .getfield 108, .getfield 700, .getfield 1003, .iload 1, .iaload, .ireturn, .aload 3, .getfield 600, .ifCond .eq 45, .iconst 1, .goto 46, .iconst 0, .ireturn, .aload 3, .getfield 602, .ireturn, .aload 3, .getfield 603, .ireturn, .aload 3, .getfield 604, .ireturn, .aload 0, .aload 3, .invokevirtual 169, .ireturn]
def zv_170 : List (Nat × List Bool) := [(8, [true, true, false, false]), (12, [true, true, false, false]), (20, [false, false, false, false]), (21, [false, false, false, false]), (22, [true, true, false, false]), (31, [false, false, false, false]), (32, [false, false, false, false]), (33, [true, true, false, false]), (40, [false, false, false, true]), (45, [false, false, false, false]), (46, [false, false, false, false]), (47, [false, false, false, true]), (50, [false, false, false, true]), (53, [false, false, false, true]), (56, [true, false, false, true])]
/-- 171: ClauseDesk.clause (II)I -/
def zc_171 : List Instr := [.aload 0, .iload 1, .invokevirtual 166, .ifCond .eq 9, .iload 2, .ifCond .lt 9, .iload 2, .iconst 9, .if_icmp .lt 13, .athrow, .dup, .athrow, .athrow, .aload 0, .iload 1, .iload 2, .invokevirtual 170, .ireturn]
def zv_171 : List (Nat × List Bool) := [(9, [false, false, false]), (13, [true, true, true])]
/-- 172: ClauseDesk$Contract.bytes ()I -/
def zc_172 : List Instr := [.aload 0, .getfield 700, .getfield 1006, .getfield 1101, .iconst 6000, .invokestatic 21, .ireturn]
def zv_172 : List (Nat × List Bool) := []
/-- 173: ClauseDesk$Library.worthOf (I)I -/
def zc_173 : List Instr := [.iconst 0, .istore 2, .iconst 0, .istore 3, .iload 3, .aload 0, .getfield 208, .if_icmp .ge 27, .iload 2, .iload 1, .aload 0, .getfield 210, .iand, .iload 3, .invokestatic 144, .ifCond .eq 22, .aload 0, .getfield 203, .iload 3, .aaload, .getfield 601, .goto 23, .iconst 0, .iadd, .istore 2, .iinc 3 1, .goto 4, .iload 2, .ireturn]
def zv_173 : List (Nat × List Bool) := [(4, [true, true, true, true]), (22, [true, true, false, true]), (23, [true, true, false, true]), (27, [false, false, true, false])]
/-- 174: ClauseDesk.counted (I)I -/
def zc_174 : List Instr := [.iload 1, .tableswitch 44 0 8 #[2, 6, 10, 14, 19, 22, 27, 32, 36], .aload 0, .getfield 103, .getfield 207, .ireturn, .aload 0, .getfield 103, .getfield 208, .ireturn, .aload 0, .getfield 103, .getfield 209, .ireturn, .aload 0, .getfield 103, .getfield 210, .invokestatic 115, .ireturn, .aload 0, .getfield 101, .ireturn, .aload 0, .getfield 108, .getfield 700, .getfield 1001, .ireturn, .aload 0, .getfield 108, .getfield 701, .getfield 803, .ireturn, .aload 0, .getfield 108, .invokevirtual 172, .ireturn, .aload 0, .getfield 103, .aload 0, .getfield 108, .getfield 700, .getfield 1000, .invokevirtual 173, .ireturn, .aload 0, .getfield 112, .getfield 1001, .ireturn]
def zv_174 : List (Nat × List Bool) := [(2, [true, false]), (6, [true, false]), (10, [true, false]), (14, [true, false]), (19, [true, false]), (22, [true, false]), (27, [true, false]), (32, [true, false]), (36, [true, false]), (44, [true, false])]
/-- 175: ClauseDesk.count (I)I -/
def zc_175 : List Instr := [.iload 1, .ifCond .lt 5, .iload 1, .iconst 10, .if_icmp .lt 9, .athrow, .dup, .athrow, .athrow, .aload 0, .iload 1, .invokevirtual 174, .ireturn]
def zv_175 : List (Nat × List Bool) := [(5, [false, false]), (9, [true, true])]
/-- 176: ClauseDesk$Conflicts.told (II)I -/
def zc_176 : List Instr := [.iload 1, .ifCond .lt 6, .iload 1, .aload 0, .getfield 803, .if_icmp .lt 8, .iconst 0, .ireturn, .iload 2, .ifCond .ne 15, .aload 0, .getfield 800, .iload 1, .iaload, .ireturn, .iload 2, .iconst 1, .if_icmp .ne 23, .aload 0, .getfield 801, .iload 1, .iaload, .goto 27, .aload 0, .getfield 802, .iload 1, .iaload, .ireturn]
def zv_176 : List (Nat × List Bool) := [(6, [false, false, false]), (8, [true, true, true]), (15, [true, true, true]), (23, [true, true, false]), (27, [false, false, false])]
/-- 177: ClauseDesk.conflict (II)I -/
def zc_177 : List Instr := [.iload 1, .ifCond .lt 13, .iload 1, .aload 0, .getfield 108, .getfield 701, .getfield 803, .if_icmp .ge 13, .iload 2, .ifCond .lt 13, .iload 2, .iconst 3, .if_icmp .lt 17, .athrow, .dup, .athrow, .athrow, .aload 0, .getfield 108, .getfield 701, .iload 1, .iload 2, .invokevirtual 176, .ireturn]
def zv_177 : List (Nat × List Bool) := [(13, [false, false, false]), (17, [true, true, true])]
/-- 178: ClauseDesk.clauseAt (I)I -/
def zc_178 : List Instr := [.iload 1, .iconst 1, .if_icmp .lt 9, .iload 1, .aload 0, .getfield 108, .getfield 700, .getfield 1001, .if_icmp .le 13, .athrow, .dup, .athrow, .athrow, .aload 0, .getfield 108, .getfield 700, .getfield 1002, .iload 1, .iconst 1, .isub, .iaload, .ireturn]
def zv_178 : List (Nat × List Bool) := [(9, [false, false]), (13, [true, true])]
/-- 179: ClauseDesk$Contract.toldOfTerm (II)I -/
def zc_179 : List Instr := [.iload 1, .ifCond .lt 5, .iload 1, .iconst 24, .if_icmp .lt 7, .iconst 0, .ireturn, .iload 2, .ifCond .ne 14, .aload 0, .getfield 706, .iload 1, .iaload, .ireturn, .iload 2, .iconst 1, .if_icmp .ne 22, .aload 0, .getfield 707, .iload 1, .iaload, .goto 26, .aload 0, .getfield 708, .iload 1, .iaload, .ireturn]
def zv_179 : List (Nat × List Bool) := [(5, [false, false, false]), (7, [true, true, true]), (14, [true, true, true]), (22, [true, true, false]), (26, [false, false, false])]
/-- 180: ClauseDesk.term (II)I -/
def zc_180 : List Instr := [.iload 1, .ifCond .lt 12, .iload 1, .aload 0, .getfield 103, .getfield 209, .if_icmp .ge 12, .iload 2, .ifCond .lt 12, .iload 2, .iconst 3, .if_icmp .lt 16, .athrow, .dup, .athrow, .athrow, .aload 0, .getfield 108, .iload 1, .iload 2, .invokevirtual 179, .ireturn]
def zv_180 : List (Nat × List Bool) := [(12, [false, false, false]), (16, [true, true, true])]
/-- 181: ClauseDesk$Conflicts.ofKind (I)I -/
def zc_181 : List Instr := [.iconst 0, .istore 2, .iconst 0, .istore 3, .iload 3, .aload 0, .getfield 803, .if_icmp .ge 22, .iload 2, .aload 0, .getfield 800, .iload 3, .iaload, .iload 1, .if_icmp .ne 17, .iconst 1, .goto 18, .iconst 0, .iadd, .istore 2, .iinc 3 1, .goto 4, .iload 2, .ireturn]
def zv_181 : List (Nat × List Bool) := [(4, [true, true, true, true]), (17, [true, true, false, true]), (18, [true, true, false, true]), (22, [false, false, true, false])]
/-- 182: ClauseDesk.conflicts (I)I -/
def zc_182 : List Instr := [.iload 1, .iconst 1, .if_icmp .lt 6, .iload 1, .iconst 8, .if_icmp .le 10, .athrow, .dup, .athrow, .athrow, .aload 0, .getfield 108, .getfield 701, .iload 1, .invokevirtual 181, .ireturn]
def zv_182 : List (Nat × List Bool) := [(6, [false, false]), (10, [true, true])]
/-- 183: ClauseDesk.friction ()D -/
def zc_183 : List Instr := [.aload 0, .getfield 108, .getfield 700, .getfield 1001, .istore 1, .iload 1, .ifCond .ne 9, .dconst 0, .goto 17, .aload 0, .getfield 108, .getfield 701, .getfield 803, .i2d, .iload 1, .i2d, .ddiv, .dreturn]
def zv_183 : List (Nat × List Bool) := [(9, [true, true]), (17, [false, false])]
/-- 184: ClauseDesk.would (III)I -/
def zc_184 : List Instr := [.aload 0, .iload 1, .invokevirtual 166, .ifCond .eq 9, .iload 3, .ifCond .lt 9, .iload 3, .iconst 4, .if_icmp .lt 13, .athrow, .dup, .athrow, .athrow, .iload 2, .iconst (-1), .if_icmp .lt 19, .iload 2, .iconst 1, .if_icmp .le 23, .athrow, .dup, .athrow, .athrow, .aload 0, .getfield 109, .aload 0, .getfield 103, .aload 0, .getfield 105, .aload 0, .getfield 106, .iload 1, .iload 2, .iconst 1, .if_icmp .ne 37, .iconst 1, .goto 38, .iconst 0, .invokestatic 143, .aload 0, .getfield 107, .iload 1, .iload 2, .ifCond .ne 46, .iconst 1, .goto 47, .iconst 0, .invokestatic 143, .invokevirtual 161, .iload 3, .tableswitch 69 0 2 #[51, 56, 61], .aload 0, .getfield 109, .getfield 700, .getfield 1001, .ireturn, .aload 0, .getfield 109, .getfield 701, .getfield 803, .ireturn, .aload 0, .getfield 103, .aload 0, .getfield 109, .getfield 700, .getfield 1000, .invokevirtual 173, .ireturn, .aload 0, .getfield 109, .invokevirtual 172, .ireturn]
def zv_184 : List (Nat × List Bool) := [(9, [false, false, false, false]), (13, [true, true, true, true]), (19, [false, false, false, false]), (23, [true, true, true, true]), (37, [true, true, true, true]), (38, [true, true, true, true]), (46, [true, false, false, true]), (47, [true, false, false, true]), (51, [true, false, false, false]), (56, [true, false, false, false]), (61, [true, false, false, false]), (69, [true, false, false, false])]
/-- 185: ClauseDesk$Library.barringOrBarred (I)I -/
def zc_185 : List Instr := [.iconst 0, .istore 2, .iconst 0, .istore 3, .iload 3, .aload 0, .getfield 208, .if_icmp .ge 34, .iload 1, .iload 3, .invokestatic 144, .ifCond .eq 20, .aload 0, .getfield 203, .iload 3, .aaload, .getfield 603, .iload 1, .iand, .goto 21, .iconst 0, .istore 4, .iload 4, .ifCond .eq 32, .iload 2, .iload 4, .iconst 1, .iload 3, .ishl, .ior, .ior, .istore 2, .iinc 3 1, .goto 4, .iload 2, .ireturn]
def zv_185 : List (Nat × List Bool) := [(4, [true, true, true, true, false]), (20, [true, true, true, true, false]), (21, [true, true, true, true, false]), (32, [true, true, true, true, false]), (34, [false, false, true, false, false])]
/-- 186: ClauseDesk$Library.isPeaceful (I)Z -/
def zc_186 : List Instr := [.iconst 0, .istore 2, .iconst 0, .istore 3, .iload 3, .aload 0, .getfield 208, .if_icmp .ge 24, .iload 2, .iload 1, .iload 3, .invokestatic 144, .ifCond .eq 19, .aload 0, .getfield 203, .iload 3, .aaload, .getfield 602, .goto 20, .iconst 0, .ior, .istore 2, .iinc 3 1, .goto 4, .iload 2, .iload 1, .iconst (-1), .ixor, .iand, .ifCond .ne 36, .aload 0, .iload 1, .invokevirtual 185, .ifCond .ne 36, .iconst 1, .goto 37, .iconst 0, .ireturn]
def zv_186 : List (Nat × List Bool) := [(4, [true, true, true, true]), (19, [true, true, false, true]), (20, [true, true, false, true]), (24, [true, true, true, false]), (36, [false, false, false, false]), (37, [false, false, false, false])]
/-- 187: ClauseDesk.advise ()I -/
def zc_187 : List Instr := [.aload 0, .getfield 103, .getfield 210, .aload 0, .getfield 106, .iconst (-1), .ixor, .iand, .aload 0, .getfield 107, .iconst (-1), .ixor, .iand, .istore 1, .iconst (-1), .istore 2, .iconst 0, .istore 3, .iconst 0, .istore 4, .iload 4, .iload 1, .if_icmp .gt 61, .iload 4, .iload 1, .iconst (-1), .ixor, .iand, .ifCond .ne 59, .aload 0, .getfield 103, .aload 0, .getfield 108, .getfield 704, .iload 4, .ior, .aload 0, .getfield 107, .invokevirtual 145, .istore 5, .aload 0, .getfield 103, .iload 5, .invokevirtual 173, .istore 6, .aload 0, .getfield 103, .iload 5, .invokevirtual 186, .ifCond .eq 59, .iload 2, .ifCond .lt 55, .iload 6, .iload 3, .if_icmp .le 59, .iload 4, .istore 2, .iload 6, .istore 3, .iinc 4 1, .goto 20, .iload 2, .ireturn]
def zv_187 : List (Nat × List Bool) := [(20, [true, true, true, true, true, false, false]), (55, [true, true, false, false, true, false, true]), (59, [true, true, true, true, true, false, false]), (61, [false, false, true, false, false, false, false])]
/-- 188: ClauseDesk.fewest ()I -/
def zc_188 : List Instr := [.aload 0, .getfield 108, .getfield 700, .getfield 1000, .istore 1, .aload 0, .getfield 103, .iload 1, .invokevirtual 185, .istore 2, .iload 2, .istore 3, .iconst 0, .istore 4, .iload 4, .iload 3, .if_icmp .gt 47, .iload 4, .iload 3, .iconst (-1), .ixor, .iand, .ifCond .ne 30, .iload 4, .invokestatic 115, .iload 2, .invokestatic 115, .if_icmp .ge 30, .iconst 1, .goto 31, .iconst 0, .istore 5, .iload 5, .ifCond .eq 45, .aload 0, .getfield 103, .iload 1, .iload 4, .iconst (-1), .ixor, .iand, .invokevirtual 185, .ifCond .ne 45, .iload 4, .istore 2, .iinc 4 1, .goto 14, .iload 2, .ireturn]
def zv_188 : List (Nat × List Bool) := [(14, [true, true, true, true, true, false]), (30, [true, true, true, true, true, false]), (31, [true, true, true, true, true, false]), (45, [true, true, true, true, true, false]), (47, [false, false, true, false, false, false])]
/-- 189: ClauseDeskLaw.law ([I)Z -/
def zc_189 : List Instr := [.new 1, .dup, .invokespecial 10, .astore 1, .new 13, .dup, .invokespecial 12, .astore 2, .aload 0, .iconst 7, .aload 2, .invokestatic 52, .astore 3, .aload 2, .invokestatic 57, .ifCond .ne 18, .iconst 1, .ireturn, .aload 1, .aload 2, .invokevirtual 41, .invokestatic 163, .ifCond .eq 25, .iconst 0, .ireturn, .aload 3, .getfield 1201, .istore 4, .iconst 0, .istore 5, .iload 5, .iconst 14, .if_icmp .ge 675, .aload 0, .iload 5, .invokestatic 14, .iconst 17, .iload 5, .imul, .iadd, .istore 6, .aload 1, .iload 6, .aload 3, .getfield 1200, .invokestatic 15, .iload 6, .iconst 3, .ishr, .iconst 24, .invokestatic 15, .iconst 2, .isub, .invokevirtual 165, .pop, .aload 1, .iload 6, .iconst 2, .ishr, .iload 4, .invokestatic 15, .iload 6, .iconst 5, .ishr, .iconst 3, .invokestatic 15, .iconst 1, .isub, .invokevirtual 168, .pop, .iconst 0, .istore 7, .iconst 0, .istore 8, .iconst 0, .istore 9, .iconst 0, .istore 10, .iload 10, .iload 4, .if_icmp .ge 124, .iload 7, .aload 1, .iload 10, .iconst 2, .invokevirtual 171, .iload 10, .ishl, .ior, .istore 7, .iload 8, .aload 1, .iload 10, .iconst 2, .invokevirtual 171, .iadd, .istore 8, .iload 9, .aload 1, .iload 10, .iconst 2, .invokevirtual 171, .iconst 1, .if_icmp .ne 119, .aload 3, .getfield 1206, .iload 10, .baload, .ifCond .eq 119, .aload 3, .getfield 1207, .iload 10, .iaload, .aload 3, .getfield 1208, .iload 10, .iaload, .isub, .goto 120, .iconst 0, .iadd, .istore 9, .iinc 10 1, .goto 78, .aload 1, .iconst 5, .invokevirtual 175, .iload 8, .if_icmp .ne 147, .aload 1, .iconst 8, .invokevirtual 175, .iload 9, .if_icmp .ne 147, .aload 1, .iconst 0, .iconst 4, .invokevirtual 171, .aload 3, .getfield 1206, .iconst 0, .baload, .ifCond .eq 145, .iconst 1, .goto 146, .iconst 0, .if_icmp .eq 149, .iconst 0, .ireturn, .iconst 9, .newarray .int, .astore 10, .iconst 0, .istore 11, .iload 11, .aload 1, .iconst 6, .invokevirtual 175, .if_icmp .ge 171, .aload 10, .aload 1, .iload 11, .iconst 0, .invokevirtual 177, .dup2, .iaload, .iconst 1, .iadd, .iastore, .iinc 11 1, .goto 154, .iconst 0, .istore 11, .iconst 0, .istore 12, .iconst 0, .istore 13, .iconst 0, .istore 14, .iconst 0, .istore 15, .iload 15, .iload 4, .if_icmp .ge 408, .iload 7, .iload 15, .ishr, .iconst 1, .iand, .iconst 1, .if_icmp .ne 193, .iconst 1, .goto 194, .iconst 0, .istore 16, .aload 1, .iload 15, .iconst 0, .invokevirtual 171, .istore 17, .iload 17, .iconst 1, .if_icmp .eq 216, .iload 17, .ifCond .ge 218, .aload 3, .getfield 1206, .iload 15, .baload, .ifCond .ne 218, .aload 1, .iload 15, .iconst 1, .invokevirtual 171, .iconst 1, .if_icmp .ne 218, .iconst 1, .goto 219, .iconst 0, .istore 18, .iconst 0, .istore 19, .iconst 0, .istore 20, .iload 20, .iload 4, .if_icmp .ge 255, .iload 19, .ifCond .ne 249, .iload 20, .iload 15, .if_icmp .eq 251, .iload 7, .iload 20, .ishr, .iconst 1, .iand, .iconst 1, .if_icmp .ne 251, .aload 1, .iload 20, .iconst 5, .invokevirtual 171, .iload 15, .ishr, .iconst 1, .iand, .iconst 1, .if_icmp .ne 251, .iconst 1, .goto 252, .iconst 0, .istore 19, .iinc 20 1, .goto 224, .iload 16, .iload 18, .ifCond .ne 264, .iload 16, .ifCond .eq 266, .iload 19, .ifCond .eq 266, .iload 17, .ifCond .eq 266, .iconst 1, .goto 267, .iconst 0, .if_icmp .ne 274, .iload 16, .ifCond .ne 276, .iload 19, .ifCond .eq 276, .iload 17, .ifCond .eq 276, .iconst 0, .ireturn, .aload 1, .iload 15, .iconst 3, .invokevirtual 171, .istore 20, .iload 16, .iload 20, .ifCond .le 286, .iconst 1, .goto 287, .iconst 0, .if_icmp .ne 298, .iload 20, .iload 8, .if_icmp .gt 298, .iload 16, .ifCond .eq 300, .aload 1, .iload 20, .invokevirtual 178, .iload 15, .if_icmp .eq 300, .iconst 0, .ireturn, .iload 16, .ifCond .ne 303, .goto 406, .iload 14, .aload 1, .iload 15, .iconst 8, .invokevirtual 171, .iconst 3, .iadd, .iload 20, .iconst 9, .if_icmp .le 315, .iconst 2, .goto 316, .iconst 1, .iadd, .iadd, .istore 14, .aload 3, .getfield 1210, .iload 15, .aaload, .astore 21, .aload 21, .arraylength, .istore 22, .iconst 0, .istore 23, .iload 23, .iload 22, .if_icmp .ge 346, .aload 21, .iload 23, .iaload, .istore 24, .iload 11, .iload 7, .iload 24, .ishr, .iconst 1, .iand, .iadd, .istore 11, .iinc 23 1, .goto 329, .aload 3, .getfield 1209, .iload 15, .aaload, .astore 21, .aload 21, .arraylength, .istore 22, .iconst 0, .istore 23, .iload 23, .iload 22, .if_icmp .ge 375, .aload 21, .iload 23, .iaload, .istore 24, .iload 12, .iconst 1, .iload 7, .iload 24, .ishr, .iconst 1, .iand, .isub, .iadd, .istore 12, .iinc 23 1, .goto 356, .aload 3, .getfield 1211, .iload 15, .aaload, .astore 21, .aload 21, .arraylength, .istore 22, .iconst 0, .istore 23, .iload 23, .iload 22, .if_icmp .ge 406, .aload 21, .iload 23, .iaload, .istore 24, .iload 13, .aload 1, .iload 24, .iconst 3, .invokevirtual 171, .iload 20, .if_icmp .le 401, .iconst 1, .goto 402, .iconst 0, .iadd, .istore 13, .iinc 23 1, .goto 385, .iinc 15 1, .goto 181, .aload 1, .iconst 7, .invokevirtual 175, .iconst 6000, .iload 14, .invokestatic 21, .if_icmp .ne 435, .aload 1, .iconst 6, .invokevirtual 175, .iconst 60, .if_icmp .ge 437, .aload 10, .iconst 1, .iaload, .iload 11, .if_icmp .ne 435, .aload 10, .iconst 2, .iaload, .iload 12, .if_icmp .ne 435, .aload 10, .iconst 3, .iaload, .iload 13, .if_icmp .eq 437, .iconst 0, .ireturn, .iconst 0, .istore 15, .iconst 0, .istore 16, .iconst 0, .istore 17, .iload 17, .aload 3, .getfield 1202, .if_icmp .ge 508, .aload 1, .iload 17, .iconst 0, .invokevirtual 180, .istore 18, .aload 1, .iload 17, .iconst 1, .invokevirtual 180, .istore 19, .iload 18, .ifCond .lt 486, .iload 19, .ifCond .lt 486, .iload 18, .ifCond .ne 465, .iconst 1, .goto 466, .iconst 0, .aload 1, .iload 17, .iconst 2, .invokevirtual 180, .ifCond .ge 473, .iconst 1, .goto 474, .iconst 0, .if_icmp .ne 486, .iload 18, .ifCond .le 488, .iload 7, .aload 1, .iload 17, .iconst 2, .invokevirtual 180, .ishr, .iconst 1, .iand, .ifCond .ne 488, .iconst 0, .ireturn, .iload 15, .iload 18, .ifCond .ne 493, .iload 19, .goto 494, .iconst 0, .iadd, .istore 15, .iload 16, .iload 18, .ifCond .le 503, .iload 19, .ifCond .ne 503, .iconst 1, .goto 504, .iconst 0, .iadd, .istore 16, .iinc 17 1, .goto 443, .aload 1, .iconst 6, .invokevirtual 175, .iconst 60, .if_icmp .ge 525, .aload 10, .iconst 6, .iaload, .iload 15, .if_icmp .ne 523, .aload 10, .iconst 8, .iaload, .iload 16, .if_icmp .eq 525, .iconst 0, .ireturn, .iconst 0, .istore 17, .iconst 1, .istore 18, .iload 18, .iconst 9, .if_icmp .ge 549, .aload 1, .iload 18, .invokevirtual 182, .aload 10, .iload 18, .iaload, .if_icmp .eq 541, .iconst 0, .ireturn, .iload 17, .aload 10, .iload 18, .iaload, .iadd, .istore 17, .iinc 18 1, .goto 529, .iload 17, .aload 1, .iconst 6, .invokevirtual 175, .if_icmp .ne 567, .aload 1, .invokevirtual 183, .iload 8, .ifCond .ne 560, .dconst 0, .goto 565, .iload 17, .i2d, .iload 8, .i2d, .ddiv, .dcmp .l, .ifCond .eq 569, .iconst 0, .ireturn, .iload 6, .iconst 4, .ishr, .iload 4, .invokestatic 15, .istore 18, .aload 1, .iload 18, .aload 1, .iload 18, .iconst 0, .invokevirtual 171, .iconst 0, .invokevirtual 184, .iload 8, .if_icmp .ne 612, .aload 1, .iload 18, .aload 1, .iload 18, .iconst 0, .invokevirtual 171, .iconst 1, .invokevirtual 184, .iload 17, .if_icmp .ne 612, .aload 1, .iload 18, .aload 1, .iload 18, .iconst 0, .invokevirtual 171, .iconst 2, .invokevirtual 184, .iload 9, .if_icmp .ne 612, .aload 1, .iload 18, .iconst 1, .iconst 0, .invokevirtual 184, .iconst 1, .if_icmp .ge 614, .iconst 0, .ireturn, .aload 1, .invokevirtual 187, .istore 19, .aload 1, .invokevirtual 188, .istore 20, .iload 19, .ifCond .ge 626, .iload 11, .iload 12, .iadd, .ifCond .eq 643, .iload 20, .iload 7, .iconst (-1), .ixor, .iand, .ifCond .ne 643, .iload 20, .ifCond .ne 636, .iconst 1, .goto 637, .iconst 0, .iload 11, .ifCond .ne 641, .iconst 1, .goto 642, .iconst 0, .if_icmp .eq 645, .iconst 0, .ireturn, .iconst 0, .istore 21, .iload 21, .iload 4, .if_icmp .ge 673, .iload 19, .ifCond .le 673, .iload 19, .iload 21, .ishr, .iconst 1, .iand, .iconst 1, .if_icmp .ne 671, .aload 3, .getfield 1206, .iload 21, .baload, .ifCond .eq 669, .aload 1, .iload 21, .iconst 0, .invokevirtual 171, .ifCond .lt 671, .iconst 0, .ireturn, .iinc 21 1, .goto 647, .iinc 5 1, .goto 30, .iconst 1, .ireturn]
def zv_189 : List (Nat × List Bool) := [(18, [true, true, true, true, false, false, false, false, false, false, false, false, false, false, false, false, false, false, false, false, false, false, false, false, false]), (25, [true, true, false, true, false, false, false, false, false, false, false, false, false, false, false, false, false, false, false, false, false, false, false, false, false]), (30, [true, true, false, true, true, true, false, false, false, false, false, false, false, false, false, false, false, false, false, false, false, false, false, false, false]), (78, [true, true, false, true, true, true, true, true, true, true, true, false, false, false, false, false, false, false, false, false, false, false, false, false, false]), (119, [true, true, false, true, true, true, true, true, true, false, true, false, false, false, false, false, false, false, false, false, false, false, false, false, false]), (120, [true, true, false, true, true, true, true, true, true, false, true, false, false, false, false, false, false, false, false, false, false, false, false, false, false]), (124, [true, true, false, true, true, true, true, true, true, true, false, false, false, false, false, false, false, false, false, false, false, false, false, false, false]), (145, [true, true, false, true, true, true, true, true, true, true, false, false, false, false, false, false, false, false, false, false, false, false, false, false, false]), (146, [true, true, false, true, true, true, true, true, true, true, false, false, false, false, false, false, false, false, false, false, false, false, false, false, false]), (147, [false, false, false, false, false, false, false, false, false, false, false, false, false, false, false, false, false, false, false, false, false, false, false, false, false]), (149, [true, true, false, true, true, true, true, true, true, true, false, false, false, false, false, false, false, false, false, false, false, false, false, false, false]), (154, [true, true, false, true, true, true, true, true, true, true, true, true, false, false, false, false, false, false, false, false, false, false, false, false, false]), (171, [true, true, false, true, true, true, true, true, true, true, true, false, false, false, false, false, false, false, false, false, false, false, false, false, false]), (181, [true, true, false, true, true, true, true, true, true, true, true, true, true, true, true, true, false, false, false, false, false, false, false, false, false]), (193, [true, true, false, true, true, true, true, true, true, true, true, true, true, true, true, true, false, false, false, false, false, false, false, false, false]), (194, [true, true, false, true, true, true, true, true, true, true, true, true, true, true, true, true, false, false, false, false, false, false, false, false, false]), (216, [true, true, false, true, true, true, true, true, true, true, true, true, true, true, true, true, true, true, false, false, false, false, false, false, false]), (218, [true, true, false, true, true, true, true, true, true, true, true, true, true, true, true, true, true, true, false, false, false, false, false, false, false]), (219, [true, true, false, true, true, true, true, true, true, true, true, true, true, true, true, true, true, true, false, false, false, false, false, false, false]), (224, [true, true, false, true, true, true, true, true, true, true, true, true, true, true, true, true, true, true, true, true, true, false, false, false, false]), (249, [true, true, false, true, true, true, true, true, true, true, true, true, true, true, true, true, true, true, true, false, true, false, false, false, false]), (251, [true, true, false, true, true, true, true, true, true, true, true, true, true, true, true, true, true, true, true, false, true, false, false, false, false]), (252, [true, true, false, true, true, true, true, true, true, true, true, true, true, true, true, true, true, true, true, false, true, false, false, false, false]), (255, [true, true, false, true, true, true, true, true, true, true, true, true, true, true, true, true, true, true, true, true, false, false, false, false, false]), (264, [true, true, false, true, true, true, true, true, true, true, true, true, true, true, true, true, true, true, false, true, false, false, false, false, false]), (266, [true, true, false, true, true, true, true, true, true, true, true, true, true, true, true, true, true, true, false, true, false, false, false, false, false]), (267, [true, true, false, true, true, true, true, true, true, true, true, true, true, true, true, true, true, true, false, true, false, false, false, false, false]), (274, [false, false, false, false, false, false, false, false, false, false, false, false, false, false, false, false, false, false, false, false, false, false, false, false, false]), (276, [true, true, false, true, true, true, true, true, true, true, true, true, true, true, true, true, true, false, false, false, false, false, false, false, false]), (286, [true, true, false, true, true, true, true, true, true, true, true, true, true, true, true, true, true, false, false, false, true, false, false, false, false]), (287, [true, true, false, true, true, true, true, true, true, true, true, true, true, true, true, true, true, false, false, false, true, false, false, false, false]), (298, [false, false, false, false, false, false, false, false, false, false, false, false, false, false, false, false, false, false, false, false, false, false, false, false, false]), (300, [true, true, false, true, true, true, true, true, true, true, true, true, true, true, true, true, true, false, false, false, true, false, false, false, false]), (303, [true, true, false, true, true, true, true, true, true, true, true, true, true, true, true, true, false, false, false, false, true, false, false, false, false]), (315, [true, true, false, true, true, true, true, true, true, true, true, true, true, true, false, true, false, false, false, false, true, false, false, false, false]), (316, [true, true, false, true, true, true, true, true, true, true, true, true, true, true, false, true, false, false, false, false, true, false, false, false, false]), (329, [true, true, false, true, true, true, true, true, true, true, true, true, true, true, true, true, false, false, false, false, true, true, true, true, false]), (346, [true, true, false, true, true, true, true, true, true, true, true, true, true, true, true, true, false, false, false, false, true, false, false, false, false]), (356, [true, true, false, true, true, true, true, true, true, true, true, true, true, true, true, true, false, false, false, false, true, true, true, true, false]), (375, [true, true, false, true, true, true, true, true, true, true, true, true, true, true, true, true, false, false, false, false, true, false, false, false, false]), (385, [true, true, false, true, true, true, true, true, true, true, true, true, true, true, true, true, false, false, false, false, true, true, true, true, false]), (401, [true, true, false, true, true, true, true, true, true, true, true, true, true, false, true, true, false, false, false, false, true, true, true, true, false]), (402, [true, true, false, true, true, true, true, true, true, true, true, true, true, false, true, true, false, false, false, false, true, true, true, true, false]), (406, [true, true, false, true, true, true, true, true, true, true, true, true, true, true, true, true, false, false, false, false, false, false, false, false, false]), (408, [true, true, false, true, true, true, true, true, true, true, true, true, true, true, true, false, false, false, false, false, false, false, false, false, false]), (435, [false, false, false, false, false, false, false, false, false, false, false, false, false, false, false, false, false, false, false, false, false, false, false, false, false]), (437, [true, true, false, true, true, true, true, true, true, true, true, true, true, false, false, false, false, false, false, false, false, false, false, false, false]), (443, [true, true, false, true, true, true, true, true, true, true, true, true, true, false, false, true, true, true, false, false, false, false, false, false, false]), (465, [true, true, false, true, true, true, true, true, true, true, true, true, true, false, false, true, true, true, true, true, false, false, false, false, false]), (466, [true, true, false, true, true, true, true, true, true, true, true, true, true, false, false, true, true, true, true, true, false, false, false, false, false]), (473, [true, true, false, true, true, true, true, true, true, true, true, true, true, false, false, true, true, true, true, true, false, false, false, false, false]), (474, [true, true, false, true, true, true, true, true, true, true, true, true, true, false, false, true, true, true, true, true, false, false, false, false, false]), (486, [false, false, false, false, false, false, false, false, false, false, false, false, false, false, false, false, false, false, false, false, false, false, false, false, false]), (488, [true, true, false, true, true, true, true, true, true, true, true, true, true, false, false, true, true, true, true, true, false, false, false, false, false]), (493, [true, true, false, true, true, true, true, true, true, true, true, true, true, false, false, false, true, true, true, true, false, false, false, false, false]), (494, [true, true, false, true, true, true, true, true, true, true, true, true, true, false, false, false, true, true, true, true, false, false, false, false, false]), (503, [true, true, false, true, true, true, true, true, true, true, true, true, true, false, false, true, false, true, false, false, false, false, false, false, false]), (504, [true, true, false, true, true, true, true, true, true, true, true, true, true, false, false, true, false, true, false, false, false, false, false, false, false]), (508, [true, true, false, true, true, true, true, true, true, true, true, true, true, false, false, true, true, false, false, false, false, false, false, false, false]), (523, [false, false, false, false, false, false, false, false, false, false, false, false, false, false, false, false, false, false, false, false, false, false, false, false, false]), (525, [true, true, false, true, true, true, true, true, true, true, true, true, true, false, false, false, false, false, false, false, false, false, false, false, false]), (529, [true, true, false, true, true, true, true, true, true, true, true, true, true, false, false, false, false, true, true, false, false, false, false, false, false]), (541, [true, true, false, true, true, true, true, true, true, true, true, true, true, false, false, false, false, true, true, false, false, false, false, false, false]), (549, [true, true, false, true, true, true, true, true, true, true, false, true, true, false, false, false, false, true, false, false, false, false, false, false, false]), (560, [true, true, false, true, true, true, true, true, true, true, false, true, true, false, false, false, false, true, false, false, false, false, false, false, false]), (565, [true, true, false, true, true, true, true, true, true, true, false, true, true, false, false, false, false, true, false, false, false, false, false, false, false]), (567, [false, false, false, false, false, false, false, false, false, false, false, false, false, false, false, false, false, false, false, false, false, false, false, false, false]), (569, [true, true, false, true, true, true, true, true, true, true, false, true, true, false, false, false, false, true, false, false, false, false, false, false, false]), (612, [false, false, false, false, false, false, false, false, false, false, false, false, false, false, false, false, false, false, false, false, false, false, false, false, false]), (614, [true, true, false, true, true, true, false, true, false, false, false, true, true, false, false, false, false, false, false, false, false, false, false, false, false]), (626, [true, true, false, true, true, true, false, true, false, false, false, true, false, false, false, false, false, false, false, true, true, false, false, false, false]), (636, [true, true, false, true, true, true, false, false, false, false, false, true, false, false, false, false, false, false, false, true, false, false, false, false, false]), (637, [true, true, false, true, true, true, false, false, false, false, false, true, false, false, false, false, false, false, false, true, false, false, false, false, false]), (641, [true, true, false, true, true, true, false, false, false, false, false, false, false, false, false, false, false, false, false, true, false, false, false, false, false]), (642, [true, true, false, true, true, true, false, false, false, false, false, false, false, false, false, false, false, false, false, true, false, false, false, false, false]), (643, [false, false, false, false, false, false, false, false, false, false, false, false, false, false, false, false, false, false, false, false, false, false, false, false, false]), (645, [true, true, false, true, true, true, false, false, false, false, false, false, false, false, false, false, false, false, false, true, false, false, false, false, false]), (647, [true, true, false, true, true, true, false, false, false, false, false, false, false, false, false, false, false, false, false, true, false, true, false, false, false]), (669, [false, false, false, false, false, false, false, false, false, false, false, false, false, false, false, false, false, false, false, false, false, false, false, false, false]), (671, [true, true, false, true, true, true, false, false, false, false, false, false, false, false, false, false, false, false, false, true, false, true, false, false, false]), (673, [true, true, false, true, true, true, false, false, false, false, false, false, false, false, false, false, false, false, false, false, false, false, false, false, false]), (675, [false, false, false, false, false, false, false, false, false, false, false, false, false, false, false, false, false, false, false, false, false, false, false, false, false])]
def z_codes : List (List Instr) := [zc_0, zc_1, zc_2, zc_3, zc_4, zc_5, zc_6, zc_7, zc_8, zc_9, zc_10, zc_11, zc_12, zc_13, zc_14, zc_15, zc_16, zc_17, zc_18, zc_19, zc_20, zc_21, zc_22, zc_23, zc_24, zc_25, zc_26, zc_27, zc_28, zc_29, zc_30, zc_31, zc_32, zc_33, zc_34, zc_35, zc_36, zc_37, zc_38, zc_39, zc_40, zc_41, zc_42, zc_43, zc_44, zc_45, zc_46, zc_47, zc_48, zc_49, zc_50, zc_51, zc_52, zc_53, zc_54, zc_55, zc_56, zc_57, zc_58, zc_59, zc_60, zc_61, zc_62, zc_63, zc_64, zc_65, zc_66, zc_67, zc_68, zc_69, zc_70, zc_71, zc_72, zc_73, zc_74, zc_75, zc_76, zc_77, zc_78, zc_79, zc_80, zc_81, zc_82, zc_83, zc_84, zc_85, zc_86, zc_87, zc_88, zc_89, zc_90, zc_91, zc_92, zc_93, zc_94, zc_95, zc_96, zc_97, zc_98, zc_99, zc_100, zc_101, zc_102, zc_103, zc_104, zc_105, zc_106, zc_107, zc_108, zc_109, zc_110, zc_111, zc_112, zc_113, zc_114, zc_115, zc_116, zc_117, zc_118, zc_119, zc_120, zc_121, zc_122, zc_123, zc_124, zc_125, zc_126, zc_127, zc_128, zc_129, zc_130, zc_131, zc_132, zc_133, zc_134, zc_135, zc_136, zc_137, zc_138, zc_139, zc_140, zc_141, zc_142, zc_143, zc_144, zc_145, zc_146, zc_147, zc_148, zc_149, zc_150, zc_151, zc_152, zc_153, zc_154, zc_155, zc_156, zc_157, zc_158, zc_159, zc_160, zc_161, zc_162, zc_163, zc_164, zc_165, zc_166, zc_167, zc_168, zc_169, zc_170, zc_171, zc_172, zc_173, zc_174, zc_175, zc_176, zc_177, zc_178, zc_179, zc_180, zc_181, zc_182, zc_183, zc_184, zc_185, zc_186, zc_187, zc_188, zc_189]
def z_lives : List (List (Nat × List Bool)) := [zv_0, zv_1, zv_2, zv_3, zv_4, zv_5, zv_6, zv_7, zv_8, zv_9, zv_10, zv_11, zv_12, zv_13, zv_14, zv_15, zv_16, zv_17, zv_18, zv_19, zv_20, zv_21, zv_22, zv_23, zv_24, zv_25, zv_26, zv_27, zv_28, zv_29, zv_30, zv_31, zv_32, zv_33, zv_34, zv_35, zv_36, zv_37, zv_38, zv_39, zv_40, zv_41, zv_42, zv_43, zv_44, zv_45, zv_46, zv_47, zv_48, zv_49, zv_50, zv_51, zv_52, zv_53, zv_54, zv_55, zv_56, zv_57, zv_58, zv_59, zv_60, zv_61, zv_62, zv_63, zv_64, zv_65, zv_66, zv_67, zv_68, zv_69, zv_70, zv_71, zv_72, zv_73, zv_74, zv_75, zv_76, zv_77, zv_78, zv_79, zv_80, zv_81, zv_82, zv_83, zv_84, zv_85, zv_86, zv_87, zv_88, zv_89, zv_90, zv_91, zv_92, zv_93, zv_94, zv_95, zv_96, zv_97, zv_98, zv_99, zv_100, zv_101, zv_102, zv_103, zv_104, zv_105, zv_106, zv_107, zv_108, zv_109, zv_110, zv_111, zv_112, zv_113, zv_114, zv_115, zv_116, zv_117, zv_118, zv_119, zv_120, zv_121, zv_122, zv_123, zv_124, zv_125, zv_126, zv_127, zv_128, zv_129, zv_130, zv_131, zv_132, zv_133, zv_134, zv_135, zv_136, zv_137, zv_138, zv_139, zv_140, zv_141, zv_142, zv_143, zv_144, zv_145, zv_146, zv_147, zv_148, zv_149, zv_150, zv_151, zv_152, zv_153, zv_154, zv_155, zv_156, zv_157, zv_158, zv_159, zv_160, zv_161, zv_162, zv_163, zv_164, zv_165, zv_166, zv_167, zv_168, zv_169, zv_170, zv_171, zv_172, zv_173, zv_174, zv_175, zv_176, zv_177, zv_178, zv_179, zv_180, zv_181, zv_182, zv_183, zv_184, zv_185, zv_186, zv_187, zv_188, zv_189]
def z_code (k : Nat) : List Instr := z_codes.getD k []
def z_lv (k : Nat) : List (Nat × List Bool) := z_lives.getD k []
def z_ml (k : Nat) : Nat := [1, 1, 1, 2, 1, 1, 1, 2, 2, 2, 1, 2, 1, 1, 2, 2, 1, 1, 2, 4, 6, 2, 3, 3, 2, 4, 3, 3, 2, 1, 1, 2, 2, 1, 1, 1, 2, 5, 3, 5, 2, 1, 2, 4, 7, 4, 2, 7, 1, 9, 7, 9, 8, 3, 2, 5, 2, 7, 1, 2, 2, 3, 6, 2, 2, 4, 1, 1, 4, 4, 4, 4, 4, 8, 4, 5, 8, 3, 1, 2, 2, 2, 1, 1, 3, 4, 1, 1, 4, 4, 5, 5, 1, 4, 4, 4, 3, 2, 3, 3, 2, 2, 2, 5, 4, 2, 4, 3, 3, 2, 2, 5, 5, 2, 4, 1, 2, 3, 3, 4, 3, 3, 3, 3, 2, 1, 2, 3, 5, 2, 2, 1, 2, 4, 7, 2, 2, 2, 3, 5, 5, 8, 1, 4, 2, 6, 4, 6, 7, 5, 2, 6, 4, 1, 2, 3, 4, 8, 4, 6, 5, 5, 2, 5, 2, 4, 2, 2, 4, 2, 4, 3, 1, 4, 2, 2, 3, 3, 2, 3, 3, 4, 2, 2, 4, 5, 4, 7, 6, 25].getD k 0
/-- how many arguments (the one called among them) -/
def z_na (k : Nat) : Nat := [1, 1, 1, 1, 1, 1, 1, 2, 2, 2, 1, 2, 1, 1, 2, 2, 1, 1, 2, 3, 2, 2, 2, 2, 2, 4, 3, 2, 2, 1, 1, 2, 2, 1, 1, 1, 2, 3, 3, 3, 2, 1, 2, 1, 3, 2, 2, 4, 1, 4, 3, 4, 3, 3, 2, 2, 2, 1, 1, 2, 2, 2, 6, 2, 2, 2, 1, 1, 2, 2, 2, 2, 3, 4, 3, 3, 3, 3, 1, 2, 2, 2, 1, 1, 3, 3, 1, 1, 3, 2, 2, 2, 1, 2, 2, 2, 2, 2, 2, 1, 1, 2, 2, 2, 2, 2, 2, 1, 1, 2, 2, 3, 4, 2, 2, 1, 2, 3, 3, 3, 2, 2, 3, 1, 2, 1, 1, 1, 5, 2, 2, 1, 2, 3, 2, 2, 2, 2, 3, 3, 4, 3, 1, 3, 2, 3, 2, 3, 5, 2, 2, 4, 2, 1, 2, 3, 4, 5, 4, 4, 2, 5, 1, 2, 2, 3, 2, 2, 3, 2, 3, 3, 1, 2, 2, 2, 3, 3, 2, 3, 3, 2, 2, 1, 4, 2, 2, 1, 1, 1].getD k 0
/-- what is answered: 0 nothing, 1 a number, 2 a reference, 3 a double -/
def z_rt (k : Nat) : Nat := [0, 0, 0, 0, 0, 0, 0, 0, 0, 0, 0, 0, 0, 0, 1, 1, 1, 1, 1, 1, 1, 1, 2, 0, 0, 0, 0, 2, 2, 1, 1, 2, 2, 2, 1, 1, 0, 2, 2, 0, 0, 2, 2, 1, 1, 2, 2, 2, 0, 2, 0, 0, 2, 1, 0, 1, 1, 1, 1, 1, 1, 0, 1, 1, 1, 1, 1, 1, 1, 1, 1, 1, 1, 2, 2, 1, 0, 0, 0, 2, 1, 1, 1, 0, 1, 1, 2, 1, 1, 1, 1, 1, 1, 1, 1, 1, 1, 1, 1, 1, 1, 1, 0, 1, 1, 1, 1, 1, 1, 1, 1, 1, 1, 1, 1, 1, 1, 0, 0, 1, 1, 1, 1, 1, 1, 0, 0, 0, 0, 2, 1, 1, 0, 0, 0, 0, 1, 0, 1, 0, 0, 0, 1, 1, 1, 1, 1, 0, 0, 0, 1, 0, 0, 0, 1, 1, 0, 0, 0, 0, 0, 0, 1, 1, 1, 1, 1, 1, 1, 1, 1, 1, 1, 1, 1, 1, 1, 1, 1, 1, 1, 1, 1, 3, 1, 1, 1, 1, 1, 1].getD k 0
/-- the kind of the one called -/
def z_rk (k : Nat) : Nat := [4, 5, 6, 3, 2, 8, 9, 11, 10, 7, 1, 13, 13, 12, 0, 0, 14, 14, 0, 0, 13, 0, 0, 13, 13, 14, 13, 13, 13, 13, 0, 13, 13, 13, 13, 13, 0, 0, 0, 14, 14, 13, 0, 0, 0, 13, 13, 0, 15, 0, 0, 0, 0, 0, 0, 13, 13, 0, 14, 0, 14, 1, 1, 1, 4, 4, 0, 0, 4, 4, 4, 4, 4, 4, 4, 4, 4, 2, 5, 4, 3, 3, 3, 6, 3, 5, 3, 16, 3, 3, 3, 3, 0, 3, 3, 3, 3, 4, 3, 3, 3, 3, 5, 3, 3, 3, 3, 3, 3, 4, 4, 4, 2, 2, 2, 0, 2, 4, 0, 2, 2, 2, 2, 2, 2, 11, 10, 1, 9, 5, 5, 9, 11, 9, 11, 9, 9, 9, 0, 9, 9, 9, 9, 0, 0, 2, 0, 10, 7, 7, 0, 7, 7, 8, 7, 0, 8, 7, 7, 7, 7, 7, 1, 0, 1, 1, 1, 1, 1, 1, 1, 1, 7, 2, 1, 1, 8, 1, 1, 7, 1, 8, 1, 1, 1, 2, 2, 1, 1, 0].getD k 0
/-- what a number that is answered must be: 1 zero or one, 2 a sign, 3 a byte -/
def z_nr (k : Nat) : Nat := [0, 0, 0, 0, 0, 0, 0, 0, 0, 0, 0, 0, 0, 0, 0, 0, 3, 0, 0, 0, 0, 0, 0, 0, 0, 0, 0, 0, 0, 1, 1, 0, 0, 0, 0, 0, 0, 0, 0, 0, 0, 0, 0, 0, 0, 0, 0, 0, 0, 0, 0, 0, 0, 0, 0, 2, 2, 1, 1, 2, 2, 0, 0, 0, 0, 0, 1, 1, 0, 0, 0, 0, 1, 0, 0, 0, 0, 0, 0, 0, 1, 1, 1, 0, 1, 0, 0, 0, 1, 1, 1, 1, 1, 1, 1, 1, 1, 0, 1, 1, 1, 1, 0, 1, 1, 1, 1, 1, 1, 0, 0, 1, 0, 0, 0, 0, 0, 0, 0, 0, 0, 0, 0, 0, 0, 0, 0, 0, 0, 0, 0, 0, 0, 0, 0, 0, 0, 0, 0, 0, 0, 0, 1, 0, 1, 0, 0, 0, 0, 0, 0, 0, 0, 0, 0, 1, 0, 0, 0, 0, 0, 0, 0, 0, 1, 0, 1, 0, 0, 0, 0, 0, 0, 0, 0, 0, 0, 0, 0, 0, 0, 0, 0, 0, 0, 0, 1, 0, 0, 1].getD k 0
/-- how many elements an object of a class costs -/
def z_sl (k : Nat) : Nat := [0, 14, 12, 6, 7, 3, 11, 10, 4, 8, 7, 2, 28, 4, 4, 5, 0].getD k 0
/-- what a field holds: 0 a reference, 1 a number, 2 zero or one -/
def z_ft (n : Nat) : Nat := bif [100, 103, 104, 105, 108, 109, 110, 111, 112, 113, 200, 201, 202, 203, 204, 205, 206, 300, 301, 302, 303, 400, 402, 403, 404, 405, 500, 501, 700, 701, 702, 705, 706, 707, 708, 709, 800, 801, 802, 900, 901, 902, 903, 904, 906, 1002, 1003, 1004, 1005, 1006, 1100, 1203, 1204, 1205, 1206, 1207, 1208, 1209, 1210, 1211, 1212, 1213, 1214, 1215, 1216, 1217, 1218, 1219, 1220, 1223, 1224, 1225, 1226, 1300, 1400, 1503, 1504, 1601].elem n then 0 else bif [600, 1301, 1302, 1401].elem n then 2 else 1
end
section
/-! A PICTURE OF THE HEAP, and what a run of linked code asks of it (no machine here).
Addresses: 0 is null; below 1000 constants (never written); from 1000 on what the run makes, in the order of making.
A picture: (next address, elements used, kind of each, length of each, numbers, references). Kind 0: nothing is known. -/
abbrev PH : Type := Nat × Nat × (Nat → Nat) × (Nat → Nat) × (Nat → Nat → Int32) × (Nat → Nat → Nat)
def p_nx (h : PH) : Nat := h.1
def p_us (h : PH) : Nat := h.2.1
def p_kd (h : PH) : Nat → Nat := h.2.2.1
def p_ln (h : PH) : Nat → Nat := h.2.2.2.1
def p_im (h : PH) : Nat → Nat → Int32 := h.2.2.2.2.1
def p_rm (h : PH) : Nat → Nat → Nat := h.2.2.2.2.2
/-- a number is written -/
def p_wi (h : PH) (a i : Nat) (v : Int32) : PH := (p_nx h, p_us h, p_kd h, p_ln h, (fun x j => if x = a ∧ j = i then v else p_im h x j), p_rm h)
/-- a reference is written -/
def p_wr (h : PH) (a i : Nat) (v : Nat) : PH := (p_nx h, p_us h, p_kd h, p_ln h, p_im h, (fun x j => if x = a ∧ j = i then v else p_rm h x j))
/-- something is made: its kind, its length, how many elements it costs -/
def p_new (h : PH) (k n u : Nat) : PH := (p_nx h + 1, p_us h + u, (fun x => if x = p_nx h then k else p_kd h x), (fun x => if x = p_nx h then n else p_ln h x), (fun x j => if x = p_nx h then 0 else p_im h x j), (fun x j => if x = p_nx h then 0 else p_rm h x j))
/-- bytes are copied -/
def p_cp (h : PH) (s sp d dp n : Nat) : PH := (p_nx h, p_us h, p_kd h, p_ln h, (fun x j => if x = d ∧ dp ≤ j ∧ j < dp + n then p_im h s (sp + (j - dp)) else p_im h x j), p_rm h)
/-- a row of numbers is as another one -/
def p_cl (h : PH) (d s : Nat) : PH := (p_nx h, p_us h, p_kd h, p_ln h, (fun x j => if x = d then p_im h s j else p_im h x j), p_rm h)
/-- the room of the whole run -/
def p_CN : Nat := 601086
def p_CS : Nat := 7301442
/-- the kinds of rows: of numbers, of bytes, of truth values, of references -/
def p_kI (k : Nat) : Bool := Nat.ble 100 k && Nat.ble k 119
def p_kB (k : Nat) : Bool := Nat.ble 120 k && Nat.ble k 299
def p_kZ (k : Nat) : Bool := Nat.beq k 300
def p_kR (k : Nat) : Bool := Nat.ble 310 k && Nat.ble k 329
/-- the kind of what a row of references holds -/
def p_el (k : Nat) : Nat := match k with
  | 310 => 16
  | 311 => 16
  | 312 => 6
  | 313 => 15
  | 314 => 100
  | 315 => 313
  | _ => 0
def p_in (j : Int32) (n : Nat) : Prop := 0 ≤ j.toInt ∧ j.toNatClampNeg < n
def onI (v : Option Value) (f : Int32 → Prop) : Prop := match v with
  | some (.int x) => f x
  | _ => False
def onR (v : Option Value) (f : Nat → Prop) : Prop := match v with
  | some (.ref x) => f x
  | _ => False
def onD (v : Option Value) (f : UInt64 → Prop) : Prop := match v with
  | some (.double x) => f x
  | _ => False
def onV (v : Option Value) (f : Prop) : Prop := match v with
  | none => f
  | _ => False
def t_I (st : List Value) (f : Int32 → List Value → Prop) : Prop := match st with
  | .int x :: r => f x r
  | _ => False
def t_II (st : List Value) (f : Int32 → Int32 → List Value → Prop) : Prop := match st with
  | .int y :: .int x :: r => f x y r
  | _ => False
def t_L (st : List Value) (f : Int64 → List Value → Prop) : Prop := match st with
  | .long x :: r => f x r
  | _ => False
def t_LL (st : List Value) (f : Int64 → Int64 → List Value → Prop) : Prop := match st with
  | .long y :: .long x :: r => f x y r
  | _ => False
def t_D (st : List Value) (f : UInt64 → List Value → Prop) : Prop := match st with
  | .double x :: r => f x r
  | _ => False
def t_DD (st : List Value) (f : UInt64 → UInt64 → List Value → Prop) : Prop := match st with
  | .double y :: .double x :: r => f x y r
  | _ => False
def t_R (st : List Value) (f : Nat → List Value → Prop) : Prop := match st with
  | .ref x :: r => f x r
  | _ => False
def t_RR (st : List Value) (f : Nat → Nat → List Value → Prop) : Prop := match st with
  | .ref y :: .ref x :: r => f x y r
  | _ => False
def t_RI (st : List Value) (f : Nat → Int32 → List Value → Prop) : Prop := match st with
  | .int j :: .ref a :: r => f a j r
  | _ => False
def t_RII (st : List Value) (f : Nat → Int32 → Int32 → List Value → Prop) : Prop := match st with
  | .int v :: .int j :: .ref a :: r => f a j v r
  | _ => False
def t_RIR (st : List Value) (f : Nat → Int32 → Nat → List Value → Prop) : Prop := match st with
  | .ref v :: .int j :: .ref a :: r => f a j v r
  | _ => False
def t_V1 (st : List Value) (f : Value → List Value → Prop) : Prop := match st with
  | .int v :: r => f (.int v) r
  | .ref v :: r => f (.ref v) r
  | _ => False
def t_cp (st : List Value) (f : Nat → Int32 → Nat → Int32 → Int32 → List Value → Prop) : Prop := match st with
  | .int n :: .int dp :: .ref d :: .int sp :: .ref s :: r => f s sp d dp n r
  | _ => False
def l_I (ls : List Slot) (k : Nat) (f : Int32 → Prop) : Prop := match ls[k]? with
  | some (.val (.int x)) => f x
  | _ => False
def l_L (ls : List Slot) (k : Nat) (f : Int64 → Prop) : Prop := match ls[k]? with
  | some (.val (.long x)) => f x
  | _ => False
def l_D (ls : List Slot) (k : Nat) (f : UInt64 → Prop) : Prop := match ls[k]? with
  | some (.val (.double x)) => f x
  | _ => False
def l_R (ls : List Slot) (k : Nat) (f : Nat → Prop) : Prop := match ls[k]? with
  | some (.val (.ref x)) => f x
  | _ => False
/-- the place ahead of k holds nothing of two places -/
def l_1 (ls : List Slot) : Nat → Bool
  | 0 => true
  | k + 1 => match ls[k]? with
    | some (.val (.long _)) => false
    | some (.val (.double _)) => false
    | some .second => false
    | _ => true
/-- what a look at the code shows -/
def l_ok (b : Bool) (P : Prop) : Prop := match b with
  | true => P
  | false => False
def l_if (b : Bool) (P Q : Prop) : Prop := match b with
  | true => P
  | false => Q
/-- one place is written -/
def l_s1 (ls : List Slot) (k : Nat) (v : Value) : List Slot := ls.set k (.val v)
/-- two places are written -/
def l_s2 (ls : List Slot) (k : Nat) (v : Value) : List Slot := (ls.set k (.val v)).set (k + 1) .unset
/-- a branch -/
def b_if (c : Jvm.ClassFile.Cond) (x : Int32) (A B : Prop) : Prop := match c with
  | .eq => if x = 0 then A else B
  | .ne => if x = 0 then B else A
  | .lt => if x < 0 then A else B
  | .ge => if x < 0 then B else A
  | .gt => if 0 < x then A else B
  | .le => if 0 < x then B else A
def b_ic (c : Jvm.ClassFile.Cond) (x y : Int32) (A B : Prop) : Prop := match c with
  | .eq => if x = y then A else B
  | .ne => if x = y then B else A
  | .lt => if x < y then A else B
  | .ge => if x < y then B else A
  | .gt => if y < x then A else B
  | .le => if y < x then B else A
def b_ac (c : Jvm.ClassFile.ACond) (x y : Nat) (A B : Prop) : Prop := match c with
  | .eq => if x = y then A else B
  | .ne => if x = y then B else A
/-- a switch -/
def b_sw (x : Int32) (K : Nat → Prop) (dflt : Nat) : Int → List Int → Prop
  | _, [] => K dflt
  | lo, o :: r => if x = Int32.ofInt lo then K o.toNat else b_sw x K dflt (lo + 1) r
/-- what is known of the places behind a jump: those that are read there -/
def l_keep : List Bool → List Slot → List Slot
  | true :: m, x :: l => x :: l_keep m l
  | false :: m, _ :: l => .unset :: l_keep m l
  | _, _ => []
def l_look (k : Nat) : List (Nat × List Bool) → List Slot → List Slot
  | [], ls => ls
  | (a, m) :: r, ls => bif Nat.beq a k then l_keep m ls else l_look k r ls
/-- the places at a method's entry -/
def l_ent (n : Nat) (as : List Value) : List Slot := as.map Slot.val ++ List.replicate (n - as.length) .unset
/-- what a method answers, on the stack -/
def r_on (t : Nat) (v : Option Value) (st : List Value) (K : List Value → Prop) : Prop := match t with
  | 0 => onV v (K st)
  | 1 => onI v (fun x => K (.int x :: st))
  | 2 => onR v (fun x => K (.ref x :: st))
  | _ => onD v (fun x => K (.double x :: st))
/-- a call: the arguments are taken from the stack -/
def c_do (k : Nat) (st : List Value) (Cl : Nat → List Value → (Option Value → PH → Prop) → Prop) (K : List Value → PH → Prop) : Prop :=
  l_ok (Nat.ble (z_na k) st.length) (Cl k (st.take (z_na k)).reverse (fun v h1 => r_on (z_rt k) v (st.drop (z_na k)) (fun st1 => K st1 h1)))
/-- the one that is called: an object of the method's own kind -/
def c_rcv (k : Nat) (st : List Value) (h : PH) : Prop := match (st.take (z_na k)).reverse with
  | .ref a :: _ => p_kd h a = z_rk k ∧ ¬ a = 0
  | _ => False
/-- the one that is made: no null -/
def c_ini (k : Nat) (st : List Value) : Prop := match (st.take (z_na k)).reverse with
  | .ref a :: _ => 1000 ≤ a
  | _ => False
/-- a field is read, by what it holds -/
def f_get (t : Nat) (h : PH) (x j : Nat) : Value := match t with
  | 0 => .ref (p_rm h x j)
  | _ => .int (p_im h x j)
/-- a field is written -/
def f_put (t n : Nat) (st : List Value) (h : PH) (K : List Value → PH → Prop) : Prop := match t with
  | 0 => t_RR st (fun x v r => (p_kd h x = n / 100 ∧ 1000 ≤ x) ∧ K r (p_wr h x (n % 100) v))
  | 1 => t_RI st (fun x v r => (p_kd h x = n / 100 ∧ 1000 ≤ x) ∧ K r (p_wi h x (n % 100) v))
  | _ => t_RI st (fun x v r => ((p_kd h x = n / 100 ∧ 1000 ≤ x) ∧ (v = 0 ∨ v = 1)) ∧ K r (p_wi h x (n % 100) v))
/-- the kind of a row that is made -/
def a_new (t : Jvm.ClassFile.ArrayType) (K : Nat → Prop) : Prop := match t with
  | .int => K 100
  | .byte => K 120
  | .boolean => K 300
  | _ => False
/-- one instruction (jumps to places in the list of instructions; fields, methods, constants by the numbers of the tables) -/
def sm (i : Instr) (pc : Nat) (ls : List Slot) (st : List Value) (h : PH) (K : Nat → List Slot → List Value → PH → Prop) (Rt : Option Value → PH → Prop) (Cl : Nat → List Value → PH → (Option Value → PH → Prop) → Prop) : Prop := match i with
  | .nop => K (pc + 1) ls st h
  | .iconst n => K (pc + 1) ls (.int (Int32.ofInt n) :: st) h
  | .ldc2_w n => K (pc + 1) ls (.long (Int64.ofNat n) :: st) h
  | .dconst _ => K (pc + 1) ls (.double 0 :: st) h
  | .aconst_null => K (pc + 1) ls (.ref 0 :: st) h
  | .ldc a => K (pc + 1) ls (.ref a :: st) h
  | .iload k => l_I ls k (fun x => K (pc + 1) ls (.int x :: st) h)
  | .lload k => l_L ls k (fun x => K (pc + 1) ls (.long x :: st) h)
  | .dload k => l_D ls k (fun x => K (pc + 1) ls (.double x :: st) h)
  | .aload k => l_R ls k (fun x => K (pc + 1) ls (.ref x :: st) h)
  | .istore k => t_I st (fun x r => l_ok (Nat.blt k ls.length && l_1 ls k) (K (pc + 1) (l_s1 ls k (.int x)) r h))
  | .astore k => t_R st (fun x r => l_ok (Nat.blt k ls.length && l_1 ls k) (K (pc + 1) (l_s1 ls k (.ref x)) r h))
  | .lstore k => t_L st (fun x r => l_ok (Nat.blt (k + 1) ls.length && l_1 ls k) (K (pc + 1) (l_s2 ls k (.long x)) r h))
  | .dstore k => t_D st (fun x r => l_ok (Nat.blt (k + 1) ls.length && l_1 ls k) (K (pc + 1) (l_s2 ls k (.double x)) r h))
  | .iinc k n => l_I ls k (fun x => l_ok (l_1 ls k) (K (pc + 1) (l_s1 ls k (.int (x + Int32.ofInt n))) st h))
  | .iadd => t_II st (fun x y r => K (pc + 1) ls (.int (x + y) :: r) h)
  | .isub => t_II st (fun x y r => K (pc + 1) ls (.int (x - y) :: r) h)
  | .imul => t_II st (fun x y r => K (pc + 1) ls (.int (x * y) :: r) h)
  | .iand => t_II st (fun x y r => K (pc + 1) ls (.int (x &&& y) :: r) h)
  | .ior => t_II st (fun x y r => K (pc + 1) ls (.int (x ||| y) :: r) h)
  | .ixor => t_II st (fun x y r => K (pc + 1) ls (.int (x ^^^ y) :: r) h)
  | .ishl => t_II st (fun x y r => K (pc + 1) ls (.int (x <<< (y &&& 31)) :: r) h)
  | .ishr => t_II st (fun x y r => K (pc + 1) ls (.int (x >>> (y &&& 31)) :: r) h)
  | .iushr => t_II st (fun x y r => K (pc + 1) ls (.int ((x.toUInt32 >>> (y.toUInt32 &&& Int32.toUInt32 31)).toInt32) :: r) h)
  | .idiv => t_II st (fun x y r => (¬ y = 0) ∧ K (pc + 1) ls (.int (x / y) :: r) h)
  | .irem => t_II st (fun x y r => (¬ y = 0) ∧ K (pc + 1) ls (.int (x - x / y * y) :: r) h)
  | .ineg => t_I st (fun x r => K (pc + 1) ls (.int (-x) :: r) h)
  | .i2b => t_I st (fun x r => K (pc + 1) ls (.int x.toInt8.toInt32 :: r) h)
  | .i2c => t_I st (fun x r => K (pc + 1) ls (.int (x.toUInt32 % 65536).toInt32 :: r) h)
  | .i2l => t_I st (fun x r => K (pc + 1) ls (.long x.toInt64 :: r) h)
  | .i2d => t_I st (fun x r => K (pc + 1) ls (.double (FP.i2d x) :: r) h)
  | .l2i => t_L st (fun x r => K (pc + 1) ls (.int x.toInt32 :: r) h)
  | .lneg => t_L st (fun x r => K (pc + 1) ls (.long (-x) :: r) h)
  | .ladd => t_LL st (fun x y r => K (pc + 1) ls (.long (x + y) :: r) h)
  | .ldiv => t_LL st (fun x y r => (¬ y = 0) ∧ K (pc + 1) ls (.long (x / y) :: r) h)
  | .lrem => t_LL st (fun x y r => (¬ y = 0) ∧ K (pc + 1) ls (.long (x - x / y * y) :: r) h)
  | .lcmp => t_LL st (fun x y r => K (pc + 1) ls (.int (lg_cmp x y) :: r) h)
  | .ddiv => t_DD st (fun x y r => vf_n64 (FP.ddiv x y) ∧ K (pc + 1) ls (.double (FP.ddiv x y) :: r) h)
  | .dcmp op => t_DD st (fun x y r => K (pc + 1) ls (.int (Op.cmpValue (FP.dcmp x y) op) :: r) h)
  | .dup => t_V1 st (fun v r => K (pc + 1) ls (v :: v :: r) h)
  | .pop => t_V1 st (fun _ r => K (pc + 1) ls r h)
  | .dup_x1 => t_V1 st (fun v r => t_V1 r (fun w r2 => K (pc + 1) ls (v :: w :: v :: r2) h))
  | .dup2 => t_V1 st (fun v r => t_V1 r (fun w r2 => K (pc + 1) ls (v :: w :: v :: w :: r2) h))
  | .ifCond c t => t_I st (fun x r => b_if c x (K t.toNat ls r h) (K (pc + 1) ls r h))
  | .if_icmp c t => t_II st (fun x y r => b_ic c x y (K t.toNat ls r h) (K (pc + 1) ls r h))
  | .if_acmp c t => t_RR st (fun x y r => ((x = 0 ∨ p_kd h x = 16) ∧ (y = 0 ∨ p_kd h y = 16)) ∧ b_ac c x y (K t.toNat ls r h) (K (pc + 1) ls r h))
  | .ifnull t => t_R st (fun x r => (x = 0 ∨ ¬ p_kd h x = 0) ∧ if x = 0 then K t.toNat ls r h else K (pc + 1) ls r h)
  | .ifnonnull t => t_R st (fun x r => (x = 0 ∨ ¬ p_kd h x = 0) ∧ if x = 0 then K (pc + 1) ls r h else K t.toNat ls r h)
  | .goto t => K t.toNat ls st h
  | .tableswitch dflt lo _ offs => t_I st (fun x r => b_sw x (fun t => K t ls r h) dflt.toNat lo offs.toList)
  | .getfield n => t_R st (fun x r => (p_kd h x = n / 100 ∧ ¬ x = 0) ∧ K (pc + 1) ls (f_get (z_ft n) h x (n % 100) :: r) h)
  | .putfield n => f_put (z_ft n) n st h (fun r h1 => K (pc + 1) ls r h1)
  | .new k => (p_nx h + 1 ≤ p_CN ∧ p_us h + z_sl k ≤ p_CS) ∧ K (pc + 1) ls (.ref (p_nx h) :: st) (p_new h k 0 (z_sl k))
  | .newarray t => t_I st (fun n r => (¬ n < 0 ∧ p_nx h + 1 ≤ p_CN ∧ p_us h + n.toNatClampNeg ≤ p_CS) ∧ a_new t (fun k => K (pc + 1) ls (.ref (p_nx h) :: r) (p_new h k n.toNatClampNeg n.toNatClampNeg)))
  | .anewarray k => t_I st (fun n r => (¬ n < 0 ∧ p_nx h + 1 ≤ p_CN ∧ p_us h + n.toNatClampNeg ≤ p_CS) ∧ K (pc + 1) ls (.ref (p_nx h) :: r) (p_new h k n.toNatClampNeg n.toNatClampNeg))
  | .iaload => t_RI st (fun a j r => ((p_kI (p_kd h a) = true ∧ ¬ a = 0) ∧ p_in j (p_ln h a)) ∧ K (pc + 1) ls (.int (p_im h a j.toNatClampNeg) :: r) h)
  | .baload => t_RI st (fun a j r => (((p_kB (p_kd h a) = true ∨ p_kZ (p_kd h a) = true) ∧ ¬ a = 0) ∧ p_in j (p_ln h a)) ∧ K (pc + 1) ls (.int (p_im h a j.toNatClampNeg) :: r) h)
  | .aaload => t_RI st (fun a j r => ((p_kR (p_kd h a) = true ∧ ¬ a = 0) ∧ p_in j (p_ln h a)) ∧ K (pc + 1) ls (.ref (p_rm h a j.toNatClampNeg) :: r) h)
  | .iastore => t_RII st (fun a j v r => ((p_kd h a = 100 ∧ 1000 ≤ a) ∧ p_in j (p_ln h a)) ∧ K (pc + 1) ls r (p_wi h a j.toNatClampNeg v))
  | .bastore => t_RII st (fun a j v r => ((p_kd h a = 120 ∧ 1000 ≤ a) ∧ p_in j (p_ln h a)) ∧ K (pc + 1) ls r (p_wi h a j.toNatClampNeg v.toInt8.toInt32))
  | .castore => t_RII st (fun a j v r => (((p_kd h a = 300 ∧ 1000 ≤ a) ∧ (v = 0 ∨ v = 1)) ∧ p_in j (p_ln h a)) ∧ K (pc + 1) ls r (p_wi h a j.toNatClampNeg v))
  | .aastore => t_RIR st (fun a j v r => (((p_kR (p_kd h a) = true ∧ 1000 ≤ a) ∧ (v = 0 ∨ p_kd h v = p_el (p_kd h a) ∧ ¬ v = 0)) ∧ p_in j (p_ln h a)) ∧ K (pc + 1) ls r (p_wr h a j.toNatClampNeg v))
  | .arraylength => t_R st (fun a r => (Nat.ble 100 (p_kd h a) = true ∧ ¬ a = 0) ∧ K (pc + 1) ls (.int (Int32.ofNat (p_ln h a)) :: r) h)
  | .checkcast _ => t_R st (fun a r => (p_kd h a = 120 ∧ 1000 ≤ a) ∧ K (pc + 1) ls (.ref a :: r) h)
  | .invokestatic k => l_if (Nat.beq k 900) (t_cp st (fun s sp d dp n r => (((p_kB (p_kd h s) = true ∧ ¬ s = 0) ∧ (p_kd h d = 120 ∧ 1000 ≤ d)) ∧ (0 ≤ sp.toInt ∧ 0 ≤ dp.toInt ∧ 0 ≤ n.toInt) ∧ sp.toNatClampNeg + n.toNatClampNeg ≤ p_ln h s ∧ dp.toNatClampNeg + n.toNatClampNeg ≤ p_ln h d) ∧ K (pc + 1) ls r (p_cp h s sp.toNatClampNeg d dp.toNatClampNeg n.toNatClampNeg))) (c_do k st (fun k a Kc => Cl k a h Kc) (fun st1 h1 => K (pc + 1) ls st1 h1))
  | .invokevirtual k => l_if (Nat.beq k 901) (t_R st (fun a r => ((p_kd h a = 120 ∧ 1000 ≤ a) ∧ p_nx h + 1 ≤ p_CN ∧ p_us h + p_ln h a ≤ p_CS) ∧ K (pc + 1) ls (.ref (p_nx h) :: r) (p_cl (p_new h 120 (p_ln h a) (p_ln h a)) (p_nx h) a))) (c_rcv k st h ∧ c_do k st (fun k a Kc => Cl k a h Kc) (fun st1 h1 => K (pc + 1) ls st1 h1))
  | .invokespecial k => l_if (Nat.beq k 902) (t_R st (fun a r => 1000 ≤ a ∧ K (pc + 1) ls r h)) (c_ini k st ∧ c_do k st (fun k a Kc => Cl k a h Kc) (fun st1 h1 => K (pc + 1) ls st1 h1))
  | .ireturn => t_I st (fun x r => l_ok r.isEmpty (Rt (some (.int x)) h))
  | .areturn => t_R st (fun x r => l_ok r.isEmpty (Rt (some (.ref x)) h))
  | .dreturn => t_D st (fun x r => l_ok r.isEmpty (Rt (some (.double x)) h))
  | .return_ => l_ok st.isEmpty (Rt none h)
  | _ => False
/-- what is known at a place of a method's code -/
def l_kl (k pc : Nat) (ls : List Slot) : List Slot := l_look pc (z_lv k) ls
/-- what is answered fits its type -/
def r_ok (t : Nat) (v : Option Value) (P : Prop) : Prop := match t with
  | 0 => P
  | 1 => onI v (fun x => (x = 0 ∨ x = 1) ∧ P)
  | 2 => onI v (fun x => (x.toUInt32 % 65536).toInt32 = x ∧ P)
  | _ => onI v (fun x => x.toInt8.toInt32 = x ∧ P)
theorem l_ok_mono {b : Bool} {P Q : Prop} (h : P → Q) : l_ok b P → l_ok b Q := by cases b; exact id; exact h
theorem l_if_mono {b : Bool} {P Q P1 Q1 : Prop} (h : P → P1) (h1 : Q → Q1) : l_if b P Q → l_if b P1 Q1 := by cases b; exact h1; exact h
theorem and_mono {A P Q : Prop} (h : P → Q) : A ∧ P → A ∧ Q := fun q => ⟨q.1, h q.2⟩
theorem t_I_mono {st : List Value} {f g : Int32 → List Value → Prop} (h : ∀ x r, f x r → g x r) : t_I st f → t_I st g := by unfold t_I; split; exact h _ _; exact id
theorem t_II_mono {st : List Value} {f g : Int32 → Int32 → List Value → Prop} (h : ∀ x y r, f x y r → g x y r) : t_II st f → t_II st g := by unfold t_II; split; exact h _ _ _; exact id
theorem t_L_mono {st : List Value} {f g : Int64 → List Value → Prop} (h : ∀ x r, f x r → g x r) : t_L st f → t_L st g := by unfold t_L; split; exact h _ _; exact id
theorem t_LL_mono {st : List Value} {f g : Int64 → Int64 → List Value → Prop} (h : ∀ x y r, f x y r → g x y r) : t_LL st f → t_LL st g := by unfold t_LL; split; exact h _ _ _; exact id
theorem t_D_mono {st : List Value} {f g : UInt64 → List Value → Prop} (h : ∀ x r, f x r → g x r) : t_D st f → t_D st g := by unfold t_D; split; exact h _ _; exact id
theorem t_DD_mono {st : List Value} {f g : UInt64 → UInt64 → List Value → Prop} (h : ∀ x y r, f x y r → g x y r) : t_DD st f → t_DD st g := by unfold t_DD; split; exact h _ _ _; exact id
theorem t_R_mono {st : List Value} {f g : Nat → List Value → Prop} (h : ∀ x r, f x r → g x r) : t_R st f → t_R st g := by unfold t_R; split; exact h _ _; exact id
theorem t_RR_mono {st : List Value} {f g : Nat → Nat → List Value → Prop} (h : ∀ x y r, f x y r → g x y r) : t_RR st f → t_RR st g := by unfold t_RR; split; exact h _ _ _; exact id
theorem t_RI_mono {st : List Value} {f g : Nat → Int32 → List Value → Prop} (h : ∀ x y r, f x y r → g x y r) : t_RI st f → t_RI st g := by unfold t_RI; split; exact h _ _ _; exact id
theorem t_RII_mono {st : List Value} {f g : Nat → Int32 → Int32 → List Value → Prop} (h : ∀ x y z r, f x y z r → g x y z r) : t_RII st f → t_RII st g := by unfold t_RII; split; exact h _ _ _ _; exact id
theorem t_RIR_mono {st : List Value} {f g : Nat → Int32 → Nat → List Value → Prop} (h : ∀ x y z r, f x y z r → g x y z r) : t_RIR st f → t_RIR st g := by unfold t_RIR; split; exact h _ _ _ _; exact id
theorem t_V1_mono {st : List Value} {f g : Value → List Value → Prop} (h : ∀ x r, f x r → g x r) : t_V1 st f → t_V1 st g := by unfold t_V1; split; exact h _ _; exact h _ _; exact id
theorem t_cp_mono {st : List Value} {f g : Nat → Int32 → Nat → Int32 → Int32 → List Value → Prop} (h : ∀ a b c e i r, f a b c e i r → g a b c e i r) : t_cp st f → t_cp st g := by unfold t_cp; split; exact h _ _ _ _ _ _; exact id
theorem l_I_mono {ls : List Slot} {k : Nat} {f g : Int32 → Prop} (h : ∀ x, f x → g x) : l_I ls k f → l_I ls k g := by unfold l_I; split; exact h _; exact id
theorem l_L_mono {ls : List Slot} {k : Nat} {f g : Int64 → Prop} (h : ∀ x, f x → g x) : l_L ls k f → l_L ls k g := by unfold l_L; split; exact h _; exact id
theorem l_D_mono {ls : List Slot} {k : Nat} {f g : UInt64 → Prop} (h : ∀ x, f x → g x) : l_D ls k f → l_D ls k g := by unfold l_D; split; exact h _; exact id
theorem l_R_mono {ls : List Slot} {k : Nat} {f g : Nat → Prop} (h : ∀ x, f x → g x) : l_R ls k f → l_R ls k g := by unfold l_R; split; exact h _; exact id
theorem ite_mono {c : Prop} [Decidable c] {A B A1 B1 : Prop} (h : A → A1) (h1 : B → B1) : (if c then A else B) → (if c then A1 else B1) := by split; exact h; exact h1
theorem b_if_mono {c : Jvm.ClassFile.Cond} {x : Int32} {A B A1 B1 : Prop} (h : A → A1) (h1 : B → B1) : b_if c x A B → b_if c x A1 B1 := by cases c <;> first | exact ite_mono h h1 | exact ite_mono h1 h
theorem b_ic_mono {c : Jvm.ClassFile.Cond} {x y : Int32} {A B A1 B1 : Prop} (h : A → A1) (h1 : B → B1) : b_ic c x y A B → b_ic c x y A1 B1 := by cases c <;> first | exact ite_mono h h1 | exact ite_mono h1 h
theorem b_ac_mono {c : Jvm.ClassFile.ACond} {x y : Nat} {A B A1 B1 : Prop} (h : A → A1) (h1 : B → B1) : b_ac c x y A B → b_ac c x y A1 B1 := by cases c <;> first | exact ite_mono h h1 | exact ite_mono h1 h
theorem b_sw_mono {x : Int32} {K K1 : Nat → Prop} {dflt : Nat} (h : ∀ t, K t → K1 t) : ∀ {lo : Int} {l : List Int}, b_sw x K dflt lo l → b_sw x K1 dflt lo l
  | _, [] => h _
  | _, _ :: _ => ite_mono (h _) (b_sw_mono h)
theorem onI_mono {v : Option Value} {f g : Int32 → Prop} (h : ∀ x, f x → g x) : onI v f → onI v g := by unfold onI; split; exact h _; exact id
theorem onR_mono {v : Option Value} {f g : Nat → Prop} (h : ∀ x, f x → g x) : onR v f → onR v g := by unfold onR; split; exact h _; exact id
theorem onD_mono {v : Option Value} {f g : UInt64 → Prop} (h : ∀ x, f x → g x) : onD v f → onD v g := by unfold onD; split; exact h _; exact id
theorem onV_mono {v : Option Value} {f g : Prop} (h : f → g) : onV v f → onV v g := by unfold onV; split; exact h; exact id
theorem r_on_mono {t : Nat} {v : Option Value} {st : List Value} {K K1 : List Value → Prop} (h : ∀ s, K s → K1 s) : r_on t v st K → r_on t v st K1 := by
  unfold r_on
  split
  · exact onV_mono (h _)
  · exact onI_mono (fun _ => h _)
  · exact onR_mono (fun _ => h _)
  · exact onD_mono (fun _ => h _)
theorem c_do_mono {k : Nat} {st : List Value} {Cl Cl1 : Nat → List Value → (Option Value → PH → Prop) → Prop} {K K1 : List Value → PH → Prop} (hC : ∀ k a Kc Kc1, (∀ v h, Kc v h → Kc1 v h) → Cl k a Kc → Cl1 k a Kc1) (h : ∀ s h1, K s h1 → K1 s h1) : c_do k st Cl K → c_do k st Cl1 K1 :=
  l_ok_mono (hC _ _ _ _ (fun _ _ => r_on_mono (fun _ => h _ _)))
theorem f_put_mono {t n : Nat} {st : List Value} {h : PH} {K K1 : List Value → PH → Prop} (hK : ∀ r h1, K r h1 → K1 r h1) : f_put t n st h K → f_put t n st h K1 := by
  unfold f_put
  split
  · exact t_RR_mono (fun _ _ _ => and_mono (hK _ _))
  · exact t_RI_mono (fun _ _ _ => and_mono (hK _ _))
  · exact t_RI_mono (fun _ _ _ => and_mono (hK _ _))
theorem a_new_mono {t : Jvm.ClassFile.ArrayType} {K K1 : Nat → Prop} (h : ∀ k, K k → K1 k) : a_new t K → a_new t K1 := by cases t <;> first | exact h _ | exact id
theorem r_ok_mono {t : Nat} {v : Option Value} {P P1 : Prop} (h : P → P1) : r_ok t v P → r_ok t v P1 := by
  unfold r_ok
  split
  · exact h
  · exact onI_mono (fun _ => and_mono h)
  · exact onI_mono (fun _ => and_mono h)
  · exact onI_mono (fun _ => and_mono h)
set_option maxHeartbeats 4000000 in
theorem sm_mono {i : Instr} {pc : Nat} {ls : List Slot} {st : List Value} {h : PH} {K K1 : Nat → List Slot → List Value → PH → Prop} {Rt Rt1 : Option Value → PH → Prop} {Cl Cl1 : Nat → List Value → PH → (Option Value → PH → Prop) → Prop}
    (hK : ∀ a b c e, K a b c e → K1 a b c e) (hR : ∀ v h, Rt v h → Rt1 v h) (hC : ∀ k a h1 Kc Kc1, (∀ v h, Kc v h → Kc1 v h) → Cl k a h1 Kc → Cl1 k a h1 Kc1) (H : sm i pc ls st h K Rt Cl) : sm i pc ls st h K1 Rt1 Cl1 := by
  have hD : ∀ {k : Nat}, c_do k st (fun k a Kc => Cl k a h Kc) (fun st1 h1 => K (pc + 1) ls st1 h1) → c_do k st (fun k a Kc => Cl1 k a h Kc) (fun st1 h1 => K1 (pc + 1) ls st1 h1) := fun q => c_do_mono (fun _ _ _ _ => hC _ _ _ _ _) (fun _ _ => hK _ _ _ _) q
  cases i <;> first
    | exact (show False from H).elim
    | exact hK _ _ _ _ H
    | exact l_I_mono (fun _ => hK _ _ _ _) H
    | exact l_L_mono (fun _ => hK _ _ _ _) H
    | exact l_D_mono (fun _ => hK _ _ _ _) H
    | exact l_R_mono (fun _ => hK _ _ _ _) H
    | exact l_I_mono (fun _ => l_ok_mono (hK _ _ _ _)) H
    | exact t_I_mono (fun _ _ => hK _ _ _ _) H
    | exact t_II_mono (fun _ _ _ => hK _ _ _ _) H
    | exact t_II_mono (fun _ _ _ => and_mono (hK _ _ _ _)) H
    | exact t_I_mono (fun _ _ => l_ok_mono (hK _ _ _ _)) H
    | exact t_R_mono (fun _ _ => l_ok_mono (hK _ _ _ _)) H
    | exact t_L_mono (fun _ _ => l_ok_mono (hK _ _ _ _)) H
    | exact t_D_mono (fun _ _ => l_ok_mono (hK _ _ _ _)) H
    | exact t_L_mono (fun _ _ => hK _ _ _ _) H
    | exact t_LL_mono (fun _ _ _ => hK _ _ _ _) H
    | exact t_LL_mono (fun _ _ _ => and_mono (hK _ _ _ _)) H
    | exact t_DD_mono (fun _ _ _ => hK _ _ _ _) H
    | exact t_DD_mono (fun _ _ _ => and_mono (hK _ _ _ _)) H
    | exact t_V1_mono (st := st) (f := fun v r => K (pc + 1) ls (v :: v :: r) h) (g := fun v r => K1 (pc + 1) ls (v :: v :: r) h) (fun _ _ => hK _ _ _ _) H
    | exact t_V1_mono (st := st) (f := fun _ r => K (pc + 1) ls r h) (g := fun _ r => K1 (pc + 1) ls r h) (fun _ _ => hK _ _ _ _) H
    | exact t_V1_mono (st := st) (f := fun v r => t_V1 r (fun w r2 => K (pc + 1) ls (v :: w :: v :: r2) h)) (g := fun v r => t_V1 r (fun w r2 => K1 (pc + 1) ls (v :: w :: v :: r2) h)) (fun _ _ => t_V1_mono (fun _ _ => hK _ _ _ _)) H
    | exact t_V1_mono (st := st) (f := fun v r => t_V1 r (fun w r2 => K (pc + 1) ls (v :: w :: v :: w :: r2) h)) (g := fun v r => t_V1 r (fun w r2 => K1 (pc + 1) ls (v :: w :: v :: w :: r2) h)) (fun _ _ => t_V1_mono (fun _ _ => hK _ _ _ _)) H
    | exact t_I_mono (fun _ _ => b_if_mono (hK _ _ _ _) (hK _ _ _ _)) H
    | exact t_II_mono (fun _ _ _ => b_ic_mono (hK _ _ _ _) (hK _ _ _ _)) H
    | exact t_RR_mono (fun _ _ _ => and_mono (b_ac_mono (hK _ _ _ _) (hK _ _ _ _))) H
    | exact t_R_mono (fun _ _ => and_mono (ite_mono (hK _ _ _ _) (hK _ _ _ _))) H
    | exact t_I_mono (fun _ _ => b_sw_mono (fun _ => hK _ _ _ _)) H
    | exact t_R_mono (fun _ _ => and_mono (hK _ _ _ _)) H
    | exact f_put_mono (fun _ _ => hK _ _ _ _) H
    | exact and_mono (hK _ _ _ _) H
    | exact t_I_mono (fun _ _ => and_mono (a_new_mono (fun _ => hK _ _ _ _))) H
    | exact t_I_mono (fun _ _ => and_mono (hK _ _ _ _)) H
    | exact t_RI_mono (fun _ _ _ => and_mono (hK _ _ _ _)) H
    | exact t_RII_mono (fun _ _ _ _ => and_mono (hK _ _ _ _)) H
    | exact t_RIR_mono (fun _ _ _ _ => and_mono (hK _ _ _ _)) H
    | exact l_if_mono (t_cp_mono (fun _ _ _ _ _ _ => and_mono (hK _ _ _ _))) hD H
    | exact l_if_mono (t_R_mono (fun _ _ => and_mono (hK _ _ _ _))) (and_mono hD) H
    | exact hR _ _ H
    | exact t_I_mono (fun _ _ => l_ok_mono (hR _ _)) H
    | exact t_R_mono (fun _ _ => l_ok_mono (hR _ _)) H
    | exact t_D_mono (fun _ _ => l_ok_mono (hR _ _)) H
    | exact l_ok_mono (hR _ _) H
abbrev Wp : Type := Nat → Nat → Nat → List Slot → List Value → PH → (Option Value → PH → Prop) → Prop
/-- a step, with P for what is asked of every state that comes; d: how deep calls may go -/
def Sem (P : Wp) : Wp := fun d k pc ls st h Q => sm ((z_code k).getD pc .athrow) pc ls st h (fun pc1 ls1 st1 h1 => P d k pc1 (l_kl k pc1 ls1) st1 h1 Q) (fun v h1 => r_ok (z_nr k) v (Q v h1))
  (fun k1 a h1 Kc => match d with
    | 0 => False
    | d1 + 1 => ∃ R : Option Value → PH → Prop, P d1 k1 0 (l_ent (z_ml k1) a) [] h1 R ∧ ∀ v h2, R v h2 → Kc v h2)
/-- the run from here ends, with Q -/
def wp : Wp := fun d k pc ls st h Q => ∀ P : Wp, (∀ d k pc ls st h Q, Sem P d k pc ls st h Q → P d k pc ls st h Q) → P d k pc ls st h Q
/-- a call's run -/
def wpc (d k : Nat) (a : List Value) (h : PH) (Q : Option Value → PH → Prop) : Prop := match d with
  | 0 => False
  | d1 + 1 => wp d1 k 0 (l_ent (z_ml k) a) [] h Q
theorem wp_fold {d k pc : Nat} {ls : List Slot} {st : List Value} {h : PH} {Q : Option Value → PH → Prop} (H : Sem wp d k pc ls st h Q) : wp d k pc ls st h Q := by
  intro P hP
  refine hP _ _ _ _ _ _ _ ?_
  refine sm_mono (fun a b c e q => q P hP) (fun _ _ q => q) (fun k1 a h1 Kc Kc1 hk q => ?_) H
  cases d with
  | zero => exact q
  | succ d =>
    obtain ⟨R, q1, q2⟩ := q
    exact ⟨R, q1 P hP, fun v h2 q3 => hk _ _ (q2 v h2 q3)⟩
theorem wp_unf {d k pc : Nat} {ls : List Slot} {st : List Value} {h : PH} {Q : Option Value → PH → Prop} (H : wp d k pc ls st h Q) : Sem wp d k pc ls st h Q := by
  refine H (Sem wp) (fun d k pc ls st h Q q => ?_)
  refine sm_mono (fun a b c e q => wp_fold q) (fun _ _ q => q) (fun k1 a h1 Kc Kc1 hk q => ?_) q
  cases d with
  | zero => exact q
  | succ d =>
    obtain ⟨R, q1, q2⟩ := q
    exact ⟨R, wp_fold q1, fun v h2 q3 => hk _ _ (q2 v h2 q3)⟩
theorem wp_mono {d k pc : Nat} {ls : List Slot} {st : List Value} {h : PH} {Q Q1 : Option Value → PH → Prop} (hq : ∀ v h, Q v h → Q1 v h) (H : wp d k pc ls st h Q) : wp d k pc ls st h Q1 := by
  refine H (fun d k pc ls st h Q => ∀ Q1 : Option Value → PH → Prop, (∀ v h, Q v h → Q1 v h) → wp d k pc ls st h Q1) (fun d k pc ls st h Q q Q1 hq => ?_) Q1 hq
  refine wp_fold (sm_mono (fun a b c e q => q Q1 hq) (fun v h q => r_ok_mono (hq v h) q) (fun k1 a h1 Kc Kc1 hk q => ?_) q)
  cases d with
  | zero => exact q
  | succ d =>
    obtain ⟨R, q1, q2⟩ := q
    exact ⟨R, q1 R (fun _ _ z => z), fun v h2 q3 => hk _ _ (q2 v h2 q3)⟩
theorem wpc_mono {d k : Nat} {a : List Value} {h : PH} {Q Q1 : Option Value → PH → Prop} (hq : ∀ v h, Q v h → Q1 v h) (H : wpc d k a h Q) : wpc d k a h Q1 := by
  cases d with
  | zero => exact H
  | succ d => exact wp_mono hq H
/-- n steps at once; at the places sp it stops -/
def Sn : Nat → List Nat → Wp
  | 0, _ => wp
  | n + 1, sp => fun d k pc ls st h Q => sm ((z_code k).getD pc .athrow) pc ls st h (fun pc1 ls1 st1 h1 => l_if (sp.elem pc1) (wp d k pc1 (l_kl k pc1 ls1) st1 h1 Q) (Sn n sp d k pc1 (l_kl k pc1 ls1) st1 h1 Q)) (fun v h1 => r_ok (z_nr k) v (Q v h1)) (fun k1 a h1 Kc => wpc d k1 a h1 Kc)
theorem wp_Sn : ∀ (n : Nat) (sp : List Nat) (d k pc : Nat) (ls : List Slot) (st : List Value) (h : PH) (Q : Option Value → PH → Prop), wp d k pc ls st h Q ↔ Sn n sp d k pc ls st h Q
  | 0, _, _, _, _, _, _, _, _ => Iff.rfl
  | n + 1, sp, d, k, pc, ls, st, h, Q => by
    rw [Sn]
    constructor
    · intro H
      refine sm_mono (fun a b c e q => ?_) (fun _ _ q => q) (fun k1 a h1 Kc Kc1 hk q => ?_) (wp_unf H)
      · cases sp.elem a
        · exact (wp_Sn n sp _ _ _ _ _ _ _).mp q
        · exact q
      · cases d with
        | zero => exact q
        | succ d =>
          obtain ⟨R, q1, q2⟩ := q
          exact wp_mono (fun v h2 q3 => hk _ _ (q2 v h2 q3)) q1
    · intro H
      refine wp_fold (sm_mono (fun a b c e q => ?_) (fun _ _ q => q) (fun k1 a h1 Kc Kc1 hk q => ?_) H)
      · cases hb : sp.elem a
        · rw [hb] at q
          exact (wp_Sn n sp _ _ _ _ _ _ _).mpr q
        · rw [hb] at q
          exact q
      · cases d with
        | zero => exact q
        | succ d => exact ⟨_, q, hk⟩
def CI (d k : Nat) (a : List Value) (h : PH) (Q : Int32 → PH → Prop) : Prop := wpc d k a h (fun v h1 => onI v (fun x => Q x h1))
def CR (d k : Nat) (a : List Value) (h : PH) (Q : Nat → PH → Prop) : Prop := wpc d k a h (fun v h1 => onR v (fun x => Q x h1))
def CD (d k : Nat) (a : List Value) (h : PH) (Q : UInt64 → PH → Prop) : Prop := wpc d k a h (fun v h1 => onD v (fun x => Q x h1))
def CV (d k : Nat) (a : List Value) (h : PH) (Q : PH → Prop) : Prop := wpc d k a h (fun v h1 => onV v (Q h1))
end
