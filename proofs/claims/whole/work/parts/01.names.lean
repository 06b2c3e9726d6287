-- ===== PART A: goes FIRST, ahead of the names: the tables' words, and 'selects' of the private methods out of them =====
/-- a private method of a class that the tables say can be made, by its rows of tables_1 -/
def lw_okq (q : MethodName × Nat) : Prop := (q.1.cls ≠ "java/lang/invoke/MethodHandle" ∧ q.1.cls ≠ "java/lang/invoke/VarHandle") ∧ Cond.instantiable q.1.cls q.2 ∈ tables_1 ∧ Cond.privateMethod q.1 ∈ tables_1 ∧ Cond.instanceMethod q.1 ∈ tables_1
theorem lw_p0 : lw_okq (⟨"CallSteps$Reader", "begin", "(LCallSteps$Program;)V"⟩, 4) := ⟨⟨by decide +kernel, by decide +kernel⟩, List.mem_of_getElem? (i := 133) (by decide +kernel), List.mem_of_getElem? (i := 420) (by decide +kernel), List.mem_of_getElem? (i := 421) (by decide +kernel)⟩
theorem lw_p1 : lw_okq (⟨"CallSteps$Tape", "byteAt", "(I)I"⟩, 7) := ⟨⟨by decide +kernel, by decide +kernel⟩, List.mem_of_getElem? (i := 31) (by decide +kernel), List.mem_of_getElem? (i := 432) (by decide +kernel), List.mem_of_getElem? (i := 433) (by decide +kernel)⟩
theorem lw_p2 : lw_okq (⟨"CallSteps$Tape", "takeWord", "()V"⟩, 7) := ⟨⟨by decide +kernel, by decide +kernel⟩, List.mem_of_getElem? (i := 31) (by decide +kernel), List.mem_of_getElem? (i := 442) (by decide +kernel), List.mem_of_getElem? (i := 443) (by decide +kernel)⟩
theorem lw_p3 : lw_okq (⟨"CallSteps$Tape", "takeNumber", "()V"⟩, 7) := ⟨⟨by decide +kernel, by decide +kernel⟩, List.mem_of_getElem? (i := 31) (by decide +kernel), List.mem_of_getElem? (i := 449) (by decide +kernel), List.mem_of_getElem? (i := 450) (by decide +kernel)⟩
theorem lw_p4 : lw_okq (⟨"CallSteps$Reader", "readsState", "()Z"⟩, 4) := ⟨⟨by decide +kernel, by decide +kernel⟩, List.mem_of_getElem? (i := 133) (by decide +kernel), List.mem_of_getElem? (i := 462) (by decide +kernel), List.mem_of_getElem? (i := 463) (by decide +kernel)⟩
theorem lw_p5 : lw_okq (⟨"CallSteps$Reader", "fail", "(I)Z"⟩, 4) := ⟨⟨by decide +kernel, by decide +kernel⟩, List.mem_of_getElem? (i := 133) (by decide +kernel), List.mem_of_getElem? (i := 466) (by decide +kernel), List.mem_of_getElem? (i := 467) (by decide +kernel)⟩
theorem lw_p6 : lw_okq (⟨"CallSteps$Reader", "isNewName", "()Z"⟩, 4) := ⟨⟨by decide +kernel, by decide +kernel⟩, List.mem_of_getElem? (i := 133) (by decide +kernel), List.mem_of_getElem? (i := 471) (by decide +kernel), List.mem_of_getElem? (i := 472) (by decide +kernel)⟩
theorem lw_p7 : lw_okq (⟨"CallSteps$Reader", "refuse", "()Z"⟩, 4) := ⟨⟨by decide +kernel, by decide +kernel⟩, List.mem_of_getElem? (i := 133) (by decide +kernel), List.mem_of_getElem? (i := 486) (by decide +kernel), List.mem_of_getElem? (i := 487) (by decide +kernel)⟩
theorem lw_p8 : lw_okq (⟨"CallSteps$Reader", "readsSemicolon", "()Z"⟩, 4) := ⟨⟨by decide +kernel, by decide +kernel⟩, List.mem_of_getElem? (i := 133) (by decide +kernel), List.mem_of_getElem? (i := 511) (by decide +kernel), List.mem_of_getElem? (i := 512) (by decide +kernel)⟩
theorem lw_p9 : lw_okq (⟨"CallSteps$Reader", "readsSign", "()Z"⟩, 4) := ⟨⟨by decide +kernel, by decide +kernel⟩, List.mem_of_getElem? (i := 133) (by decide +kernel), List.mem_of_getElem? (i := 516) (by decide +kernel), List.mem_of_getElem? (i := 517) (by decide +kernel)⟩
theorem lw_p10 : lw_okq (⟨"CallSteps$Reader", "readsRule", "()Z"⟩, 4) := ⟨⟨by decide +kernel, by decide +kernel⟩, List.mem_of_getElem? (i := 133) (by decide +kernel), List.mem_of_getElem? (i := 525) (by decide +kernel), List.mem_of_getElem? (i := 526) (by decide +kernel)⟩
theorem lw_p11 : lw_okq (⟨"CallSteps$Reader", "readsRuleState", "(II)Z"⟩, 4) := ⟨⟨by decide +kernel, by decide +kernel⟩, List.mem_of_getElem? (i := 133) (by decide +kernel), List.mem_of_getElem? (i := 529) (by decide +kernel), List.mem_of_getElem? (i := 530) (by decide +kernel)⟩
theorem lw_p12 : lw_okq (⟨"CallSteps$Reader", "takeNamed", "(I)I"⟩, 4) := ⟨⟨by decide +kernel, by decide +kernel⟩, List.mem_of_getElem? (i := 133) (by decide +kernel), List.mem_of_getElem? (i := 533) (by decide +kernel), List.mem_of_getElem? (i := 534) (by decide +kernel)⟩
theorem lw_p13 : lw_okq (⟨"CallSteps$Reader", "readsRuleSign", "(II)Z"⟩, 4) := ⟨⟨by decide +kernel, by decide +kernel⟩, List.mem_of_getElem? (i := 133) (by decide +kernel), List.mem_of_getElem? (i := 545) (by decide +kernel), List.mem_of_getElem? (i := 546) (by decide +kernel)⟩
theorem lw_p14 : lw_okq (⟨"CallSteps$Reader", "readsTo", "()Z"⟩, 4) := ⟨⟨by decide +kernel, by decide +kernel⟩, List.mem_of_getElem? (i := 133) (by decide +kernel), List.mem_of_getElem? (i := 549) (by decide +kernel), List.mem_of_getElem? (i := 550) (by decide +kernel)⟩
theorem lw_p15 : lw_okq (⟨"CallSteps$Reader", "readsRuleSigns", "(I)Z"⟩, 4) := ⟨⟨by decide +kernel, by decide +kernel⟩, List.mem_of_getElem? (i := 133) (by decide +kernel), List.mem_of_getElem? (i := 554) (by decide +kernel), List.mem_of_getElem? (i := 555) (by decide +kernel)⟩
def lw_privs_1 : List (MethodName × Nat) := [(⟨"CallSteps$Reader", "begin", "(LCallSteps$Program;)V"⟩, 4), (⟨"CallSteps$Tape", "byteAt", "(I)I"⟩, 7), (⟨"CallSteps$Tape", "takeWord", "()V"⟩, 7), (⟨"CallSteps$Tape", "takeNumber", "()V"⟩, 7), (⟨"CallSteps$Reader", "readsState", "()Z"⟩, 4), (⟨"CallSteps$Reader", "fail", "(I)Z"⟩, 4), (⟨"CallSteps$Reader", "isNewName", "()Z"⟩, 4), (⟨"CallSteps$Reader", "refuse", "()Z"⟩, 4), (⟨"CallSteps$Reader", "readsSemicolon", "()Z"⟩, 4), (⟨"CallSteps$Reader", "readsSign", "()Z"⟩, 4), (⟨"CallSteps$Reader", "readsRule", "()Z"⟩, 4), (⟨"CallSteps$Reader", "readsRuleState", "(II)Z"⟩, 4), (⟨"CallSteps$Reader", "takeNamed", "(I)I"⟩, 4), (⟨"CallSteps$Reader", "readsRuleSign", "(II)Z"⟩, 4), (⟨"CallSteps$Reader", "readsTo", "()Z"⟩, 4), (⟨"CallSteps$Reader", "readsRuleSigns", "(I)Z"⟩, 4)]
theorem lw_r1 : ∀ q ∈ lw_privs_1, lw_okq q := List.forall_mem_cons.mpr ⟨lw_p0, List.forall_mem_cons.mpr ⟨lw_p1, List.forall_mem_cons.mpr ⟨lw_p2, List.forall_mem_cons.mpr ⟨lw_p3, List.forall_mem_cons.mpr ⟨lw_p4, List.forall_mem_cons.mpr ⟨lw_p5, List.forall_mem_cons.mpr ⟨lw_p6, List.forall_mem_cons.mpr ⟨lw_p7, List.forall_mem_cons.mpr ⟨lw_p8, List.forall_mem_cons.mpr ⟨lw_p9, List.forall_mem_cons.mpr ⟨lw_p10, List.forall_mem_cons.mpr ⟨lw_p11, List.forall_mem_cons.mpr ⟨lw_p12, List.forall_mem_cons.mpr ⟨lw_p13, List.forall_mem_cons.mpr ⟨lw_p14, List.forall_mem_cons.mpr ⟨lw_p15, fun _ h => absurd h List.not_mem_nil⟩⟩⟩⟩⟩⟩⟩⟩⟩⟩⟩⟩⟩⟩⟩⟩
theorem lw_p16 : lw_okq (⟨"CallSteps$Reader", "readsRuleCost", "(I)Z"⟩, 4) := ⟨⟨by decide +kernel, by decide +kernel⟩, List.mem_of_getElem? (i := 133) (by decide +kernel), List.mem_of_getElem? (i := 558) (by decide +kernel), List.mem_of_getElem? (i := 559) (by decide +kernel)⟩
theorem lw_p17 : lw_okq (⟨"CallSteps$Reader", "readsGoal", "()Z"⟩, 4) := ⟨⟨by decide +kernel, by decide +kernel⟩, List.mem_of_getElem? (i := 133) (by decide +kernel), List.mem_of_getElem? (i := 564) (by decide +kernel), List.mem_of_getElem? (i := 565) (by decide +kernel)⟩
theorem lw_p18 : lw_okq (⟨"CallSteps$Reader", "readsGoalSigns", "(I)Z"⟩, 4) := ⟨⟨by decide +kernel, by decide +kernel⟩, List.mem_of_getElem? (i := 133) (by decide +kernel), List.mem_of_getElem? (i := 572) (by decide +kernel), List.mem_of_getElem? (i := 573) (by decide +kernel)⟩
theorem lw_p19 : lw_okq (⟨"CallSteps", "putOut", "(I)V"⟩, 15) := ⟨⟨by decide +kernel, by decide +kernel⟩, List.mem_of_getElem? (i := 23) (by decide +kernel), List.mem_of_getElem? (i := 585) (by decide +kernel), List.mem_of_getElem? (i := 586) (by decide +kernel)⟩
theorem lw_p20 : lw_okq (⟨"CallSteps", "isOut", "(I)Z"⟩, 15) := ⟨⟨by decide +kernel, by decide +kernel⟩, List.mem_of_getElem? (i := 23) (by decide +kernel), List.mem_of_getElem? (i := 605) (by decide +kernel), List.mem_of_getElem? (i := 606) (by decide +kernel)⟩
theorem lw_p21 : lw_okq (⟨"CallSteps$Acts", "startOf", "(I)I"⟩, 3) := ⟨⟨by decide +kernel, by decide +kernel⟩, List.mem_of_getElem? (i := 187) (by decide +kernel), List.mem_of_getElem? (i := 648) (by decide +kernel), List.mem_of_getElem? (i := 649) (by decide +kernel)⟩
theorem lw_p22 : lw_okq (⟨"CallSteps", "isAtGoal", "()Z"⟩, 15) := ⟨⟨by decide +kernel, by decide +kernel⟩, List.mem_of_getElem? (i := 23) (by decide +kernel), List.mem_of_getElem? (i := 672) (by decide +kernel), List.mem_of_getElem? (i := 673) (by decide +kernel)⟩
theorem lw_p23 : lw_okq (⟨"CallSteps", "canStep", "(I)Z"⟩, 15) := ⟨⟨by decide +kernel, by decide +kernel⟩, List.mem_of_getElem? (i := 23) (by decide +kernel), List.mem_of_getElem? (i := 690) (by decide +kernel), List.mem_of_getElem? (i := 691) (by decide +kernel)⟩
theorem lw_p24 : lw_okq (⟨"CallSteps", "costOfNow", "()J"⟩, 15) := ⟨⟨by decide +kernel, by decide +kernel⟩, List.mem_of_getElem? (i := 23) (by decide +kernel), List.mem_of_getElem? (i := 748) (by decide +kernel), List.mem_of_getElem? (i := 749) (by decide +kernel)⟩
theorem lw_p25 : lw_okq (⟨"CallSteps", "settleCosts", "()V"⟩, 15) := ⟨⟨by decide +kernel, by decide +kernel⟩, List.mem_of_getElem? (i := 23) (by decide +kernel), List.mem_of_getElem? (i := 752) (by decide +kernel), List.mem_of_getElem? (i := 753) (by decide +kernel)⟩
theorem lw_p26 : lw_okq (⟨"CallSteps$Costs", "lower", "(IIIJ)Z"⟩, 2) := ⟨⟨by decide +kernel, by decide +kernel⟩, List.mem_of_getElem? (i := 206) (by decide +kernel), List.mem_of_getElem? (i := 772) (by decide +kernel), List.mem_of_getElem? (i := 773) (by decide +kernel)⟩
theorem lw_p27 : lw_okq (⟨"CallSteps$Costs", "aimAtGoal", "(LCallSteps$Program;I)V"⟩, 2) := ⟨⟨by decide +kernel, by decide +kernel⟩, List.mem_of_getElem? (i := 206) (by decide +kernel), List.mem_of_getElem? (i := 782) (by decide +kernel), List.mem_of_getElem? (i := 783) (by decide +kernel)⟩
theorem lw_p28 : lw_okq (⟨"CallSteps$Costs", "lowerBy", "(LCallSteps$Program;I)Z"⟩, 2) := ⟨⟨by decide +kernel, by decide +kernel⟩, List.mem_of_getElem? (i := 206) (by decide +kernel), List.mem_of_getElem? (i := 796) (by decide +kernel), List.mem_of_getElem? (i := 797) (by decide +kernel)⟩
theorem lw_p29 : lw_okq (⟨"CallSteps$Costs", "lowerThrough", "(IIIIJ)Z"⟩, 2) := ⟨⟨by decide +kernel, by decide +kernel⟩, List.mem_of_getElem? (i := 206) (by decide +kernel), List.mem_of_getElem? (i := 809) (by decide +kernel), List.mem_of_getElem? (i := 810) (by decide +kernel)⟩
theorem lw_p30 : lw_okq (⟨"CallSteps$Costs", "leftBy", "(III)J"⟩, 2) := ⟨⟨by decide +kernel, by decide +kernel⟩, List.mem_of_getElem? (i := 206) (by decide +kernel), List.mem_of_getElem? (i := 822) (by decide +kernel), List.mem_of_getElem? (i := 823) (by decide +kernel)⟩
theorem lw_p31 : lw_okq (⟨"CallSteps$Walk", "leastRule", "(LCallSteps$Costs;LCallSteps$Program;IJ)I"⟩, 4) := ⟨⟨by decide +kernel, by decide +kernel⟩, List.mem_of_getElem? (i := 221) (by decide +kernel), List.mem_of_getElem? (i := 848) (by decide +kernel), List.mem_of_getElem? (i := 849) (by decide +kernel)⟩
def lw_privs_2 : List (MethodName × Nat) := [(⟨"CallSteps$Reader", "readsRuleCost", "(I)Z"⟩, 4), (⟨"CallSteps$Reader", "readsGoal", "()Z"⟩, 4), (⟨"CallSteps$Reader", "readsGoalSigns", "(I)Z"⟩, 4), (⟨"CallSteps", "putOut", "(I)V"⟩, 15), (⟨"CallSteps", "isOut", "(I)Z"⟩, 15), (⟨"CallSteps$Acts", "startOf", "(I)I"⟩, 3), (⟨"CallSteps", "isAtGoal", "()Z"⟩, 15), (⟨"CallSteps", "canStep", "(I)Z"⟩, 15), (⟨"CallSteps", "costOfNow", "()J"⟩, 15), (⟨"CallSteps", "settleCosts", "()V"⟩, 15), (⟨"CallSteps$Costs", "lower", "(IIIJ)Z"⟩, 2), (⟨"CallSteps$Costs", "aimAtGoal", "(LCallSteps$Program;I)V"⟩, 2), (⟨"CallSteps$Costs", "lowerBy", "(LCallSteps$Program;I)Z"⟩, 2), (⟨"CallSteps$Costs", "lowerThrough", "(IIIIJ)Z"⟩, 2), (⟨"CallSteps$Costs", "leftBy", "(III)J"⟩, 2), (⟨"CallSteps$Walk", "leastRule", "(LCallSteps$Costs;LCallSteps$Program;IJ)I"⟩, 4)]
theorem lw_r2 : ∀ q ∈ lw_privs_2, lw_okq q := List.forall_mem_cons.mpr ⟨lw_p16, List.forall_mem_cons.mpr ⟨lw_p17, List.forall_mem_cons.mpr ⟨lw_p18, List.forall_mem_cons.mpr ⟨lw_p19, List.forall_mem_cons.mpr ⟨lw_p20, List.forall_mem_cons.mpr ⟨lw_p21, List.forall_mem_cons.mpr ⟨lw_p22, List.forall_mem_cons.mpr ⟨lw_p23, List.forall_mem_cons.mpr ⟨lw_p24, List.forall_mem_cons.mpr ⟨lw_p25, List.forall_mem_cons.mpr ⟨lw_p26, List.forall_mem_cons.mpr ⟨lw_p27, List.forall_mem_cons.mpr ⟨lw_p28, List.forall_mem_cons.mpr ⟨lw_p29, List.forall_mem_cons.mpr ⟨lw_p30, List.forall_mem_cons.mpr ⟨lw_p31, fun _ h => absurd h List.not_mem_nil⟩⟩⟩⟩⟩⟩⟩⟩⟩⟩⟩⟩⟩⟩⟩⟩
theorem lw_p32 : lw_okq (⟨"CallSteps$Walk", "stepBy", "(LCallSteps$Costs;LCallSteps$Program;I)V"⟩, 4) := ⟨⟨by decide +kernel, by decide +kernel⟩, List.mem_of_getElem? (i := 221) (by decide +kernel), List.mem_of_getElem? (i := 860) (by decide +kernel), List.mem_of_getElem? (i := 861) (by decide +kernel)⟩
theorem lw_p33 : lw_okq (⟨"CallSteps", "settleHeads", "()V"⟩, 15) := ⟨⟨by decide +kernel, by decide +kernel⟩, List.mem_of_getElem? (i := 23) (by decide +kernel), List.mem_of_getElem? (i := 896) (by decide +kernel), List.mem_of_getElem? (i := 897) (by decide +kernel)⟩
theorem lw_p34 : lw_okq (⟨"CallSteps$Heads", "raisesBy", "(I)Z"⟩, 9) := ⟨⟨by decide +kernel, by decide +kernel⟩, List.mem_of_getElem? (i := 246) (by decide +kernel), List.mem_of_getElem? (i := 916) (by decide +kernel), List.mem_of_getElem? (i := 917) (by decide +kernel)⟩
theorem lw_p35 : lw_okq (⟨"CallSteps$Heads", "headBehind", "(II)I"⟩, 9) := ⟨⟨by decide +kernel, by decide +kernel⟩, List.mem_of_getElem? (i := 246) (by decide +kernel), List.mem_of_getElem? (i := 920) (by decide +kernel), List.mem_of_getElem? (i := 921) (by decide +kernel)⟩
theorem lw_p36 : lw_okq (⟨"CallSteps$Heads", "canPop", "(III)Z"⟩, 9) := ⟨⟨by decide +kernel, by decide +kernel⟩, List.mem_of_getElem? (i := 246) (by decide +kernel), List.mem_of_getElem? (i := 928) (by decide +kernel), List.mem_of_getElem? (i := 929) (by decide +kernel)⟩
theorem lw_p37 : lw_okq (⟨"CallSteps$Heads", "headOfRule", "(I)I"⟩, 9) := ⟨⟨by decide +kernel, by decide +kernel⟩, List.mem_of_getElem? (i := 246) (by decide +kernel), List.mem_of_getElem? (i := 941) (by decide +kernel), List.mem_of_getElem? (i := 942) (by decide +kernel)⟩
theorem lw_p38 : lw_okq (⟨"CallSteps$Heads", "reachedBelow", "(II)I"⟩, 9) := ⟨⟨by decide +kernel, by decide +kernel⟩, List.mem_of_getElem? (i := 246) (by decide +kernel), List.mem_of_getElem? (i := 955) (by decide +kernel), List.mem_of_getElem? (i := 956) (by decide +kernel)⟩
theorem lw_p39 : lw_okq (⟨"CallSteps$Heads", "leadsToLasting", "(I)Z"⟩, 9) := ⟨⟨by decide +kernel, by decide +kernel⟩, List.mem_of_getElem? (i := 246) (by decide +kernel), List.mem_of_getElem? (i := 967) (by decide +kernel), List.mem_of_getElem? (i := 968) (by decide +kernel)⟩
theorem lw_p40 : lw_okq (⟨"CallSteps$Heads", "goesOnToLasting", "(I)Z"⟩, 9) := ⟨⟨by decide +kernel, by decide +kernel⟩, List.mem_of_getElem? (i := 246) (by decide +kernel), List.mem_of_getElem? (i := 971) (by decide +kernel), List.mem_of_getElem? (i := 972) (by decide +kernel)⟩
theorem lw_p41 : lw_okq (⟨"CallSteps$Heads", "lengthensBy", "(I)Z"⟩, 9) := ⟨⟨by decide +kernel, by decide +kernel⟩, List.mem_of_getElem? (i := 246) (by decide +kernel), List.mem_of_getElem? (i := 993) (by decide +kernel), List.mem_of_getElem? (i := 994) (by decide +kernel)⟩
theorem lw_p42 : lw_okq (⟨"CallSteps$Heads", "toPopFirst", "(II)J"⟩, 9) := ⟨⟨by decide +kernel, by decide +kernel⟩, List.mem_of_getElem? (i := 246) (by decide +kernel), List.mem_of_getElem? (i := 997) (by decide +kernel), List.mem_of_getElem? (i := 998) (by decide +kernel)⟩
theorem lw_p43 : lw_okq (⟨"CallSteps$Heads", "toPop", "(III)J"⟩, 9) := ⟨⟨by decide +kernel, by decide +kernel⟩, List.mem_of_getElem? (i := 246) (by decide +kernel), List.mem_of_getElem? (i := 1001) (by decide +kernel), List.mem_of_getElem? (i := 1002) (by decide +kernel)⟩
theorem lw_p44 : lw_okq (⟨"CallSteps$Heads", "toPopBy", "(II)J"⟩, 9) := ⟨⟨by decide +kernel, by decide +kernel⟩, List.mem_of_getElem? (i := 246) (by decide +kernel), List.mem_of_getElem? (i := 1011) (by decide +kernel), List.mem_of_getElem? (i := 1012) (by decide +kernel)⟩
theorem lw_p45 : lw_okq (⟨"CallSteps$Heads", "goBelow", "(IIJ)V"⟩, 9) := ⟨⟨by decide +kernel, by decide +kernel⟩, List.mem_of_getElem? (i := 246) (by decide +kernel), List.mem_of_getElem? (i := 1022) (by decide +kernel), List.mem_of_getElem? (i := 1023) (by decide +kernel)⟩
theorem lw_p46 : lw_okq (⟨"CallSteps", "settleMachine", "(I)V"⟩, 15) := ⟨⟨by decide +kernel, by decide +kernel⟩, List.mem_of_getElem? (i := 23) (by decide +kernel), List.mem_of_getElem? (i := 1038) (by decide +kernel), List.mem_of_getElem? (i := 1039) (by decide +kernel)⟩
theorem lw_p47 : lw_okq (⟨"CallSteps$Machines", "readMoves", "(LCallSteps$Costs;)V"⟩, 18) := ⟨⟨by decide +kernel, by decide +kernel⟩, List.mem_of_getElem? (i := 284) (by decide +kernel), List.mem_of_getElem? (i := 1046) (by decide +kernel), List.mem_of_getElem? (i := 1047) (by decide +kernel)⟩
def lw_privs_3 : List (MethodName × Nat) := [(⟨"CallSteps$Walk", "stepBy", "(LCallSteps$Costs;LCallSteps$Program;I)V"⟩, 4), (⟨"CallSteps", "settleHeads", "()V"⟩, 15), (⟨"CallSteps$Heads", "raisesBy", "(I)Z"⟩, 9), (⟨"CallSteps$Heads", "headBehind", "(II)I"⟩, 9), (⟨"CallSteps$Heads", "canPop", "(III)Z"⟩, 9), (⟨"CallSteps$Heads", "headOfRule", "(I)I"⟩, 9), (⟨"CallSteps$Heads", "reachedBelow", "(II)I"⟩, 9), (⟨"CallSteps$Heads", "leadsToLasting", "(I)Z"⟩, 9), (⟨"CallSteps$Heads", "goesOnToLasting", "(I)Z"⟩, 9), (⟨"CallSteps$Heads", "lengthensBy", "(I)Z"⟩, 9), (⟨"CallSteps$Heads", "toPopFirst", "(II)J"⟩, 9), (⟨"CallSteps$Heads", "toPop", "(III)J"⟩, 9), (⟨"CallSteps$Heads", "toPopBy", "(II)J"⟩, 9), (⟨"CallSteps$Heads", "goBelow", "(IIJ)V"⟩, 9), (⟨"CallSteps", "settleMachine", "(I)V"⟩, 15), (⟨"CallSteps$Machines", "readMoves", "(LCallSteps$Costs;)V"⟩, 18)]
theorem lw_r3 : ∀ q ∈ lw_privs_3, lw_okq q := List.forall_mem_cons.mpr ⟨lw_p32, List.forall_mem_cons.mpr ⟨lw_p33, List.forall_mem_cons.mpr ⟨lw_p34, List.forall_mem_cons.mpr ⟨lw_p35, List.forall_mem_cons.mpr ⟨lw_p36, List.forall_mem_cons.mpr ⟨lw_p37, List.forall_mem_cons.mpr ⟨lw_p38, List.forall_mem_cons.mpr ⟨lw_p39, List.forall_mem_cons.mpr ⟨lw_p40, List.forall_mem_cons.mpr ⟨lw_p41, List.forall_mem_cons.mpr ⟨lw_p42, List.forall_mem_cons.mpr ⟨lw_p43, List.forall_mem_cons.mpr ⟨lw_p44, List.forall_mem_cons.mpr ⟨lw_p45, List.forall_mem_cons.mpr ⟨lw_p46, List.forall_mem_cons.mpr ⟨lw_p47, fun _ h => absurd h List.not_mem_nil⟩⟩⟩⟩⟩⟩⟩⟩⟩⟩⟩⟩⟩⟩⟩⟩
theorem lw_p48 : lw_okq (⟨"CallSteps$Machines", "setNumber", "(I)I"⟩, 18) := ⟨⟨by decide +kernel, by decide +kernel⟩, List.mem_of_getElem? (i := 284) (by decide +kernel), List.mem_of_getElem? (i := 1055) (by decide +kernel), List.mem_of_getElem? (i := 1056) (by decide +kernel)⟩
theorem lw_p49 : lw_okq (⟨"CallSteps$Machines", "widen", "()V"⟩, 18) := ⟨⟨by decide +kernel, by decide +kernel⟩, List.mem_of_getElem? (i := 284) (by decide +kernel), List.mem_of_getElem? (i := 1064) (by decide +kernel), List.mem_of_getElem? (i := 1065) (by decide +kernel)⟩
theorem lw_p50 : lw_okq (⟨"CallSteps$Machines", "setBehind", "(II)I"⟩, 18) := ⟨⟨by decide +kernel, by decide +kernel⟩, List.mem_of_getElem? (i := 284) (by decide +kernel), List.mem_of_getElem? (i := 1098) (by decide +kernel), List.mem_of_getElem? (i := 1099) (by decide +kernel)⟩
theorem lw_p51 : lw_okq (⟨"CallSteps$Machines", "isGoodSet", "(I)Z"⟩, 18) := ⟨⟨by decide +kernel, by decide +kernel⟩, List.mem_of_getElem? (i := 284) (by decide +kernel), List.mem_of_getElem? (i := 1106) (by decide +kernel), List.mem_of_getElem? (i := 1107) (by decide +kernel)⟩
theorem lw_p52 : lw_okq (⟨"CallSteps$Machines", "partKinds", "()I"⟩, 18) := ⟨⟨by decide +kernel, by decide +kernel⟩, List.mem_of_getElem? (i := 284) (by decide +kernel), List.mem_of_getElem? (i := 1110) (by decide +kernel), List.mem_of_getElem? (i := 1111) (by decide +kernel)⟩
theorem lw_p53 : lw_okq (⟨"CallSteps$Machines", "mixOf", "(I)I"⟩, 18) := ⟨⟨by decide +kernel, by decide +kernel⟩, List.mem_of_getElem? (i := 284) (by decide +kernel), List.mem_of_getElem? (i := 1114) (by decide +kernel), List.mem_of_getElem? (i := 1115) (by decide +kernel)⟩
theorem lw_p54 : lw_okq (⟨"CallSteps$Machines", "kindBehind", "(II)I"⟩, 18) := ⟨⟨by decide +kernel, by decide +kernel⟩, List.mem_of_getElem? (i := 284) (by decide +kernel), List.mem_of_getElem? (i := 1118) (by decide +kernel), List.mem_of_getElem? (i := 1119) (by decide +kernel)⟩
theorem lw_p55 : lw_okq (⟨"CallSteps$Machines", "findAlike", "(II)I"⟩, 18) := ⟨⟨by decide +kernel, by decide +kernel⟩, List.mem_of_getElem? (i := 284) (by decide +kernel), List.mem_of_getElem? (i := 1122) (by decide +kernel), List.mem_of_getElem? (i := 1123) (by decide +kernel)⟩
theorem lw_p56 : lw_okq (⟨"CallSteps$Machines", "areAlike", "(II)Z"⟩, 18) := ⟨⟨by decide +kernel, by decide +kernel⟩, List.mem_of_getElem? (i := 284) (by decide +kernel), List.mem_of_getElem? (i := 1126) (by decide +kernel), List.mem_of_getElem? (i := 1127) (by decide +kernel)⟩
theorem lw_p57 : lw_okq (⟨"CallSteps$Machines", "addNode", "(II)V"⟩, 18) := ⟨⟨by decide +kernel, by decide +kernel⟩, List.mem_of_getElem? (i := 284) (by decide +kernel), List.mem_of_getElem? (i := 1134) (by decide +kernel), List.mem_of_getElem? (i := 1135) (by decide +kernel)⟩
theorem lw_p58 : lw_okq (⟨"CallSteps$Machines", "lengthenWords", "()V"⟩, 18) := ⟨⟨by decide +kernel, by decide +kernel⟩, List.mem_of_getElem? (i := 284) (by decide +kernel), List.mem_of_getElem? (i := 1167) (by decide +kernel), List.mem_of_getElem? (i := 1168) (by decide +kernel)⟩
theorem lw_p59 : lw_okq (⟨"CallSteps$Machines", "parentOf", "(I)I"⟩, 18) := ⟨⟨by decide +kernel, by decide +kernel⟩, List.mem_of_getElem? (i := 284) (by decide +kernel), List.mem_of_getElem? (i := 1186) (by decide +kernel), List.mem_of_getElem? (i := 1187) (by decide +kernel)⟩
theorem lw_p60 : lw_okq (⟨"java/lang/Throwable", "fillInStackTrace", "(I)Ljava/lang/Throwable;"⟩, 6) := ⟨⟨by decide +kernel, by decide +kernel⟩, List.mem_of_getElem? (i := 1250) (by decide +kernel), List.mem_of_getElem? (i := 1248) (by decide +kernel), List.mem_of_getElem? (i := 1249) (by decide +kernel)⟩
theorem lw_p61 : lw_okq (⟨"CallStepsModel", "four", "(I)V"⟩, 55) := ⟨⟨by decide +kernel, by decide +kernel⟩, List.mem_of_getElem? (i := 1297) (by decide +kernel), List.mem_of_getElem? (i := 1479) (by decide +kernel), List.mem_of_getElem? (i := 1480) (by decide +kernel)⟩
theorem lw_p62 : lw_okq (⟨"CallStepsModel", "begins", "()V"⟩, 55) := ⟨⟨by decide +kernel, by decide +kernel⟩, List.mem_of_getElem? (i := 1297) (by decide +kernel), List.mem_of_getElem? (i := 1494) (by decide +kernel), List.mem_of_getElem? (i := 1495) (by decide +kernel)⟩
theorem lw_p63 : lw_okq (⟨"CallStepsModel", "nextToken", "()V"⟩, 55) := ⟨⟨by decide +kernel, by decide +kernel⟩, List.mem_of_getElem? (i := 1297) (by decide +kernel), List.mem_of_getElem? (i := 1498) (by decide +kernel), List.mem_of_getElem? (i := 1499) (by decide +kernel)⟩
def lw_privs_4 : List (MethodName × Nat) := [(⟨"CallSteps$Machines", "setNumber", "(I)I"⟩, 18), (⟨"CallSteps$Machines", "widen", "()V"⟩, 18), (⟨"CallSteps$Machines", "setBehind", "(II)I"⟩, 18), (⟨"CallSteps$Machines", "isGoodSet", "(I)Z"⟩, 18), (⟨"CallSteps$Machines", "partKinds", "()I"⟩, 18), (⟨"CallSteps$Machines", "mixOf", "(I)I"⟩, 18), (⟨"CallSteps$Machines", "kindBehind", "(II)I"⟩, 18), (⟨"CallSteps$Machines", "findAlike", "(II)I"⟩, 18), (⟨"CallSteps$Machines", "areAlike", "(II)Z"⟩, 18), (⟨"CallSteps$Machines", "addNode", "(II)V"⟩, 18), (⟨"CallSteps$Machines", "lengthenWords", "()V"⟩, 18), (⟨"CallSteps$Machines", "parentOf", "(I)I"⟩, 18), (⟨"java/lang/Throwable", "fillInStackTrace", "(I)Ljava/lang/Throwable;"⟩, 6), (⟨"CallStepsModel", "four", "(I)V"⟩, 55), (⟨"CallStepsModel", "begins", "()V"⟩, 55), (⟨"CallStepsModel", "nextToken", "()V"⟩, 55)]
theorem lw_r4 : ∀ q ∈ lw_privs_4, lw_okq q := List.forall_mem_cons.mpr ⟨lw_p48, List.forall_mem_cons.mpr ⟨lw_p49, List.forall_mem_cons.mpr ⟨lw_p50, List.forall_mem_cons.mpr ⟨lw_p51, List.forall_mem_cons.mpr ⟨lw_p52, List.forall_mem_cons.mpr ⟨lw_p53, List.forall_mem_cons.mpr ⟨lw_p54, List.forall_mem_cons.mpr ⟨lw_p55, List.forall_mem_cons.mpr ⟨lw_p56, List.forall_mem_cons.mpr ⟨lw_p57, List.forall_mem_cons.mpr ⟨lw_p58, List.forall_mem_cons.mpr ⟨lw_p59, List.forall_mem_cons.mpr ⟨lw_p60, List.forall_mem_cons.mpr ⟨lw_p61, List.forall_mem_cons.mpr ⟨lw_p62, List.forall_mem_cons.mpr ⟨lw_p63, fun _ h => absurd h List.not_mem_nil⟩⟩⟩⟩⟩⟩⟩⟩⟩⟩⟩⟩⟩⟩⟩⟩
theorem lw_p64 : lw_okq (⟨"CallStepsModel", "byteAt", "(I)I"⟩, 55) := ⟨⟨by decide +kernel, by decide +kernel⟩, List.mem_of_getElem? (i := 1297) (by decide +kernel), List.mem_of_getElem? (i := 1502) (by decide +kernel), List.mem_of_getElem? (i := 1503) (by decide +kernel)⟩
theorem lw_p65 : lw_okq (⟨"CallStepsModel", "isGood", "()Z"⟩, 55) := ⟨⟨by decide +kernel, by decide +kernel⟩, List.mem_of_getElem? (i := 1297) (by decide +kernel), List.mem_of_getElem? (i := 1512) (by decide +kernel), List.mem_of_getElem? (i := 1513) (by decide +kernel)⟩
theorem lw_p66 : lw_okq (⟨"CallStepsModel", "readLine", "()V"⟩, 55) := ⟨⟨by decide +kernel, by decide +kernel⟩, List.mem_of_getElem? (i := 1297) (by decide +kernel), List.mem_of_getElem? (i := 1516) (by decide +kernel), List.mem_of_getElem? (i := 1517) (by decide +kernel)⟩
theorem lw_p67 : lw_okq (⟨"CallStepsModel", "isWord", "(I)Z"⟩, 55) := ⟨⟨by decide +kernel, by decide +kernel⟩, List.mem_of_getElem? (i := 1297) (by decide +kernel), List.mem_of_getElem? (i := 1521) (by decide +kernel), List.mem_of_getElem? (i := 1522) (by decide +kernel)⟩
theorem lw_p68 : lw_okq (⟨"CallStepsModel", "isFull", "(II)Z"⟩, 55) := ⟨⟨by decide +kernel, by decide +kernel⟩, List.mem_of_getElem? (i := 1297) (by decide +kernel), List.mem_of_getElem? (i := 1525) (by decide +kernel), List.mem_of_getElem? (i := 1526) (by decide +kernel)⟩
theorem lw_p69 : lw_okq (⟨"CallStepsModel", "fails", "(I)V"⟩, 55) := ⟨⟨by decide +kernel, by decide +kernel⟩, List.mem_of_getElem? (i := 1297) (by decide +kernel), List.mem_of_getElem? (i := 1529) (by decide +kernel), List.mem_of_getElem? (i := 1530) (by decide +kernel)⟩
theorem lw_p70 : lw_okq (⟨"CallStepsModel", "newName", "(I)V"⟩, 55) := ⟨⟨by decide +kernel, by decide +kernel⟩, List.mem_of_getElem? (i := 1297) (by decide +kernel), List.mem_of_getElem? (i := 1533) (by decide +kernel), List.mem_of_getElem? (i := 1534) (by decide +kernel)⟩
theorem lw_p71 : lw_okq (⟨"CallStepsModel", "isName", "()Z"⟩, 55) := ⟨⟨by decide +kernel, by decide +kernel⟩, List.mem_of_getElem? (i := 1297) (by decide +kernel), List.mem_of_getElem? (i := 1537) (by decide +kernel), List.mem_of_getElem? (i := 1538) (by decide +kernel)⟩
theorem lw_p72 : lw_okq (⟨"CallStepsModel", "called", "(II)I"⟩, 55) := ⟨⟨by decide +kernel, by decide +kernel⟩, List.mem_of_getElem? (i := 1297) (by decide +kernel), List.mem_of_getElem? (i := 1546) (by decide +kernel), List.mem_of_getElem? (i := 1547) (by decide +kernel)⟩
theorem lw_p73 : lw_okq (⟨"CallStepsModel", "goOn", "()V"⟩, 55) := ⟨⟨by decide +kernel, by decide +kernel⟩, List.mem_of_getElem? (i := 1297) (by decide +kernel), List.mem_of_getElem? (i := 1550) (by decide +kernel), List.mem_of_getElem? (i := 1551) (by decide +kernel)⟩
theorem lw_p74 : lw_okq (⟨"CallStepsModel", "newRule", "()V"⟩, 55) := ⟨⟨by decide +kernel, by decide +kernel⟩, List.mem_of_getElem? (i := 1297) (by decide +kernel), List.mem_of_getElem? (i := 1554) (by decide +kernel), List.mem_of_getElem? (i := 1555) (by decide +kernel)⟩
theorem lw_p75 : lw_okq (⟨"CallStepsModel", "oneOf", "(II)I"⟩, 55) := ⟨⟨by decide +kernel, by decide +kernel⟩, List.mem_of_getElem? (i := 1297) (by decide +kernel), List.mem_of_getElem? (i := 1558) (by decide +kernel), List.mem_of_getElem? (i := 1559) (by decide +kernel)⟩
theorem lw_p76 : lw_okq (⟨"CallStepsModel", "newGoal", "()V"⟩, 55) := ⟨⟨by decide +kernel, by decide +kernel⟩, List.mem_of_getElem? (i := 1297) (by decide +kernel), List.mem_of_getElem? (i := 1562) (by decide +kernel), List.mem_of_getElem? (i := 1563) (by decide +kernel)⟩
theorem lw_p77 : lw_okq (⟨"CallStepsModel", "ends", "()Z"⟩, 55) := ⟨⟨by decide +kernel, by decide +kernel⟩, List.mem_of_getElem? (i := 1297) (by decide +kernel), List.mem_of_getElem? (i := 1566) (by decide +kernel), List.mem_of_getElem? (i := 1567) (by decide +kernel)⟩
theorem lw_p78 : lw_okq (⟨"CallStepsModel", "isRule", "(I)Z"⟩, 55) := ⟨⟨by decide +kernel, by decide +kernel⟩, List.mem_of_getElem? (i := 1297) (by decide +kernel), List.mem_of_getElem? (i := 1582) (by decide +kernel), List.mem_of_getElem? (i := 1583) (by decide +kernel)⟩
theorem lw_p79 : lw_okq (⟨"CallStepsModel", "ruleOf", "(II)I"⟩, 55) := ⟨⟨by decide +kernel, by decide +kernel⟩, List.mem_of_getElem? (i := 1297) (by decide +kernel), List.mem_of_getElem? (i := 1586) (by decide +kernel), List.mem_of_getElem? (i := 1587) (by decide +kernel)⟩
def lw_privs_5 : List (MethodName × Nat) := [(⟨"CallStepsModel", "byteAt", "(I)I"⟩, 55), (⟨"CallStepsModel", "isGood", "()Z"⟩, 55), (⟨"CallStepsModel", "readLine", "()V"⟩, 55), (⟨"CallStepsModel", "isWord", "(I)Z"⟩, 55), (⟨"CallStepsModel", "isFull", "(II)Z"⟩, 55), (⟨"CallStepsModel", "fails", "(I)V"⟩, 55), (⟨"CallStepsModel", "newName", "(I)V"⟩, 55), (⟨"CallStepsModel", "isName", "()Z"⟩, 55), (⟨"CallStepsModel", "called", "(II)I"⟩, 55), (⟨"CallStepsModel", "goOn", "()V"⟩, 55), (⟨"CallStepsModel", "newRule", "()V"⟩, 55), (⟨"CallStepsModel", "oneOf", "(II)I"⟩, 55), (⟨"CallStepsModel", "newGoal", "()V"⟩, 55), (⟨"CallStepsModel", "ends", "()Z"⟩, 55), (⟨"CallStepsModel", "isRule", "(I)Z"⟩, 55), (⟨"CallStepsModel", "ruleOf", "(II)I"⟩, 55)]
theorem lw_r5 : ∀ q ∈ lw_privs_5, lw_okq q := List.forall_mem_cons.mpr ⟨lw_p64, List.forall_mem_cons.mpr ⟨lw_p65, List.forall_mem_cons.mpr ⟨lw_p66, List.forall_mem_cons.mpr ⟨lw_p67, List.forall_mem_cons.mpr ⟨lw_p68, List.forall_mem_cons.mpr ⟨lw_p69, List.forall_mem_cons.mpr ⟨lw_p70, List.forall_mem_cons.mpr ⟨lw_p71, List.forall_mem_cons.mpr ⟨lw_p72, List.forall_mem_cons.mpr ⟨lw_p73, List.forall_mem_cons.mpr ⟨lw_p74, List.forall_mem_cons.mpr ⟨lw_p75, List.forall_mem_cons.mpr ⟨lw_p76, List.forall_mem_cons.mpr ⟨lw_p77, List.forall_mem_cons.mpr ⟨lw_p78, List.forall_mem_cons.mpr ⟨lw_p79, fun _ h => absurd h List.not_mem_nil⟩⟩⟩⟩⟩⟩⟩⟩⟩⟩⟩⟩⟩⟩⟩⟩
theorem lw_p80 : lw_okq (⟨"CallStepsModel", "outsAre", "(I)V"⟩, 55) := ⟨⟨by decide +kernel, by decide +kernel⟩, List.mem_of_getElem? (i := 1297) (by decide +kernel), List.mem_of_getElem? (i := 1598) (by decide +kernel), List.mem_of_getElem? (i := 1599) (by decide +kernel)⟩
theorem lw_p81 : lw_okq (⟨"CallStepsModel", "keep", "()V"⟩, 55) := ⟨⟨by decide +kernel, by decide +kernel⟩, List.mem_of_getElem? (i := 1297) (by decide +kernel), List.mem_of_getElem? (i := 1606) (by decide +kernel), List.mem_of_getElem? (i := 1607) (by decide +kernel)⟩
theorem lw_p82 : lw_okq (⟨"CallStepsModel", "isAt", "(I[II)Z"⟩, 55) := ⟨⟨by decide +kernel, by decide +kernel⟩, List.mem_of_getElem? (i := 1297) (by decide +kernel), List.mem_of_getElem? (i := 1614) (by decide +kernel), List.mem_of_getElem? (i := 1615) (by decide +kernel)⟩
theorem lw_p83 : lw_okq (⟨"CallStepsModel", "allThatCan", "()I"⟩, 55) := ⟨⟨by decide +kernel, by decide +kernel⟩, List.mem_of_getElem? (i := 1297) (by decide +kernel), List.mem_of_getElem? (i := 1622) (by decide +kernel), List.mem_of_getElem? (i := 1623) (by decide +kernel)⟩
theorem lw_p84 : lw_okq (⟨"CallStepsModel", "isHeadOf", "(III)Z"⟩, 55) := ⟨⟨by decide +kernel, by decide +kernel⟩, List.mem_of_getElem? (i := 1297) (by decide +kernel), List.mem_of_getElem? (i := 1626) (by decide +kernel), List.mem_of_getElem? (i := 1627) (by decide +kernel)⟩
theorem lw_p85 : lw_okq (⟨"CallStepsModel", "does", "(I)V"⟩, 55) := ⟨⟨by decide +kernel, by decide +kernel⟩, List.mem_of_getElem? (i := 1297) (by decide +kernel), List.mem_of_getElem? (i := 1637) (by decide +kernel), List.mem_of_getElem? (i := 1638) (by decide +kernel)⟩
theorem lw_p86 : lw_okq (⟨"CallStepsModel", "layTold", "()V"⟩, 55) := ⟨⟨by decide +kernel, by decide +kernel⟩, List.mem_of_getElem? (i := 1297) (by decide +kernel), List.mem_of_getElem? (i := 1655) (by decide +kernel), List.mem_of_getElem? (i := 1656) (by decide +kernel)⟩
theorem lw_p87 : lw_okq (⟨"CallStepsModel", "targetsAreGoals", "()V"⟩, 55) := ⟨⟨by decide +kernel, by decide +kernel⟩, List.mem_of_getElem? (i := 1297) (by decide +kernel), List.mem_of_getElem? (i := 1659) (by decide +kernel), List.mem_of_getElem? (i := 1660) (by decide +kernel)⟩
theorem lw_p88 : lw_okq (⟨"CallStepsModel", "lay", "([J)V"⟩, 55) := ⟨⟨by decide +kernel, by decide +kernel⟩, List.mem_of_getElem? (i := 1297) (by decide +kernel), List.mem_of_getElem? (i := 1663) (by decide +kernel), List.mem_of_getElem? (i := 1664) (by decide +kernel)⟩
theorem lw_p89 : lw_okq (⟨"CallStepsModel", "signs", "()I"⟩, 55) := ⟨⟨by decide +kernel, by decide +kernel⟩, List.mem_of_getElem? (i := 1297) (by decide +kernel), List.mem_of_getElem? (i := 1667) (by decide +kernel), List.mem_of_getElem? (i := 1668) (by decide +kernel)⟩
theorem lw_p90 : lw_okq (⟨"CallStepsModel", "nodeOf", "(II)I"⟩, 55) := ⟨⟨by decide +kernel, by decide +kernel⟩, List.mem_of_getElem? (i := 1297) (by decide +kernel), List.mem_of_getElem? (i := 1671) (by decide +kernel), List.mem_of_getElem? (i := 1672) (by decide +kernel)⟩
theorem lw_p91 : lw_okq (⟨"CallStepsModel", "cell", "(III)I"⟩, 55) := ⟨⟨by decide +kernel, by decide +kernel⟩, List.mem_of_getElem? (i := 1297) (by decide +kernel), List.mem_of_getElem? (i := 1675) (by decide +kernel), List.mem_of_getElem? (i := 1676) (by decide +kernel)⟩
theorem lw_p92 : lw_okq (⟨"CallStepsModel", "byRule", "([JII)J"⟩, 55) := ⟨⟨by decide +kernel, by decide +kernel⟩, List.mem_of_getElem? (i := 1297) (by decide +kernel), List.mem_of_getElem? (i := 1679) (by decide +kernel), List.mem_of_getElem? (i := 1680) (by decide +kernel)⟩
theorem lw_p93 : lw_okq (⟨"CallStepsModel", "costOf", "([JIII)J"⟩, 55) := ⟨⟨by decide +kernel, by decide +kernel⟩, List.mem_of_getElem? (i := 1297) (by decide +kernel), List.mem_of_getElem? (i := 1683) (by decide +kernel), List.mem_of_getElem? (i := 1684) (by decide +kernel)⟩
theorem lw_p94 : lw_okq (⟨"CallStepsModel", "onBy", "([JIII)J"⟩, 55) := ⟨⟨by decide +kernel, by decide +kernel⟩, List.mem_of_getElem? (i := 1297) (by decide +kernel), List.mem_of_getElem? (i := 1687) (by decide +kernel), List.mem_of_getElem? (i := 1688) (by decide +kernel)⟩
theorem lw_p95 : lw_okq (⟨"CallStepsModel", "goesTo", "(II)I"⟩, 55) := ⟨⟨by decide +kernel, by decide +kernel⟩, List.mem_of_getElem? (i := 1297) (by decide +kernel), List.mem_of_getElem? (i := 1691) (by decide +kernel), List.mem_of_getElem? (i := 1692) (by decide +kernel)⟩
def lw_privs_6 : List (MethodName × Nat) := [(⟨"CallStepsModel", "outsAre", "(I)V"⟩, 55), (⟨"CallStepsModel", "keep", "()V"⟩, 55), (⟨"CallStepsModel", "isAt", "(I[II)Z"⟩, 55), (⟨"CallStepsModel", "allThatCan", "()I"⟩, 55), (⟨"CallStepsModel", "isHeadOf", "(III)Z"⟩, 55), (⟨"CallStepsModel", "does", "(I)V"⟩, 55), (⟨"CallStepsModel", "layTold", "()V"⟩, 55), (⟨"CallStepsModel", "targetsAreGoals", "()V"⟩, 55), (⟨"CallStepsModel", "lay", "([J)V"⟩, 55), (⟨"CallStepsModel", "signs", "()I"⟩, 55), (⟨"CallStepsModel", "nodeOf", "(II)I"⟩, 55), (⟨"CallStepsModel", "cell", "(III)I"⟩, 55), (⟨"CallStepsModel", "byRule", "([JII)J"⟩, 55), (⟨"CallStepsModel", "costOf", "([JIII)J"⟩, 55), (⟨"CallStepsModel", "onBy", "([JIII)J"⟩, 55), (⟨"CallStepsModel", "goesTo", "(II)I"⟩, 55)]
theorem lw_r6 : ∀ q ∈ lw_privs_6, lw_okq q := List.forall_mem_cons.mpr ⟨lw_p80, List.forall_mem_cons.mpr ⟨lw_p81, List.forall_mem_cons.mpr ⟨lw_p82, List.forall_mem_cons.mpr ⟨lw_p83, List.forall_mem_cons.mpr ⟨lw_p84, List.forall_mem_cons.mpr ⟨lw_p85, List.forall_mem_cons.mpr ⟨lw_p86, List.forall_mem_cons.mpr ⟨lw_p87, List.forall_mem_cons.mpr ⟨lw_p88, List.forall_mem_cons.mpr ⟨lw_p89, List.forall_mem_cons.mpr ⟨lw_p90, List.forall_mem_cons.mpr ⟨lw_p91, List.forall_mem_cons.mpr ⟨lw_p92, List.forall_mem_cons.mpr ⟨lw_p93, List.forall_mem_cons.mpr ⟨lw_p94, List.forall_mem_cons.mpr ⟨lw_p95, fun _ h => absurd h List.not_mem_nil⟩⟩⟩⟩⟩⟩⟩⟩⟩⟩⟩⟩⟩⟩⟩⟩
theorem lw_p96 : lw_okq (⟨"CallStepsModel", "costNow", "([J)J"⟩, 55) := ⟨⟨by decide +kernel, by decide +kernel⟩, List.mem_of_getElem? (i := 1297) (by decide +kernel), List.mem_of_getElem? (i := 1702) (by decide +kernel), List.mem_of_getElem? (i := 1703) (by decide +kernel)⟩
theorem lw_p97 : lw_okq (⟨"CallStepsModel", "layAbove", "([J[III)V"⟩, 55) := ⟨⟨by decide +kernel, by decide +kernel⟩, List.mem_of_getElem? (i := 1297) (by decide +kernel), List.mem_of_getElem? (i := 1706) (by decide +kernel), List.mem_of_getElem? (i := 1707) (by decide +kernel)⟩
theorem lw_p98 : lw_okq (⟨"CallStepsModel", "isEnd", "(I)Z"⟩, 55) := ⟨⟨by decide +kernel, by decide +kernel⟩, List.mem_of_getElem? (i := 1297) (by decide +kernel), List.mem_of_getElem? (i := 1710) (by decide +kernel), List.mem_of_getElem? (i := 1711) (by decide +kernel)⟩
theorem lw_p99 : lw_okq (⟨"CallStepsModel", "aboveBy", "([JIII)J"⟩, 55) := ⟨⟨by decide +kernel, by decide +kernel⟩, List.mem_of_getElem? (i := 1297) (by decide +kernel), List.mem_of_getElem? (i := 1714) (by decide +kernel), List.mem_of_getElem? (i := 1715) (by decide +kernel)⟩
theorem lw_p100 : lw_okq (⟨"CallStepsModel", "isWay", "(J)Z"⟩, 55) := ⟨⟨by decide +kernel, by decide +kernel⟩, List.mem_of_getElem? (i := 1297) (by decide +kernel), List.mem_of_getElem? (i := 1723) (by decide +kernel), List.mem_of_getElem? (i := 1724) (by decide +kernel)⟩
theorem lw_p101 : lw_okq (⟨"CallStepsModel", "behindRule", "(II)J"⟩, 55) := ⟨⟨by decide +kernel, by decide +kernel⟩, List.mem_of_getElem? (i := 1297) (by decide +kernel), List.mem_of_getElem? (i := 1728) (by decide +kernel), List.mem_of_getElem? (i := 1729) (by decide +kernel)⟩
theorem lw_p102 : lw_okq (⟨"CallStepsModel", "isHead", "(II)Z"⟩, 55) := ⟨⟨by decide +kernel, by decide +kernel⟩, List.mem_of_getElem? (i := 1297) (by decide +kernel), List.mem_of_getElem? (i := 1736) (by decide +kernel), List.mem_of_getElem? (i := 1737) (by decide +kernel)⟩
theorem lw_p103 : lw_okq (⟨"CallStepsModel", "isState", "(I)Z"⟩, 55) := ⟨⟨by decide +kernel, by decide +kernel⟩, List.mem_of_getElem? (i := 1297) (by decide +kernel), List.mem_of_getElem? (i := 1740) (by decide +kernel), List.mem_of_getElem? (i := 1741) (by decide +kernel)⟩
theorem lw_p104 : lw_okq (⟨"CallStepsModel", "states", "()I"⟩, 55) := ⟨⟨by decide +kernel, by decide +kernel⟩, List.mem_of_getElem? (i := 1297) (by decide +kernel), List.mem_of_getElem? (i := 1744) (by decide +kernel), List.mem_of_getElem? (i := 1745) (by decide +kernel)⟩
theorem lw_p105 : lw_okq (⟨"CallStepsModel", "isSign", "(I)Z"⟩, 55) := ⟨⟨by decide +kernel, by decide +kernel⟩, List.mem_of_getElem? (i := 1297) (by decide +kernel), List.mem_of_getElem? (i := 1748) (by decide +kernel), List.mem_of_getElem? (i := 1749) (by decide +kernel)⟩
theorem lw_p106 : lw_okq (⟨"CallStepsModel", "comesTo", "(II)J"⟩, 55) := ⟨⟨by decide +kernel, by decide +kernel⟩, List.mem_of_getElem? (i := 1297) (by decide +kernel), List.mem_of_getElem? (i := 1761) (by decide +kernel), List.mem_of_getElem? (i := 1762) (by decide +kernel)⟩
theorem lw_p107 : lw_okq (⟨"CallStepsModel", "targetIs", "(II)V"⟩, 55) := ⟨⟨by decide +kernel, by decide +kernel⟩, List.mem_of_getElem? (i := 1297) (by decide +kernel), List.mem_of_getElem? (i := 1765) (by decide +kernel), List.mem_of_getElem? (i := 1766) (by decide +kernel)⟩
theorem lw_p108 : lw_okq (⟨"CallStepsModel", "layRise", "()V"⟩, 55) := ⟨⟨by decide +kernel, by decide +kernel⟩, List.mem_of_getElem? (i := 1297) (by decide +kernel), List.mem_of_getElem? (i := 1777) (by decide +kernel), List.mem_of_getElem? (i := 1778) (by decide +kernel)⟩
theorem lw_p109 : lw_okq (⟨"CallStepsModel", "head", "(II)I"⟩, 55) := ⟨⟨by decide +kernel, by decide +kernel⟩, List.mem_of_getElem? (i := 1297) (by decide +kernel), List.mem_of_getElem? (i := 1781) (by decide +kernel), List.mem_of_getElem? (i := 1782) (by decide +kernel)⟩
theorem lw_p110 : lw_okq (⟨"CallStepsModel", "riseBy", "(I)I"⟩, 55) := ⟨⟨by decide +kernel, by decide +kernel⟩, List.mem_of_getElem? (i := 1297) (by decide +kernel), List.mem_of_getElem? (i := 1785) (by decide +kernel), List.mem_of_getElem? (i := 1786) (by decide +kernel)⟩
theorem lw_p111 : lw_okq (⟨"CallStepsModel", "canPop", "(III)Z"⟩, 55) := ⟨⟨by decide +kernel, by decide +kernel⟩, List.mem_of_getElem? (i := 1297) (by decide +kernel), List.mem_of_getElem? (i := 1789) (by decide +kernel), List.mem_of_getElem? (i := 1790) (by decide +kernel)⟩
def lw_privs_7 : List (MethodName × Nat) := [(⟨"CallStepsModel", "costNow", "([J)J"⟩, 55), (⟨"CallStepsModel", "layAbove", "([J[III)V"⟩, 55), (⟨"CallStepsModel", "isEnd", "(I)Z"⟩, 55), (⟨"CallStepsModel", "aboveBy", "([JIII)J"⟩, 55), (⟨"CallStepsModel", "isWay", "(J)Z"⟩, 55), (⟨"CallStepsModel", "behindRule", "(II)J"⟩, 55), (⟨"CallStepsModel", "isHead", "(II)Z"⟩, 55), (⟨"CallStepsModel", "isState", "(I)Z"⟩, 55), (⟨"CallStepsModel", "states", "()I"⟩, 55), (⟨"CallStepsModel", "isSign", "(I)Z"⟩, 55), (⟨"CallStepsModel", "comesTo", "(II)J"⟩, 55), (⟨"CallStepsModel", "targetIs", "(II)V"⟩, 55), (⟨"CallStepsModel", "layRise", "()V"⟩, 55), (⟨"CallStepsModel", "head", "(II)I"⟩, 55), (⟨"CallStepsModel", "riseBy", "(I)I"⟩, 55), (⟨"CallStepsModel", "canPop", "(III)Z"⟩, 55)]
theorem lw_r7 : ∀ q ∈ lw_privs_7, lw_okq q := List.forall_mem_cons.mpr ⟨lw_p96, List.forall_mem_cons.mpr ⟨lw_p97, List.forall_mem_cons.mpr ⟨lw_p98, List.forall_mem_cons.mpr ⟨lw_p99, List.forall_mem_cons.mpr ⟨lw_p100, List.forall_mem_cons.mpr ⟨lw_p101, List.forall_mem_cons.mpr ⟨lw_p102, List.forall_mem_cons.mpr ⟨lw_p103, List.forall_mem_cons.mpr ⟨lw_p104, List.forall_mem_cons.mpr ⟨lw_p105, List.forall_mem_cons.mpr ⟨lw_p106, List.forall_mem_cons.mpr ⟨lw_p107, List.forall_mem_cons.mpr ⟨lw_p108, List.forall_mem_cons.mpr ⟨lw_p109, List.forall_mem_cons.mpr ⟨lw_p110, List.forall_mem_cons.mpr ⟨lw_p111, fun _ h => absurd h List.not_mem_nil⟩⟩⟩⟩⟩⟩⟩⟩⟩⟩⟩⟩⟩⟩⟩⟩
theorem lw_p112 : lw_okq (⟨"CallStepsModel", "layComesUp", "()V"⟩, 55) := ⟨⟨by decide +kernel, by decide +kernel⟩, List.mem_of_getElem? (i := 1297) (by decide +kernel), List.mem_of_getElem? (i := 1800) (by decide +kernel), List.mem_of_getElem? (i := 1801) (by decide +kernel)⟩
theorem lw_p113 : lw_okq (⟨"CallStepsModel", "layBehind", "()V"⟩, 55) := ⟨⟨by decide +kernel, by decide +kernel⟩, List.mem_of_getElem? (i := 1297) (by decide +kernel), List.mem_of_getElem? (i := 1808) (by decide +kernel), List.mem_of_getElem? (i := 1809) (by decide +kernel)⟩
theorem lw_p114 : lw_okq (⟨"CallStepsModel", "goesOnAt", "(II)Z"⟩, 55) := ⟨⟨by decide +kernel, by decide +kernel⟩, List.mem_of_getElem? (i := 1297) (by decide +kernel), List.mem_of_getElem? (i := 1812) (by decide +kernel), List.mem_of_getElem? (i := 1813) (by decide +kernel)⟩
theorem lw_p115 : lw_okq (⟨"CallStepsModel", "isEndless", "()Z"⟩, 55) := ⟨⟨by decide +kernel, by decide +kernel⟩, List.mem_of_getElem? (i := 1297) (by decide +kernel), List.mem_of_getElem? (i := 1820) (by decide +kernel), List.mem_of_getElem? (i := 1821) (by decide +kernel)⟩
theorem lw_p116 : lw_okq (⟨"CallStepsModel", "layMost", "()V"⟩, 55) := ⟨⟨by decide +kernel, by decide +kernel⟩, List.mem_of_getElem? (i := 1297) (by decide +kernel), List.mem_of_getElem? (i := 1828) (by decide +kernel), List.mem_of_getElem? (i := 1829) (by decide +kernel)⟩
theorem lw_p117 : lw_okq (⟨"CallStepsModel", "mostBy", "(I)V"⟩, 55) := ⟨⟨by decide +kernel, by decide +kernel⟩, List.mem_of_getElem? (i := 1297) (by decide +kernel), List.mem_of_getElem? (i := 1832) (by decide +kernel), List.mem_of_getElem? (i := 1833) (by decide +kernel)⟩
theorem lw_p118 : lw_okq (⟨"CallStepsModel", "popCell", "(III)I"⟩, 55) := ⟨⟨by decide +kernel, by decide +kernel⟩, List.mem_of_getElem? (i := 1297) (by decide +kernel), List.mem_of_getElem? (i := 1836) (by decide +kernel), List.mem_of_getElem? (i := 1837) (by decide +kernel)⟩
theorem lw_p119 : lw_okq (⟨"CallStepsModel", "layMachine", "(I)V"⟩, 55) := ⟨⟨by decide +kernel, by decide +kernel⟩, List.mem_of_getElem? (i := 1297) (by decide +kernel), List.mem_of_getElem? (i := 1847) (by decide +kernel), List.mem_of_getElem? (i := 1848) (by decide +kernel)⟩
theorem lw_p120 : lw_okq (⟨"CallStepsModel", "layMachines", "()V"⟩, 55) := ⟨⟨by decide +kernel, by decide +kernel⟩, List.mem_of_getElem? (i := 1297) (by decide +kernel), List.mem_of_getElem? (i := 1851) (by decide +kernel), List.mem_of_getElem? (i := 1852) (by decide +kernel)⟩
theorem lw_p121 : lw_okq (⟨"CallStepsModel", "setFor", "(I)I"⟩, 55) := ⟨⟨by decide +kernel, by decide +kernel⟩, List.mem_of_getElem? (i := 1297) (by decide +kernel), List.mem_of_getElem? (i := 1855) (by decide +kernel), List.mem_of_getElem? (i := 1856) (by decide +kernel)⟩
theorem lw_p122 : lw_okq (⟨"CallStepsModel", "setBehind", "(II)I"⟩, 55) := ⟨⟨by decide +kernel, by decide +kernel⟩, List.mem_of_getElem? (i := 1297) (by decide +kernel), List.mem_of_getElem? (i := 1859) (by decide +kernel), List.mem_of_getElem? (i := 1860) (by decide +kernel)⟩
theorem lw_p123 : lw_okq (⟨"CallStepsModel", "isGoodSet", "(I)Z"⟩, 55) := ⟨⟨by decide +kernel, by decide +kernel⟩, List.mem_of_getElem? (i := 1297) (by decide +kernel), List.mem_of_getElem? (i := 1863) (by decide +kernel), List.mem_of_getElem? (i := 1864) (by decide +kernel)⟩
theorem lw_p124 : lw_okq (⟨"CallStepsModel", "laysParts", "()V"⟩, 55) := ⟨⟨by decide +kernel, by decide +kernel⟩, List.mem_of_getElem? (i := 1297) (by decide +kernel), List.mem_of_getElem? (i := 1867) (by decide +kernel), List.mem_of_getElem? (i := 1868) (by decide +kernel)⟩
theorem lw_p125 : lw_okq (⟨"CallStepsModel", "areAlike", "(II)Z"⟩, 55) := ⟨⟨by decide +kernel, by decide +kernel⟩, List.mem_of_getElem? (i := 1297) (by decide +kernel), List.mem_of_getElem? (i := 1871) (by decide +kernel), List.mem_of_getElem? (i := 1872) (by decide +kernel)⟩
theorem lw_p126 : lw_okq (⟨"CallStepsModel", "nodeFor", "(I)I"⟩, 55) := ⟨⟨by decide +kernel, by decide +kernel⟩, List.mem_of_getElem? (i := 1297) (by decide +kernel), List.mem_of_getElem? (i := 1875) (by decide +kernel), List.mem_of_getElem? (i := 1876) (by decide +kernel)⟩
theorem lw_p127 : lw_okq (⟨"CallStepsModel", "layFar", "()V"⟩, 55) := ⟨⟨by decide +kernel, by decide +kernel⟩, List.mem_of_getElem? (i := 1297) (by decide +kernel), List.mem_of_getElem? (i := 1895) (by decide +kernel), List.mem_of_getElem? (i := 1896) (by decide +kernel)⟩
def lw_privs_8 : List (MethodName × Nat) := [(⟨"CallStepsModel", "layComesUp", "()V"⟩, 55), (⟨"CallStepsModel", "layBehind", "()V"⟩, 55), (⟨"CallStepsModel", "goesOnAt", "(II)Z"⟩, 55), (⟨"CallStepsModel", "isEndless", "()Z"⟩, 55), (⟨"CallStepsModel", "layMost", "()V"⟩, 55), (⟨"CallStepsModel", "mostBy", "(I)V"⟩, 55), (⟨"CallStepsModel", "popCell", "(III)I"⟩, 55), (⟨"CallStepsModel", "layMachine", "(I)V"⟩, 55), (⟨"CallStepsModel", "layMachines", "()V"⟩, 55), (⟨"CallStepsModel", "setFor", "(I)I"⟩, 55), (⟨"CallStepsModel", "setBehind", "(II)I"⟩, 55), (⟨"CallStepsModel", "isGoodSet", "(I)Z"⟩, 55), (⟨"CallStepsModel", "laysParts", "()V"⟩, 55), (⟨"CallStepsModel", "areAlike", "(II)Z"⟩, 55), (⟨"CallStepsModel", "nodeFor", "(I)I"⟩, 55), (⟨"CallStepsModel", "layFar", "()V"⟩, 55)]
theorem lw_r8 : ∀ q ∈ lw_privs_8, lw_okq q := List.forall_mem_cons.mpr ⟨lw_p112, List.forall_mem_cons.mpr ⟨lw_p113, List.forall_mem_cons.mpr ⟨lw_p114, List.forall_mem_cons.mpr ⟨lw_p115, List.forall_mem_cons.mpr ⟨lw_p116, List.forall_mem_cons.mpr ⟨lw_p117, List.forall_mem_cons.mpr ⟨lw_p118, List.forall_mem_cons.mpr ⟨lw_p119, List.forall_mem_cons.mpr ⟨lw_p120, List.forall_mem_cons.mpr ⟨lw_p121, List.forall_mem_cons.mpr ⟨lw_p122, List.forall_mem_cons.mpr ⟨lw_p123, List.forall_mem_cons.mpr ⟨lw_p124, List.forall_mem_cons.mpr ⟨lw_p125, List.forall_mem_cons.mpr ⟨lw_p126, List.forall_mem_cons.mpr ⟨lw_p127, fun _ h => absurd h List.not_mem_nil⟩⟩⟩⟩⟩⟩⟩⟩⟩⟩⟩⟩⟩⟩⟩⟩
def lw_privs : List (MethodName × Nat) := lw_privs_1 ++ (lw_privs_2 ++ (lw_privs_3 ++ (lw_privs_4 ++ (lw_privs_5 ++ (lw_privs_6 ++ (lw_privs_7 ++ (lw_privs_8)))))))
def lw_tbl : List Cond := k2_sels lw_privs ++ tables_1
theorem lw_privs_ok : ∀ q ∈ lw_privs, lw_okq q := by
  show ∀ q ∈ lw_privs_1 ++ (lw_privs_2 ++ (lw_privs_3 ++ (lw_privs_4 ++ (lw_privs_5 ++ (lw_privs_6 ++ (lw_privs_7 ++ (lw_privs_8))))))), lw_okq q
  exact List.forall_mem_append.mpr ⟨lw_r1, List.forall_mem_append.mpr ⟨lw_r2, List.forall_mem_append.mpr ⟨lw_r3, List.forall_mem_append.mpr ⟨lw_r4, List.forall_mem_append.mpr ⟨lw_r5, List.forall_mem_append.mpr ⟨lw_r6, List.forall_mem_append.mpr ⟨lw_r7, lw_r8⟩⟩⟩⟩⟩⟩⟩
-- ===== end of PART A; then your names; then what follows =====
def RX0 : String := "CallSteps$Acts"
def TX0 : u_T := fun k => match k with
  | 0 => ("CallSteps$Acts", "cells", "LCallSteps$Ints;", true)
  | 1 => ("CallSteps$Acts", "oldest", "I", false)
  | _ => ("CallSteps$Acts", "count", "I", false)
def tyX0 : Nat → FieldType := fun k => match k with
  | 0 => .object "CallSteps$Ints"
  | 1 => .int
  | _ => .int
theorem nmX0 : ∀ a, a < 3 → ∀ b, b < 3 → a ≠ b → (TX0 a).2.1 ≠ (TX0 b).2.1 := by decide +kernel
theorem tyX0_ok : ∀ k, k < 3 → parseFieldDescriptor (TX0 k).2.2.1 = some (tyX0 k) := by decide +kernel
def RX1 : String := "CallSteps$Costs"
def TX1 : u_T := fun k => match k with
  | 0 => ("CallSteps$Costs", "edges", "LCallSteps$Longs;", true)
  | _ => ("CallSteps$Costs", "rows", "LCallSteps$Longs;", true)
def tyX1 : Nat → FieldType := fun k => match k with
  | 0 => .object "CallSteps$Longs"
  | _ => .object "CallSteps$Longs"
theorem nmX1 : ∀ a, a < 2 → ∀ b, b < 2 → a ≠ b → (TX1 a).2.1 ≠ (TX1 b).2.1 := by decide +kernel
theorem tyX1_ok : ∀ k, k < 2 → parseFieldDescriptor (TX1 k).2.2.1 = some (tyX1 k) := by decide +kernel
def RX2 : String := "CallSteps$Heads"
def TX2 : u_T := fun k => match k with
  | 0 => ("CallSteps$Heads", "rises", "LCallSteps$Ints;", true)
  | 1 => ("CallSteps$Heads", "lasting", "LCallSteps$Ints;", true)
  | 2 => ("CallSteps$Heads", "mostSteps", "LCallSteps$Longs;", true)
  | 3 => ("CallSteps$Heads", "mostToPop", "LCallSteps$Longs;", true)
  | 4 => ("CallSteps$Heads", "stepsTo", "LCallSteps$Longs;", true)
  | 5 => ("CallSteps$Heads", "stepsToNext", "LCallSteps$Longs;", true)
  | 6 => ("CallSteps$Heads", "pops", "LCallSteps$Costs;", true)
  | 7 => ("CallSteps$Heads", "program", "LCallSteps$Program;", false)
  | _ => ("CallSteps$Heads", "outBits", "I", false)
def tyX2 : Nat → FieldType := fun k => match k with
  | 0 => .object "CallSteps$Ints"
  | 1 => .object "CallSteps$Ints"
  | 2 => .object "CallSteps$Longs"
  | 3 => .object "CallSteps$Longs"
  | 4 => .object "CallSteps$Longs"
  | 5 => .object "CallSteps$Longs"
  | 6 => .object "CallSteps$Costs"
  | 7 => .object "CallSteps$Program"
  | _ => .int
theorem nmX2 : ∀ a, a < 9 → ∀ b, b < 9 → a ≠ b → (TX2 a).2.1 ≠ (TX2 b).2.1 := by decide +kernel
theorem tyX2_ok : ∀ k, k < 9 → parseFieldDescriptor (TX2 k).2.2.1 = some (tyX2 k) := by decide +kernel
def RX3 : String := "CallSteps$Ints"
def TX3 : u_T := fun k => match k with
  | _ => ("CallSteps$Ints", "cells", "[I", false)
def tyX3 : Nat → FieldType := fun k => match k with
  | _ => .array .int
theorem nmX3 : ∀ a, a < 1 → ∀ b, b < 1 → a ≠ b → (TX3 a).2.1 ≠ (TX3 b).2.1 := by decide +kernel
theorem tyX3_ok : ∀ k, k < 1 → parseFieldDescriptor (TX3 k).2.2.1 = some (tyX3 k) := by decide +kernel
def RX4 : String := "CallSteps$Longs"
def TX4 : u_T := fun k => match k with
  | _ => ("CallSteps$Longs", "cells", "[J", false)
def tyX4 : Nat → FieldType := fun k => match k with
  | _ => .array .long
theorem nmX4 : ∀ a, a < 1 → ∀ b, b < 1 → a ≠ b → (TX4 a).2.1 ≠ (TX4 b).2.1 := by decide +kernel
theorem tyX4_ok : ∀ k, k < 1 → parseFieldDescriptor (TX4 k).2.2.1 = some (tyX4 k) := by decide +kernel
def RX5 : String := "CallSteps$Machines"
def TX5 : u_T := fun k => match k with
  | 0 => ("CallSteps$Machines", "moves", "LCallSteps$Ints;", true)
  | 1 => ("CallSteps$Machines", "buckets", "LCallSteps$Ints;", true)
  | 2 => ("CallSteps$Machines", "sets", "LCallSteps$Ints;", true)
  | 3 => ("CallSteps$Machines", "chain", "LCallSteps$Ints;", true)
  | 4 => ("CallSteps$Machines", "table", "LCallSteps$Ints;", true)
  | 5 => ("CallSteps$Machines", "kinds", "LCallSteps$Ints;", false)
  | 6 => ("CallSteps$Machines", "finerKinds", "LCallSteps$Ints;", false)
  | 7 => ("CallSteps$Machines", "numbers", "LCallSteps$Ints;", true)
  | 8 => ("CallSteps$Machines", "order", "LCallSteps$Ints;", true)
  | 9 => ("CallSteps$Machines", "parents", "LCallSteps$Ints;", true)
  | 10 => ("CallSteps$Machines", "words", "LCallSteps$Longs;", true)
  | 11 => ("CallSteps$Machines", "longerWords", "LCallSteps$Longs;", true)
  | 12 => ("CallSteps$Machines", "room", "I", false)
  | 13 => ("CallSteps$Machines", "goodNodes", "I", false)
  | 14 => ("CallSteps$Machines", "signs", "I", false)
  | 15 => ("CallSteps$Machines", "count", "I", false)
  | 16 => ("CallSteps$Machines", "numbered", "I", false)
  | _ => ("CallSteps$Machines", "nodes", "I", false)
def tyX5 : Nat → FieldType := fun k => match k with
  | 0 => .object "CallSteps$Ints"
  | 1 => .object "CallSteps$Ints"
  | 2 => .object "CallSteps$Ints"
  | 3 => .object "CallSteps$Ints"
  | 4 => .object "CallSteps$Ints"
  | 5 => .object "CallSteps$Ints"
  | 6 => .object "CallSteps$Ints"
  | 7 => .object "CallSteps$Ints"
  | 8 => .object "CallSteps$Ints"
  | 9 => .object "CallSteps$Ints"
  | 10 => .object "CallSteps$Longs"
  | 11 => .object "CallSteps$Longs"
  | 12 => .int
  | 13 => .int
  | 14 => .int
  | 15 => .int
  | 16 => .int
  | _ => .int
theorem nmX5 : ∀ a, a < 18 → ∀ b, b < 18 → a ≠ b → (TX5 a).2.1 ≠ (TX5 b).2.1 := by decide +kernel
theorem tyX5_ok : ∀ k, k < 18 → parseFieldDescriptor (TX5 k).2.2.1 = some (tyX5 k) := by decide +kernel
def RX6 : String := "CallSteps$Place"
def TX6 : u_T := fun k => match k with
  | 0 => ("CallSteps$Place", "room", "I", true)
  | 1 => ("CallSteps$Place", "signs", "LCallSteps$Ints;", true)
  | 2 => ("CallSteps$Place", "state", "I", false)
  | _ => ("CallSteps$Place", "height", "I", false)
def tyX6 : Nat → FieldType := fun k => match k with
  | 0 => .int
  | 1 => .object "CallSteps$Ints"
  | 2 => .int
  | _ => .int
theorem nmX6 : ∀ a, a < 4 → ∀ b, b < 4 → a ≠ b → (TX6 a).2.1 ≠ (TX6 b).2.1 := by decide +kernel
theorem tyX6_ok : ∀ k, k < 4 → parseFieldDescriptor (TX6 k).2.2.1 = some (tyX6 k) := by decide +kernel
def RX7 : String := "CallSteps$Program"
def TX7 : u_T := fun k => match k with
  | 0 => ("CallSteps$Program", "stateNames", "LCallSteps$Longs;", true)
  | 1 => ("CallSteps$Program", "signNames", "LCallSteps$Longs;", true)
  | 2 => ("CallSteps$Program", "ruleCells", "LCallSteps$Ints;", true)
  | 3 => ("CallSteps$Program", "goalCells", "LCallSteps$Ints;", true)
  | 4 => ("CallSteps$Program", "states", "I", false)
  | 5 => ("CallSteps$Program", "signs", "I", false)
  | 6 => ("CallSteps$Program", "rules", "I", false)
  | _ => ("CallSteps$Program", "goals", "I", false)
def tyX7 : Nat → FieldType := fun k => match k with
  | 0 => .object "CallSteps$Longs"
  | 1 => .object "CallSteps$Longs"
  | 2 => .object "CallSteps$Ints"
  | 3 => .object "CallSteps$Ints"
  | 4 => .int
  | 5 => .int
  | 6 => .int
  | _ => .int
theorem nmX7 : ∀ a, a < 8 → ∀ b, b < 8 → a ≠ b → (TX7 a).2.1 ≠ (TX7 b).2.1 := by decide +kernel
theorem tyX7_ok : ∀ k, k < 8 → parseFieldDescriptor (TX7 k).2.2.1 = some (tyX7 k) := by decide +kernel
def RX8 : String := "CallSteps$Reader"
def TX8 : u_T := fun k => match k with
  | 0 => ("CallSteps$Reader", "tape", "LCallSteps$Tape;", true)
  | 1 => ("CallSteps$Reader", "program", "LCallSteps$Program;", false)
  | 2 => ("CallSteps$Reader", "fault", "I", false)
  | _ => ("CallSteps$Reader", "faultPlace", "I", false)
def tyX8 : Nat → FieldType := fun k => match k with
  | 0 => .object "CallSteps$Tape"
  | 1 => .object "CallSteps$Program"
  | 2 => .int
  | _ => .int
theorem nmX8 : ∀ a, a < 4 → ∀ b, b < 4 → a ≠ b → (TX8 a).2.1 ≠ (TX8 b).2.1 := by decide +kernel
theorem tyX8_ok : ∀ k, k < 4 → parseFieldDescriptor (TX8 k).2.2.1 = some (tyX8 k) := by decide +kernel
def RX9 : String := "CallSteps$Tape"
def TX9 : u_T := fun k => match k with
  | 0 => ("CallSteps$Tape", "bytes", "[I", true)
  | 1 => ("CallSteps$Tape", "behind", "I", false)
  | 2 => ("CallSteps$Tape", "length", "I", false)
  | 3 => ("CallSteps$Tape", "kind", "I", false)
  | 4 => ("CallSteps$Tape", "place", "I", false)
  | 5 => ("CallSteps$Tape", "letters", "J", false)
  | _ => ("CallSteps$Tape", "number", "I", false)
def tyX9 : Nat → FieldType := fun k => match k with
  | 0 => .array .int
  | 1 => .int
  | 2 => .int
  | 3 => .int
  | 4 => .int
  | 5 => .long
  | _ => .int
theorem nmX9 : ∀ a, a < 7 → ∀ b, b < 7 → a ≠ b → (TX9 a).2.1 ≠ (TX9 b).2.1 := by decide +kernel
theorem tyX9_ok : ∀ k, k < 7 → parseFieldDescriptor (TX9 k).2.2.1 = some (tyX9 k) := by decide +kernel
def RX10 : String := "CallSteps$Walk"
def TX10 : u_T := fun k => match k with
  | 0 => ("CallSteps$Walk", "place", "LCallSteps$Place;", true)
  | 1 => ("CallSteps$Walk", "trail", "LCallSteps$Ints;", true)
  | 2 => ("CallSteps$Walk", "steps", "I", false)
  | _ => ("CallSteps$Walk", "isTooLong", "Z", false)
def tyX10 : Nat → FieldType := fun k => match k with
  | 0 => .object "CallSteps$Place"
  | 1 => .object "CallSteps$Ints"
  | 2 => .int
  | _ => .boolean
theorem nmX10 : ∀ a, a < 4 → ∀ b, b < 4 → a ≠ b → (TX10 a).2.1 ≠ (TX10 b).2.1 := by decide +kernel
theorem tyX10_ok : ∀ k, k < 4 → parseFieldDescriptor (TX10 k).2.2.1 = some (tyX10 k) := by decide +kernel
def RX11 : String := "CallSteps"
def TX11 : u_T := fun k => match k with
  | 0 => ("CallSteps", "tape", "LCallSteps$Tape;", true)
  | 1 => ("CallSteps", "reader", "LCallSteps$Reader;", true)
  | 2 => ("CallSteps", "here", "LCallSteps$Place;", true)
  | 3 => ("CallSteps", "readPlace", "LCallSteps$Place;", true)
  | 4 => ("CallSteps", "acts", "LCallSteps$Acts;", true)
  | 5 => ("CallSteps", "goalCosts", "LCallSteps$Costs;", true)
  | 6 => ("CallSteps", "otherCosts", "LCallSteps$Costs;", true)
  | 7 => ("CallSteps", "walk", "LCallSteps$Walk;", true)
  | 8 => ("CallSteps", "heads", "LCallSteps$Heads;", true)
  | 9 => ("CallSteps", "machines", "LCallSteps$Machines;", true)
  | 10 => ("CallSteps", "program", "LCallSteps$Program;", false)
  | 11 => ("CallSteps", "readProgram", "LCallSteps$Program;", false)
  | 12 => ("CallSteps", "outBits", "I", false)
  | 13 => ("CallSteps", "costsStand", "Z", false)
  | _ => ("CallSteps", "machinesStand", "Z", false)
def tyX11 : Nat → FieldType := fun k => match k with
  | 0 => .object "CallSteps$Tape"
  | 1 => .object "CallSteps$Reader"
  | 2 => .object "CallSteps$Place"
  | 3 => .object "CallSteps$Place"
  | 4 => .object "CallSteps$Acts"
  | 5 => .object "CallSteps$Costs"
  | 6 => .object "CallSteps$Costs"
  | 7 => .object "CallSteps$Walk"
  | 8 => .object "CallSteps$Heads"
  | 9 => .object "CallSteps$Machines"
  | 10 => .object "CallSteps$Program"
  | 11 => .object "CallSteps$Program"
  | 12 => .int
  | 13 => .boolean
  | _ => .boolean
theorem nmX11 : ∀ a, a < 15 → ∀ b, b < 15 → a ≠ b → (TX11 a).2.1 ≠ (TX11 b).2.1 := by decide +kernel
theorem tyX11_ok : ∀ k, k < 15 → parseFieldDescriptor (TX11 k).2.2.1 = some (tyX11 k) := by decide +kernel
def RX12 : String := "CallStepsModel"
def TX12 : u_T := fun k => match k with
  | 0 => ("CallStepsModel", "thrown", "I", false)
  | 1 => ("CallStepsModel", "many", "[I", true)
  | 2 => ("CallStepsModel", "nameOf", "[I", true)
  | 3 => ("CallStepsModel", "rules", "[I", true)
  | 4 => ("CallStepsModel", "goals", "[I", true)
  | 5 => ("CallStepsModel", "outs", "I", false)
  | 6 => ("CallStepsModel", "tape", "[I", true)
  | 7 => ("CallStepsModel", "taped", "I", false)
  | 8 => ("CallStepsModel", "size", "I", false)
  | 9 => ("CallStepsModel", "at", "I", false)
  | 10 => ("CallStepsModel", "behind", "I", false)
  | 11 => ("CallStepsModel", "token", "I", false)
  | 12 => ("CallStepsModel", "value", "I", false)
  | 13 => ("CallStepsModel", "faultKind", "I", false)
  | 14 => ("CallStepsModel", "faultPlace", "I", false)
  | 15 => ("CallStepsModel", "wrong", "I", false)
  | 16 => ("CallStepsModel", "wrongAt", "I", false)
  | 17 => ("CallStepsModel", "stack", "[I", true)
  | 18 => ("CallStepsModel", "read", "[I", true)
  | 19 => ("CallStepsModel", "hasNow", "Z", false)
  | 20 => ("CallStepsModel", "state", "I", false)
  | 21 => ("CallStepsModel", "high", "I", false)
  | 22 => ("CallStepsModel", "kept", "[I", true)
  | 23 => ("CallStepsModel", "acts", "I", false)
  | 24 => ("CallStepsModel", "targetState", "[I", true)
  | 25 => ("CallStepsModel", "targetSize", "[I", true)
  | 26 => ("CallStepsModel", "targetMore", "[I", true)
  | 27 => ("CallStepsModel", "targetSign", "[I", true)
  | 28 => ("CallStepsModel", "costs", "[J", true)
  | 29 => ("CallStepsModel", "asked", "[J", true)
  | 30 => ("CallStepsModel", "targets", "I", false)
  | 31 => ("CallStepsModel", "toldAre", "Z", false)
  | 32 => ("CallStepsModel", "above", "[J", true)
  | 33 => ("CallStepsModel", "tall", "[I", true)
  | 34 => ("CallStepsModel", "wayRules", "[I", true)
  | 35 => ("CallStepsModel", "pair", "[I", true)
  | 36 => ("CallStepsModel", "ways", "I", false)
  | 37 => ("CallStepsModel", "rise", "[I", true)
  | 38 => ("CallStepsModel", "behindHead", "[Z", true)
  | 39 => ("CallStepsModel", "comesUp", "[Z", true)
  | 40 => ("CallStepsModel", "mostOf", "[J", true)
  | 41 => ("CallStepsModel", "mostTo", "[J", true)
  | 42 => ("CallStepsModel", "mostAt", "[J", true)
  | 43 => ("CallStepsModel", "sets", "[I", true)
  | 44 => ("CallStepsModel", "onSet", "[I", true)
  | 45 => ("CallStepsModel", "partOf", "[I", true)
  | 46 => ("CallStepsModel", "partThen", "[I", true)
  | 47 => ("CallStepsModel", "setMany", "I", false)
  | 48 => ("CallStepsModel", "parts", "I", false)
  | 49 => ("CallStepsModel", "machinesAre", "Z", false)
  | 50 => ("CallStepsModel", "nodeSet", "[I", true)
  | 51 => ("CallStepsModel", "nodeOfPart", "[I", true)
  | 52 => ("CallStepsModel", "nodeMany", "I", false)
  | 53 => ("CallStepsModel", "stacksTo", "[J", true)
  | _ => ("CallStepsModel", "farOf", "[I", true)
def tyX12 : Nat → FieldType := fun k => match k with
  | 0 => .int
  | 1 => .array .int
  | 2 => .array .int
  | 3 => .array .int
  | 4 => .array .int
  | 5 => .int
  | 6 => .array .int
  | 7 => .int
  | 8 => .int
  | 9 => .int
  | 10 => .int
  | 11 => .int
  | 12 => .int
  | 13 => .int
  | 14 => .int
  | 15 => .int
  | 16 => .int
  | 17 => .array .int
  | 18 => .array .int
  | 19 => .boolean
  | 20 => .int
  | 21 => .int
  | 22 => .array .int
  | 23 => .int
  | 24 => .array .int
  | 25 => .array .int
  | 26 => .array .int
  | 27 => .array .int
  | 28 => .array .long
  | 29 => .array .long
  | 30 => .int
  | 31 => .boolean
  | 32 => .array .long
  | 33 => .array .int
  | 34 => .array .int
  | 35 => .array .int
  | 36 => .int
  | 37 => .array .int
  | 38 => .array .boolean
  | 39 => .array .boolean
  | 40 => .array .long
  | 41 => .array .long
  | 42 => .array .long
  | 43 => .array .int
  | 44 => .array .int
  | 45 => .array .int
  | 46 => .array .int
  | 47 => .int
  | 48 => .int
  | 49 => .boolean
  | 50 => .array .int
  | 51 => .array .int
  | 52 => .int
  | 53 => .array .long
  | _ => .array .int
theorem nmX12 : ∀ a, a < 55 → ∀ b, b < 55 → a ≠ b → (TX12 a).2.1 ≠ (TX12 b).2.1 := by decide +kernel
theorem tyX12_ok : ∀ k, k < 55 → parseFieldDescriptor (TX12 k).2.2.1 = some (tyX12 k) := by decide +kernel
abbrev vwCl : List vw_C := [(RX0, TX0, 3), (RX1, TX1, 2), (RX2, TX2, 9), (RX3, TX3, 1), (RX4, TX4, 1), (RX5, TX5, 18), (RX6, TX6, 4), (RX7, TX7, 8), (RX8, TX8, 4), (RX9, TX9, 7), (RX10, TX10, 4), (RX11, TX11, 15), (RX12, TX12, 55)]
def tyC : Nat → Nat → Nat := fun c k => (([[2, 0, 0], [2, 2], [2, 2, 2, 2, 2, 2, 2, 2, 0], [2], [2], [2, 2, 2, 2, 2, 2, 2, 2, 2, 2, 2, 2, 0, 0, 0, 0, 0, 0], [0, 2, 0, 0], [2, 2, 2, 2, 0, 0, 0, 0], [2, 2, 0, 0], [2, 0, 0, 0, 0, 1, 0], [2, 2, 0, 0], [2, 2, 2, 2, 2, 2, 2, 2, 2, 2, 2, 2, 0, 0, 0], [0, 2, 2, 2, 2, 0, 2, 0, 0, 0, 0, 0, 0, 0, 0, 0, 0, 2, 2, 0, 0, 0, 2, 0, 2, 2, 2, 2, 2, 2, 0, 0, 2, 2, 2, 2, 0, 2, 2, 2, 2, 2, 2, 2, 2, 2, 2, 0, 0, 0, 2, 2, 0, 2, 2]] : List (List Nat)).getD c []).getD k 0
theorem inX0 : ∀ w ∈ u_ws RX0 TX0 3, w ∈ lw_tbl := by decide +kernel
theorem inX1 : ∀ w ∈ u_ws RX1 TX1 2, w ∈ lw_tbl := by decide +kernel
theorem inX2 : ∀ w ∈ u_ws RX2 TX2 9, w ∈ lw_tbl := by decide +kernel
theorem inX3 : ∀ w ∈ u_ws RX3 TX3 1, w ∈ lw_tbl := by decide +kernel
theorem inX4 : ∀ w ∈ u_ws RX4 TX4 1, w ∈ lw_tbl := by decide +kernel
theorem inX5 : ∀ w ∈ u_ws RX5 TX5 18, w ∈ lw_tbl := by decide +kernel
theorem inX6 : ∀ w ∈ u_ws RX6 TX6 4, w ∈ lw_tbl := by decide +kernel
theorem inX7 : ∀ w ∈ u_ws RX7 TX7 8, w ∈ lw_tbl := by decide +kernel
theorem inX8 : ∀ w ∈ u_ws RX8 TX8 4, w ∈ lw_tbl := by decide +kernel
theorem inX9 : ∀ w ∈ u_ws RX9 TX9 7, w ∈ lw_tbl := by decide +kernel
theorem inX10 : ∀ w ∈ u_ws RX10 TX10 4, w ∈ lw_tbl := by decide +kernel
theorem inX11 : ∀ w ∈ u_ws RX11 TX11 15, w ∈ lw_tbl := by decide +kernel
theorem inX12 : ∀ w ∈ u_ws RX12 TX12 55, w ∈ lw_tbl := by decide +kernel
