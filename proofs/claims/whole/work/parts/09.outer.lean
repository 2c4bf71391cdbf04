abbrev cXB_isUsed : ByteArray := prog_1_method_25_code
abbrev yXB_isUsed : MethodName := ⟨RXB, "isUsed", "(I)Z"⟩
abbrev wsXB_isUsed : List Cond := .code yXB_isUsed cXB_isUsed 2 (some .boolean) :: sbT
theorem dXB_isUsed_0 : decode cXB_isUsed 0 = .ok (.aload_n 0, 1) := by decide +kernel
theorem dXB_isUsed_1 : decode cXB_isUsed 1 = .ok (.getfield 32, 3) := by decide +kernel
theorem dXB_isUsed_4 : decode cXB_isUsed 4 = .ok (.iload_n 1, 1) := by decide +kernel
theorem dXB_isUsed_5 : decode cXB_isUsed 5 = .ok (.invokevirtual 190, 3) := by decide +kernel
theorem dXB_isUsed_8 : decode cXB_isUsed 8 = .ok (.ifCond .ne 17, 3) := by decide +kernel
theorem dXB_isUsed_11 : decode cXB_isUsed 11 = .ok (.aload_n 0, 1) := by decide +kernel
theorem dXB_isUsed_12 : decode cXB_isUsed 12 = .ok (.getfield 39, 3) := by decide +kernel
theorem dXB_isUsed_15 : decode cXB_isUsed 15 = .ok (.invokevirtual 152, 3) := by decide +kernel
theorem dXB_isUsed_18 : decode cXB_isUsed 18 = .ok (.iload_n 1, 1) := by decide +kernel
theorem dXB_isUsed_19 : decode cXB_isUsed 19 = .ok (.invokevirtual 190, 3) := by decide +kernel
theorem dXB_isUsed_22 : decode cXB_isUsed 22 = .ok (.ifCond .eq 7, 3) := by decide +kernel
theorem dXB_isUsed_25 : decode cXB_isUsed 25 = .ok (.iconst 1, 1) := by decide +kernel
theorem dXB_isUsed_26 : decode cXB_isUsed 26 = .ok (.goto 4, 3) := by decide +kernel
theorem dXB_isUsed_29 : decode cXB_isUsed 29 = .ok (.iconst 0, 1) := by decide +kernel
theorem dXB_isUsed_30 : decode cXB_isUsed 30 = .ok (.ireturn, 1) := by decide +kernel
abbrev cXB_leastFree : ByteArray := prog_1_method_26_code
abbrev yXB_leastFree : MethodName := ⟨RXB, "leastFree", "()I"⟩
abbrev wsXB_leastFree : List Cond := .code yXB_leastFree cXB_leastFree 2 (some .int) :: sbT
theorem dXB_leastFree_0 : decode cXB_leastFree 0 = .ok (.iconst 0, 1) := by decide +kernel
theorem dXB_leastFree_1 : decode cXB_leastFree 1 = .ok (.istore_n 1, 1) := by decide +kernel
theorem dXB_leastFree_2 : decode cXB_leastFree 2 = .ok (.iload_n 1, 1) := by decide +kernel
theorem dXB_leastFree_3 : decode cXB_leastFree 3 = .ok (.bipush 40, 2) := by decide +kernel
theorem dXB_leastFree_5 : decode cXB_leastFree 5 = .ok (.if_icmp .ge 19, 3) := by decide +kernel
theorem dXB_leastFree_8 : decode cXB_leastFree 8 = .ok (.aload_n 0, 1) := by decide +kernel
theorem dXB_leastFree_9 : decode cXB_leastFree 9 = .ok (.iload_n 1, 1) := by decide +kernel
theorem dXB_leastFree_10 : decode cXB_leastFree 10 = .ok (.invokevirtual 194, 3) := by decide +kernel
theorem dXB_leastFree_13 : decode cXB_leastFree 13 = .ok (.ifCond .ne 5, 3) := by decide +kernel
theorem dXB_leastFree_16 : decode cXB_leastFree 16 = .ok (.iload_n 1, 1) := by decide +kernel
theorem dXB_leastFree_17 : decode cXB_leastFree 17 = .ok (.ireturn, 1) := by decide +kernel
theorem dXB_leastFree_18 : decode cXB_leastFree 18 = .ok (.iinc 1 1, 3) := by decide +kernel
theorem dXB_leastFree_21 : decode cXB_leastFree 21 = .ok (.goto (-19), 3) := by decide +kernel
theorem dXB_leastFree_24 : decode cXB_leastFree 24 = .ok (.iconst (-1), 1) := by decide +kernel
theorem dXB_leastFree_25 : decode cXB_leastFree 25 = .ok (.ireturn, 1) := by decide +kernel
abbrev cXB_usedBlocks : ByteArray := prog_1_method_27_code
abbrev yXB_usedBlocks : MethodName := ⟨RXB, "usedBlocks", "()I"⟩
abbrev wsXB_usedBlocks : List Cond := .code yXB_usedBlocks cXB_usedBlocks 3 (some .int) :: sbT
theorem dXB_usedBlocks_0 : decode cXB_usedBlocks 0 = .ok (.iconst 0, 1) := by decide +kernel
theorem dXB_usedBlocks_1 : decode cXB_usedBlocks 1 = .ok (.istore_n 1, 1) := by decide +kernel
theorem dXB_usedBlocks_2 : decode cXB_usedBlocks 2 = .ok (.iconst 0, 1) := by decide +kernel
theorem dXB_usedBlocks_3 : decode cXB_usedBlocks 3 = .ok (.istore_n 2, 1) := by decide +kernel
theorem dXB_usedBlocks_4 : decode cXB_usedBlocks 4 = .ok (.iload_n 2, 1) := by decide +kernel
theorem dXB_usedBlocks_5 : decode cXB_usedBlocks 5 = .ok (.bipush 40, 2) := by decide +kernel
theorem dXB_usedBlocks_7 : decode cXB_usedBlocks 7 = .ok (.if_icmp .ge 20, 3) := by decide +kernel
theorem dXB_usedBlocks_10 : decode cXB_usedBlocks 10 = .ok (.aload_n 0, 1) := by decide +kernel
theorem dXB_usedBlocks_11 : decode cXB_usedBlocks 11 = .ok (.iload_n 2, 1) := by decide +kernel
theorem dXB_usedBlocks_12 : decode cXB_usedBlocks 12 = .ok (.invokevirtual 194, 3) := by decide +kernel
theorem dXB_usedBlocks_15 : decode cXB_usedBlocks 15 = .ok (.ifCond .eq 6, 3) := by decide +kernel
theorem dXB_usedBlocks_18 : decode cXB_usedBlocks 18 = .ok (.iinc 1 1, 3) := by decide +kernel
theorem dXB_usedBlocks_21 : decode cXB_usedBlocks 21 = .ok (.iinc 2 1, 3) := by decide +kernel
theorem dXB_usedBlocks_24 : decode cXB_usedBlocks 24 = .ok (.goto (-20), 3) := by decide +kernel
theorem dXB_usedBlocks_27 : decode cXB_usedBlocks 27 = .ok (.iload_n 1, 1) := by decide +kernel
theorem dXB_usedBlocks_28 : decode cXB_usedBlocks 28 = .ok (.ireturn, 1) := by decide +kernel
abbrev cXB_blocksOnlySaved : ByteArray := prog_1_method_28_code
abbrev yXB_blocksOnlySaved : MethodName := ⟨RXB, "blocksOnlySaved", "()I"⟩
abbrev wsXB_blocksOnlySaved : List Cond := .code yXB_blocksOnlySaved cXB_blocksOnlySaved 3 (some .int) :: sbT
theorem dXB_blocksOnlySaved_0 : decode cXB_blocksOnlySaved 0 = .ok (.iconst 0, 1) := by decide +kernel
theorem dXB_blocksOnlySaved_1 : decode cXB_blocksOnlySaved 1 = .ok (.istore_n 1, 1) := by decide +kernel
theorem dXB_blocksOnlySaved_2 : decode cXB_blocksOnlySaved 2 = .ok (.iconst 0, 1) := by decide +kernel
theorem dXB_blocksOnlySaved_3 : decode cXB_blocksOnlySaved 3 = .ok (.istore_n 2, 1) := by decide +kernel
theorem dXB_blocksOnlySaved_4 : decode cXB_blocksOnlySaved 4 = .ok (.iload_n 2, 1) := by decide +kernel
theorem dXB_blocksOnlySaved_5 : decode cXB_blocksOnlySaved 5 = .ok (.bipush 40, 2) := by decide +kernel
theorem dXB_blocksOnlySaved_7 : decode cXB_blocksOnlySaved 7 = .ok (.if_icmp .ge 37, 3) := by decide +kernel
theorem dXB_blocksOnlySaved_10 : decode cXB_blocksOnlySaved 10 = .ok (.aload_n 0, 1) := by decide +kernel
theorem dXB_blocksOnlySaved_11 : decode cXB_blocksOnlySaved 11 = .ok (.getfield 39, 3) := by decide +kernel
theorem dXB_blocksOnlySaved_14 : decode cXB_blocksOnlySaved 14 = .ok (.invokevirtual 152, 3) := by decide +kernel
theorem dXB_blocksOnlySaved_17 : decode cXB_blocksOnlySaved 17 = .ok (.iload_n 2, 1) := by decide +kernel
theorem dXB_blocksOnlySaved_18 : decode cXB_blocksOnlySaved 18 = .ok (.invokevirtual 190, 3) := by decide +kernel
theorem dXB_blocksOnlySaved_21 : decode cXB_blocksOnlySaved 21 = .ok (.ifCond .eq 17, 3) := by decide +kernel
theorem dXB_blocksOnlySaved_24 : decode cXB_blocksOnlySaved 24 = .ok (.aload_n 0, 1) := by decide +kernel
theorem dXB_blocksOnlySaved_25 : decode cXB_blocksOnlySaved 25 = .ok (.getfield 32, 3) := by decide +kernel
theorem dXB_blocksOnlySaved_28 : decode cXB_blocksOnlySaved 28 = .ok (.iload_n 2, 1) := by decide +kernel
theorem dXB_blocksOnlySaved_29 : decode cXB_blocksOnlySaved 29 = .ok (.invokevirtual 190, 3) := by decide +kernel
theorem dXB_blocksOnlySaved_32 : decode cXB_blocksOnlySaved 32 = .ok (.ifCond .ne 6, 3) := by decide +kernel
theorem dXB_blocksOnlySaved_35 : decode cXB_blocksOnlySaved 35 = .ok (.iinc 1 1, 3) := by decide +kernel
theorem dXB_blocksOnlySaved_38 : decode cXB_blocksOnlySaved 38 = .ok (.iinc 2 1, 3) := by decide +kernel
theorem dXB_blocksOnlySaved_41 : decode cXB_blocksOnlySaved 41 = .ok (.goto (-37), 3) := by decide +kernel
theorem dXB_blocksOnlySaved_44 : decode cXB_blocksOnlySaved 44 = .ok (.iload_n 1, 1) := by decide +kernel
theorem dXB_blocksOnlySaved_45 : decode cXB_blocksOnlySaved 45 = .ok (.ireturn, 1) := by decide +kernel
abbrev cXB_takeOutFree : ByteArray := prog_1_method_29_code
abbrev yXB_takeOutFree : MethodName := ⟨RXB, "takeOutFree", "()I"⟩
abbrev wsXB_takeOutFree : List Cond := .code yXB_takeOutFree cXB_takeOutFree 3 (some .int) :: sbT
theorem dXB_takeOutFree_0 : decode cXB_takeOutFree 0 = .ok (.iconst 0, 1) := by decide +kernel
theorem dXB_takeOutFree_1 : decode cXB_takeOutFree 1 = .ok (.istore_n 1, 1) := by decide +kernel
theorem dXB_takeOutFree_2 : decode cXB_takeOutFree 2 = .ok (.iconst 0, 1) := by decide +kernel
theorem dXB_takeOutFree_3 : decode cXB_takeOutFree 3 = .ok (.istore_n 2, 1) := by decide +kernel
theorem dXB_takeOutFree_4 : decode cXB_takeOutFree 4 = .ok (.iload_n 2, 1) := by decide +kernel
theorem dXB_takeOutFree_5 : decode cXB_takeOutFree 5 = .ok (.bipush 40, 2) := by decide +kernel
theorem dXB_takeOutFree_7 : decode cXB_takeOutFree 7 = .ok (.if_icmp .ge 31, 3) := by decide +kernel
theorem dXB_takeOutFree_10 : decode cXB_takeOutFree 10 = .ok (.aload_n 0, 1) := by decide +kernel
theorem dXB_takeOutFree_11 : decode cXB_takeOutFree 11 = .ok (.iload_n 2, 1) := by decide +kernel
theorem dXB_takeOutFree_12 : decode cXB_takeOutFree 12 = .ok (.invokevirtual 194, 3) := by decide +kernel
theorem dXB_takeOutFree_15 : decode cXB_takeOutFree 15 = .ok (.ifCond .ne 17, 3) := by decide +kernel
theorem dXB_takeOutFree_18 : decode cXB_takeOutFree 18 = .ok (.aload_n 0, 1) := by decide +kernel
theorem dXB_takeOutFree_19 : decode cXB_takeOutFree 19 = .ok (.getfield 25, 3) := by decide +kernel
theorem dXB_takeOutFree_22 : decode cXB_takeOutFree 22 = .ok (.iload_n 2, 1) := by decide +kernel
theorem dXB_takeOutFree_23 : decode cXB_takeOutFree 23 = .ok (.invokevirtual 197, 3) := by decide +kernel
theorem dXB_takeOutFree_26 : decode cXB_takeOutFree 26 = .ok (.ifCond .eq 6, 3) := by decide +kernel
theorem dXB_takeOutFree_29 : decode cXB_takeOutFree 29 = .ok (.iinc 1 1, 3) := by decide +kernel
theorem dXB_takeOutFree_32 : decode cXB_takeOutFree 32 = .ok (.iinc 2 1, 3) := by decide +kernel
theorem dXB_takeOutFree_35 : decode cXB_takeOutFree 35 = .ok (.goto (-31), 3) := by decide +kernel
theorem dXB_takeOutFree_38 : decode cXB_takeOutFree 38 = .ok (.iload_n 1, 1) := by decide +kernel
theorem dXB_takeOutFree_39 : decode cXB_takeOutFree 39 = .ok (.ireturn, 1) := by decide +kernel
abbrev cXB_makeIndexAnew : ByteArray := prog_1_method_30_code
abbrev yXB_makeIndexAnew : MethodName := ⟨RXB, "makeIndexAnew", "()V"⟩
abbrev wsXB_makeIndexAnew : List Cond := .code yXB_makeIndexAnew cXB_makeIndexAnew 2 none :: sbT
theorem dXB_makeIndexAnew_0 : decode cXB_makeIndexAnew 0 = .ok (.aload_n 0, 1) := by decide +kernel
theorem dXB_makeIndexAnew_1 : decode cXB_makeIndexAnew 1 = .ok (.getfield 25, 3) := by decide +kernel
theorem dXB_makeIndexAnew_4 : decode cXB_makeIndexAnew 4 = .ok (.invokevirtual 200, 3) := by decide +kernel
theorem dXB_makeIndexAnew_7 : decode cXB_makeIndexAnew 7 = .ok (.iconst 0, 1) := by decide +kernel
theorem dXB_makeIndexAnew_8 : decode cXB_makeIndexAnew 8 = .ok (.istore_n 1, 1) := by decide +kernel
theorem dXB_makeIndexAnew_9 : decode cXB_makeIndexAnew 9 = .ok (.iload_n 1, 1) := by decide +kernel
theorem dXB_makeIndexAnew_10 : decode cXB_makeIndexAnew 10 = .ok (.bipush 40, 2) := by decide +kernel
theorem dXB_makeIndexAnew_12 : decode cXB_makeIndexAnew 12 = .ok (.if_icmp .ge 25, 3) := by decide +kernel
theorem dXB_makeIndexAnew_15 : decode cXB_makeIndexAnew 15 = .ok (.aload_n 0, 1) := by decide +kernel
theorem dXB_makeIndexAnew_16 : decode cXB_makeIndexAnew 16 = .ok (.iload_n 1, 1) := by decide +kernel
theorem dXB_makeIndexAnew_17 : decode cXB_makeIndexAnew 17 = .ok (.invokevirtual 194, 3) := by decide +kernel
theorem dXB_makeIndexAnew_20 : decode cXB_makeIndexAnew 20 = .ok (.ifCond .eq 11, 3) := by decide +kernel
theorem dXB_makeIndexAnew_23 : decode cXB_makeIndexAnew 23 = .ok (.aload_n 0, 1) := by decide +kernel
theorem dXB_makeIndexAnew_24 : decode cXB_makeIndexAnew 24 = .ok (.getfield 25, 3) := by decide +kernel
theorem dXB_makeIndexAnew_27 : decode cXB_makeIndexAnew 27 = .ok (.iload_n 1, 1) := by decide +kernel
theorem dXB_makeIndexAnew_28 : decode cXB_makeIndexAnew 28 = .ok (.invokevirtual 100, 3) := by decide +kernel
theorem dXB_makeIndexAnew_31 : decode cXB_makeIndexAnew 31 = .ok (.iinc 1 1, 3) := by decide +kernel
theorem dXB_makeIndexAnew_34 : decode cXB_makeIndexAnew 34 = .ok (.goto (-25), 3) := by decide +kernel
theorem dXB_makeIndexAnew_37 : decode cXB_makeIndexAnew 37 = .ok (.return_, 1) := by decide +kernel
abbrev cXB_swapSlots : ByteArray := prog_1_method_31_code
abbrev yXB_swapSlots : MethodName := ⟨RXB, "swapSlots", "()V"⟩
abbrev wsXB_swapSlots : List Cond := .code yXB_swapSlots cXB_swapSlots 2 none :: sbT
theorem dXB_swapSlots_0 : decode cXB_swapSlots 0 = .ok (.aload_n 0, 1) := by decide +kernel
theorem dXB_swapSlots_1 : decode cXB_swapSlots 1 = .ok (.getfield 43, 3) := by decide +kernel
theorem dXB_swapSlots_4 : decode cXB_swapSlots 4 = .ok (.astore_n 1, 1) := by decide +kernel
theorem dXB_swapSlots_5 : decode cXB_swapSlots 5 = .ok (.aload_n 0, 1) := by decide +kernel
theorem dXB_swapSlots_6 : decode cXB_swapSlots 6 = .ok (.aload_n 0, 1) := by decide +kernel
theorem dXB_swapSlots_7 : decode cXB_swapSlots 7 = .ok (.getfield 39, 3) := by decide +kernel
theorem dXB_swapSlots_10 : decode cXB_swapSlots 10 = .ok (.putfield 43, 3) := by decide +kernel
theorem dXB_swapSlots_13 : decode cXB_swapSlots 13 = .ok (.aload_n 0, 1) := by decide +kernel
theorem dXB_swapSlots_14 : decode cXB_swapSlots 14 = .ok (.aload_n 1, 1) := by decide +kernel
theorem dXB_swapSlots_15 : decode cXB_swapSlots 15 = .ok (.putfield 39, 3) := by decide +kernel
theorem dXB_swapSlots_18 : decode cXB_swapSlots 18 = .ok (.return_, 1) := by decide +kernel
abbrev cXB_demandPower : ByteArray := prog_1_method_21_code
abbrev yXB_demandPower : MethodName := ⟨RXB, "demandPower", "()V"⟩
abbrev wsXB_demandPower : List Cond := .code yXB_demandPower cXB_demandPower 1 none :: sbT
theorem dXB_demandPower_0 : decode cXB_demandPower 0 = .ok (.aload_n 0, 1) := by decide +kernel
theorem dXB_demandPower_1 : decode cXB_demandPower 1 = .ok (.getfield 49, 3) := by decide +kernel
theorem dXB_demandPower_4 : decode cXB_demandPower 4 = .ok (.invokevirtual 170, 3) := by decide +kernel
theorem dXB_demandPower_7 : decode cXB_demandPower 7 = .ok (.ifCond .eq 13, 3) := by decide +kernel
theorem dXB_demandPower_10 : decode cXB_demandPower 10 = .ok (.new 60, 3) := by decide +kernel
theorem dXB_demandPower_13 : decode cXB_demandPower 13 = .ok (.dup, 1) := by decide +kernel
theorem dXB_demandPower_14 : decode cXB_demandPower 14 = .ok (.ldc 182, 2) := by decide +kernel
theorem dXB_demandPower_16 : decode cXB_demandPower 16 = .ok (.invokespecial 64, 3) := by decide +kernel
theorem dXB_demandPower_19 : decode cXB_demandPower 19 = .ok (.athrow, 1) := by decide +kernel
theorem dXB_demandPower_20 : decode cXB_demandPower 20 = .ok (.return_, 1) := by decide +kernel
abbrev cXB_demandFullStage : ByteArray := prog_1_method_22_code
abbrev yXB_demandFullStage : MethodName := ⟨RXB, "demandFullStage", "()V"⟩
abbrev wsXB_demandFullStage : List Cond := .code yXB_demandFullStage cXB_demandFullStage 1 none :: sbT
theorem dXB_demandFullStage_0 : decode cXB_demandFullStage 0 = .ok (.aload_n 0, 1) := by decide +kernel
theorem dXB_demandFullStage_1 : decode cXB_demandFullStage 1 = .ok (.getfield 56, 3) := by decide +kernel
theorem dXB_demandFullStage_4 : decode cXB_demandFullStage 4 = .ok (.iconst 4, 1) := by decide +kernel
theorem dXB_demandFullStage_5 : decode cXB_demandFullStage 5 = .ok (.if_icmp .ge 13, 3) := by decide +kernel
theorem dXB_demandFullStage_8 : decode cXB_demandFullStage 8 = .ok (.new 60, 3) := by decide +kernel
theorem dXB_demandFullStage_11 : decode cXB_demandFullStage 11 = .ok (.dup, 1) := by decide +kernel
theorem dXB_demandFullStage_12 : decode cXB_demandFullStage 12 = .ok (.ldc 184, 2) := by decide +kernel
theorem dXB_demandFullStage_14 : decode cXB_demandFullStage 14 = .ok (.invokespecial 64, 3) := by decide +kernel
theorem dXB_demandFullStage_17 : decode cXB_demandFullStage 17 = .ok (.athrow, 1) := by decide +kernel
theorem dXB_demandFullStage_18 : decode cXB_demandFullStage 18 = .ok (.return_, 1) := by decide +kernel
abbrev cXB_demandFile : ByteArray := prog_1_method_24_code
abbrev yXB_demandFile : MethodName := ⟨RXB, "demandFile", "(I)V"⟩
abbrev wsXB_demandFile : List Cond := .code yXB_demandFile cXB_demandFile 1 none :: sbT
theorem dXB_demandFile_0 : decode cXB_demandFile 0 = .ok (.iload_n 0, 1) := by decide +kernel
theorem dXB_demandFile_1 : decode cXB_demandFile 1 = .ok (.ifCond .lt 9, 3) := by decide +kernel
theorem dXB_demandFile_4 : decode cXB_demandFile 4 = .ok (.iload_n 0, 1) := by decide +kernel
theorem dXB_demandFile_5 : decode cXB_demandFile 5 = .ok (.bipush 6, 2) := by decide +kernel
theorem dXB_demandFile_7 : decode cXB_demandFile 7 = .ok (.if_icmp .lt 13, 3) := by decide +kernel
theorem dXB_demandFile_10 : decode cXB_demandFile 10 = .ok (.new 107, 3) := by decide +kernel
theorem dXB_demandFile_13 : decode cXB_demandFile 13 = .ok (.dup, 1) := by decide +kernel
theorem dXB_demandFile_14 : decode cXB_demandFile 14 = .ok (.ldc 188, 2) := by decide +kernel
theorem dXB_demandFile_16 : decode cXB_demandFile 16 = .ok (.invokespecial 111, 3) := by decide +kernel
theorem dXB_demandFile_19 : decode cXB_demandFile 19 = .ok (.athrow, 1) := by decide +kernel
theorem dXB_demandFile_20 : decode cXB_demandFile 20 = .ok (.return_, 1) := by decide +kernel
abbrev cXB_demandBlockOf : ByteArray := prog_1_method_23_code
abbrev yXB_demandBlockOf : MethodName := ⟨RXB, "demandBlockOf", "(II)V"⟩
abbrev wsXB_demandBlockOf : List Cond := .code yXB_demandBlockOf cXB_demandBlockOf 3 none :: sbT
theorem dXB_demandBlockOf_0 : decode cXB_demandBlockOf 0 = .ok (.iload_n 1, 1) := by decide +kernel
theorem dXB_demandBlockOf_1 : decode cXB_demandBlockOf 1 = .ok (.invokestatic 67, 3) := by decide +kernel
theorem dXB_demandBlockOf_4 : decode cXB_demandBlockOf 4 = .ok (.iload_n 2, 1) := by decide +kernel
theorem dXB_demandBlockOf_5 : decode cXB_demandBlockOf 5 = .ok (.ifCond .lt 15, 3) := by decide +kernel
theorem dXB_demandBlockOf_8 : decode cXB_demandBlockOf 8 = .ok (.iload_n 2, 1) := by decide +kernel
theorem dXB_demandBlockOf_9 : decode cXB_demandBlockOf 9 = .ok (.aload_n 0, 1) := by decide +kernel
theorem dXB_demandBlockOf_10 : decode cXB_demandBlockOf 10 = .ok (.getfield 32, 3) := by decide +kernel
theorem dXB_demandBlockOf_13 : decode cXB_demandBlockOf 13 = .ok (.iload_n 1, 1) := by decide +kernel
theorem dXB_demandBlockOf_14 : decode cXB_demandBlockOf 14 = .ok (.invokevirtual 74, 3) := by decide +kernel
theorem dXB_demandBlockOf_17 : decode cXB_demandBlockOf 17 = .ok (.if_icmp .lt 13, 3) := by decide +kernel
theorem dXB_demandBlockOf_20 : decode cXB_demandBlockOf 20 = .ok (.new 107, 3) := by decide +kernel
theorem dXB_demandBlockOf_23 : decode cXB_demandBlockOf 23 = .ok (.dup, 1) := by decide +kernel
theorem dXB_demandBlockOf_24 : decode cXB_demandBlockOf 24 = .ok (.ldc 186, 2) := by decide +kernel
theorem dXB_demandBlockOf_26 : decode cXB_demandBlockOf 26 = .ok (.invokespecial 111, 3) := by decide +kernel
theorem dXB_demandBlockOf_29 : decode cXB_demandBlockOf 29 = .ok (.athrow, 1) := by decide +kernel
theorem dXB_demandBlockOf_30 : decode cXB_demandBlockOf 30 = .ok (.return_, 1) := by decide +kernel
theorem wd_113 : Cond.fieldLink RXB 32 RXB "files" "LSharedBlockStore$Rows;" ∈ sbT := sb_in 113 (by decide +kernel) rfl
theorem wd_186 : Cond.methodLink RXB 190 yXR_have ∈ sbT := sb_in 186 (by decide +kernel) rfl
theorem wd_187 : Cond.instanceMethod yXR_have ∈ sbT := sb_in 187 (by decide +kernel) rfl
theorem wd_188 : Cond.selects RXR yXR_have yXR_have ∈ sbT := sb_in 188 (by decide +kernel) rfl
theorem wd_189 : Cond.code yXR_have cXR_have 2 (some .boolean) ∈ sbT := sb_in 189 (by decide +kernel) rfl
theorem wd_114 : Cond.fieldLink RXB 39 RXB "latest" "LSharedBlockStore$Slot;" ∈ sbT := sb_in 114 (by decide +kernel) rfl
theorem wd_150 : Cond.methodLink RXB 152 yXS_rows ∈ sbT := sb_in 150 (by decide +kernel) rfl
theorem wd_151 : Cond.instanceMethod yXS_rows ∈ sbT := sb_in 151 (by decide +kernel) rfl
theorem wd_152 : Cond.selects RXS yXS_rows yXS_rows ∈ sbT := sb_in 152 (by decide +kernel) rfl
theorem wd_6 : Cond.initialized RXS ∈ sbT := sb_in 6 (by decide +kernel) rfl
theorem wd_153 : Cond.code yXS_rows cXS_rows 1 (some (.object "SharedBlockStore$Rows")) ∈ sbT := sb_in 153 (by decide +kernel) rfl
theorem wd_182 : Cond.methodLink RXB 194 yXB_isUsed ∈ sbT := sb_in 182 (by decide +kernel) rfl
theorem wd_184 : Cond.instanceMethod yXB_isUsed ∈ sbT := sb_in 184 (by decide +kernel) rfl
theorem ws_XB_isUsed : Cond.selects RXB yXB_isUsed yXB_isUsed ∈ sbT := sb_sel (q := (yXB_isUsed, 8)) 1 (by decide +kernel)
theorem wd_1 : Cond.initialized RXB ∈ sbT := sb_in 1 (by decide +kernel) rfl
theorem wd_185 : Cond.code yXB_isUsed cXB_isUsed 2 (some .boolean) ∈ sbT := sb_in 185 (by decide +kernel) rfl
theorem wd_112 : Cond.fieldLink RXB 25 RXB "index" "LSharedBlockStore$Index;" ∈ sbT := sb_in 112 (by decide +kernel) rfl
theorem wd_402 : Cond.methodLink RXB 197 yXI_takeOut ∈ sbT := sb_in 402 (by decide +kernel) rfl
theorem wd_403 : Cond.instanceMethod yXI_takeOut ∈ sbT := sb_in 403 (by decide +kernel) rfl
theorem wd_404 : Cond.selects RXI yXI_takeOut yXI_takeOut ∈ sbT := sb_in 404 (by decide +kernel) rfl
theorem wd_405 : Cond.code yXI_takeOut cXI_takeOut 3 (some .boolean) ∈ sbT := sb_in 405 (by decide +kernel) rfl
theorem wd_178 : Cond.methodLink RXB 200 yXI_clear ∈ sbT := sb_in 178 (by decide +kernel) rfl
theorem wd_179 : Cond.instanceMethod yXI_clear ∈ sbT := sb_in 179 (by decide +kernel) rfl
theorem wd_180 : Cond.selects RXI yXI_clear yXI_clear ∈ sbT := sb_in 180 (by decide +kernel) rfl
theorem wd_181 : Cond.code yXI_clear cXI_clear 1 none ∈ sbT := sb_in 181 (by decide +kernel) rfl
theorem wd_190 : Cond.methodLink RXB 100 yXI_admit ∈ sbT := sb_in 190 (by decide +kernel) rfl
theorem wd_191 : Cond.instanceMethod yXI_admit ∈ sbT := sb_in 191 (by decide +kernel) rfl
theorem wd_192 : Cond.selects RXI yXI_admit yXI_admit ∈ sbT := sb_in 192 (by decide +kernel) rfl
theorem wd_193 : Cond.code yXI_admit cXI_admit 2 none ∈ sbT := sb_in 193 (by decide +kernel) rfl
theorem wd_115 : Cond.fieldLink RXB 43 RXB "other" "LSharedBlockStore$Slot;" ∈ sbT := sb_in 115 (by decide +kernel) rfl
theorem wd_116 : Cond.fieldLink RXB 49 RXB "power" "LSharedBlockStore$Power;" ∈ sbT := sb_in 116 (by decide +kernel) rfl
theorem wd_138 : Cond.methodLink RXB 170 yXP_isOff ∈ sbT := sb_in 138 (by decide +kernel) rfl
theorem wd_139 : Cond.instanceMethod yXP_isOff ∈ sbT := sb_in 139 (by decide +kernel) rfl
theorem wd_140 : Cond.selects RXP yXP_isOff yXP_isOff ∈ sbT := sb_in 140 (by decide +kernel) rfl
theorem wd_7 : Cond.initialized RXP ∈ sbT := sb_in 7 (by decide +kernel) rfl
theorem wd_141 : Cond.code yXP_isOff cXP_isOff 1 (some .boolean) ∈ sbT := sb_in 141 (by decide +kernel) rfl
theorem wd_110 : Cond.fieldLink RXB 56 RXB "staged" "I" ∈ sbT := sb_in 110 (by decide +kernel) rfl
theorem wd_329 : Cond.methodLink RXB 67 yXB_demandFile ∈ sbT := sb_in 329 (by decide +kernel) rfl
theorem wd_330 : Cond.static yXB_demandFile ∈ sbT := sb_in 330 (by decide +kernel) rfl
theorem wd_331 : Cond.code yXB_demandFile cXB_demandFile 1 none ∈ sbT := sb_in 331 (by decide +kernel) rfl
theorem wd_353 : Cond.methodLink RXB 74 yXR_length ∈ sbT := sb_in 353 (by decide +kernel) rfl
set_option maxRecDepth 100000 in
set_option maxHeartbeats 4000000 in
theorem c_XB_isUsed (l : Launch) (D : va_G) (ta : ClassId × ClassId × ClassId) (h0 : Nat) (h1 : Nat) (h2 : Nat) (h3 : Nat) (h4 : Nat) (h5 : Nat) (h6 : Nat) (h7 : Nat) (f1 : Nat) (f2 : Nat) (f3 : Nat) (l0 : Nat) (l1 : Nat) (l2 : Nat) (l3 : Nat) (sg : Nat) (len : Nat → Nat) (ent : Nat → Nat) (cnt : Nat → Int32) (num : Int32) (len1 : Nat → Nat) (ent1 : Nat → Nat) (cnt1 : Nat → Int32) (b : Nat) (hb : b < 40) : sr l yXB_isUsed wsXB_isUsed ({ frames := 1, cells := 0, slots := 0, locals := 21 }) D ta [.ref h0, .int (nI b)] [(h0, .inr (5, [.ref h1, .int (nI sg), .ref h2, .ref h3, .ref h4, .ref h5, .ref h6, .ref h7])), (h4, .inr (3, [.ref f1, .ref f2, .ref f3])), (f1, .inl (ta.1, 6, .inl (fun jx => nI (len jx)))), (f2, .inl (ta.1, 72, .inl (fun jx => nI (ent jx)))), (f3, .inl (ta.1, 40, .inl (cnt))), (h5, .inr (4, [.ref l0, .int num])), (l0, .inr (3, [.ref l1, .ref l2, .ref l3])), (l1, .inl (ta.1, 6, .inl (fun jx => nI (len1 jx)))), (l2, .inl (ta.1, 72, .inl (fun jx => nI (ent1 jx)))), (l3, .inl (ta.1, 40, .inl (cnt1)))] (some (.int (sp_b (us_b cnt cnt1 b)))) := by
  refine sr_ofW (y := yXB_isUsed) (cc := cXB_isUsed) (nL := 2) (ret := (some .boolean)) (by decide) (Nat.le_of_ble_eq_true rfl) (fun p e s m below meth c G hr hlk hnm => ?_)
  refine sw_eq (ws' := [(h0, .inr (5, [.ref h1, .int (nI sg), .ref h2, .ref h3, .ref h4, .ref h5, .ref h6, .ref h7])), (h4, .inr (3, [.ref f1, .ref f2, .ref f3])), (f1, .inl (ta.1, 6, .inl (fun jx => nI (len jx)))), (f2, .inl (ta.1, 72, .inl (fun jx => nI (ent jx)))), (f3, .inl (ta.1, 40, .inl (cnt))), (h5, .inr (4, [.ref l0, .int num])), (l0, .inr (3, [.ref l1, .ref l2, .ref l3])), (l1, .inl (ta.1, 6, .inl (fun jx => nI (len1 jx)))), (l2, .inl (ta.1, 72, .inl (fun jx => nI (ent1 jx)))), (l3, .inl (ta.1, 40, .inl (cnt1)))]) (lv2 := [(0, .ref h0), (1, .int (nI b))]) (pc2 := 0) (st2 := []) rfl ?_
  refine sw_aload_n G dXB_isUsed_0 rfl 0 rfl ?_
  refine sw_get (C := RXB) (T := TXB) (ref := RXB) (N := 8) G inXB 0 rfl rfl 4 (by decide) wd_113 rfl rfl dXB_isUsed_1 ?_
  refine sw_iload_n G dXB_isUsed_4 rfl 1 rfl ?_
  refine sw_readV (As := [.int (nI b)]) (rest := []) G (c_XR_have l D ta h4 f1 f2 f3 len ent cnt b (by omega)) (cwV 1 G.2.2.2.2.1 (sb_goodV wd_186 wd_187 wd_188 wd_5 wd_189) rfl rfl rfl (by decide +kernel) ⟨Nat.le_of_ble_eq_true rfl, Nat.le_of_ble_eq_true rfl⟩) 1 3 rfl rfl rfl rfl (Nat.le_of_ble_eq_true rfl) dXB_isUsed_5 ⟨Nat.le_of_ble_eq_true rfl, Nat.le_of_ble_eq_true rfl⟩ [1, 2, 3, 4] rfl (by decide) ?_
  refine sw_eq (ws' := [(h0, .inr (5, [.ref h1, .int (nI sg), .ref h2, .ref h3, .ref h4, .ref h5, .ref h6, .ref h7])), (h4, .inr (3, [.ref f1, .ref f2, .ref f3])), (f1, .inl (ta.1, 6, .inl (fun jx => nI (len jx)))), (f2, .inl (ta.1, 72, .inl (fun jx => nI (ent jx)))), (f3, .inl (ta.1, 40, .inl (cnt))), (h5, .inr (4, [.ref l0, .int num])), (l0, .inr (3, [.ref l1, .ref l2, .ref l3])), (l1, .inl (ta.1, 6, .inl (fun jx => nI (len1 jx)))), (l2, .inl (ta.1, 72, .inl (fun jx => nI (ent1 jx)))), (l3, .inl (ta.1, 40, .inl (cnt1)))]) (lv2 := [(0, .ref h0), (1, .int (nI b))]) (pc2 := 8) (st2 := [.int (sp_b (decide (0 < cnt b)))]) rfl ?_
  refine sw_if_ne (x := sp_b (decide (0 < cnt b))) (tgt := 25) G dXB_isUsed_8 (by decide) (fun br8 => ?_) (fun br8 => ?_)
  · refine sw_iconst (v := nI 1) G dXB_isUsed_25 (by decide) ?_
    refine sw_goto (tgt := 30) G dXB_isUsed_26 (by decide) ?_
    exact sr_zret (x := nI 1) G hr hlk (by rw [show us_b cnt cnt1 b = true by rw [us_b, (sp_b_ne _).mp br8] <;> rfl] <;> rfl) (rfl) dXB_isUsed_30
  · refine sw_aload_n G dXB_isUsed_11 rfl 0 rfl ?_
    refine sw_get (C := RXB) (T := TXB) (ref := RXB) (N := 8) G inXB 0 rfl rfl 5 (by decide) wd_114 rfl rfl dXB_isUsed_12 ?_
    refine sw_readV (As := []) (rest := []) G (c_XS_rows l D ta h5 l0 num ) (cwV 0 G.2.2.2.2.1 (sb_goodV wd_150 wd_151 wd_152 wd_6 wd_153) rfl rfl rfl (by decide +kernel) ⟨Nat.le_of_ble_eq_true rfl, Nat.le_of_ble_eq_true rfl⟩) 5 4 rfl rfl rfl rfl (Nat.le_of_ble_eq_true rfl) dXB_isUsed_15 ⟨Nat.le_of_ble_eq_true rfl, Nat.le_of_ble_eq_true rfl⟩ [5] rfl (by decide) ?_
    refine sw_eq (ws' := [(h0, .inr (5, [.ref h1, .int (nI sg), .ref h2, .ref h3, .ref h4, .ref h5, .ref h6, .ref h7])), (h4, .inr (3, [.ref f1, .ref f2, .ref f3])), (f1, .inl (ta.1, 6, .inl (fun jx => nI (len jx)))), (f2, .inl (ta.1, 72, .inl (fun jx => nI (ent jx)))), (f3, .inl (ta.1, 40, .inl (cnt))), (h5, .inr (4, [.ref l0, .int num])), (l0, .inr (3, [.ref l1, .ref l2, .ref l3])), (l1, .inl (ta.1, 6, .inl (fun jx => nI (len1 jx)))), (l2, .inl (ta.1, 72, .inl (fun jx => nI (ent1 jx)))), (l3, .inl (ta.1, 40, .inl (cnt1)))]) (lv2 := [(0, .ref h0), (1, .int (nI b))]) (pc2 := 18) (st2 := [.ref l0]) rfl ?_
    refine sw_iload_n G dXB_isUsed_18 rfl 1 rfl ?_
    refine sw_readV (As := [.int (nI b)]) (rest := []) G (c_XR_have l D ta l0 l1 l2 l3 len1 ent1 cnt1 b (by omega)) (cwV 1 G.2.2.2.2.1 (sb_goodV wd_186 wd_187 wd_188 wd_5 wd_189) rfl rfl rfl (by decide +kernel) ⟨Nat.le_of_ble_eq_true rfl, Nat.le_of_ble_eq_true rfl⟩) 6 3 rfl rfl rfl rfl (Nat.le_of_ble_eq_true rfl) dXB_isUsed_19 ⟨Nat.le_of_ble_eq_true rfl, Nat.le_of_ble_eq_true rfl⟩ [6, 7, 8, 9] rfl (by decide) ?_
    refine sw_eq (ws' := [(h0, .inr (5, [.ref h1, .int (nI sg), .ref h2, .ref h3, .ref h4, .ref h5, .ref h6, .ref h7])), (h4, .inr (3, [.ref f1, .ref f2, .ref f3])), (f1, .inl (ta.1, 6, .inl (fun jx => nI (len jx)))), (f2, .inl (ta.1, 72, .inl (fun jx => nI (ent jx)))), (f3, .inl (ta.1, 40, .inl (cnt))), (h5, .inr (4, [.ref l0, .int num])), (l0, .inr (3, [.ref l1, .ref l2, .ref l3])), (l1, .inl (ta.1, 6, .inl (fun jx => nI (len1 jx)))), (l2, .inl (ta.1, 72, .inl (fun jx => nI (ent1 jx)))), (l3, .inl (ta.1, 40, .inl (cnt1)))]) (lv2 := [(0, .ref h0), (1, .int (nI b))]) (pc2 := 22) (st2 := [.int (sp_b (decide (0 < cnt1 b)))]) rfl ?_
    refine sw_if_eq (x := sp_b (decide (0 < cnt1 b))) (tgt := 29) G dXB_isUsed_22 (by decide) (fun br22 => ?_) (fun br22 => ?_)
    · refine sw_iconst (v := nI 0) G dXB_isUsed_29 (by decide) ?_
      exact sr_zret (x := nI 0) G hr hlk (by rw [show us_b cnt cnt1 b = false by rw [us_b, (sp_b_eq _).mp br8, (sp_b_eq _).mp br22] <;> rfl] <;> rfl) (rfl) dXB_isUsed_30
    · refine sw_iconst (v := nI 1) G dXB_isUsed_25 (by decide) ?_
      refine sw_goto (tgt := 30) G dXB_isUsed_26 (by decide) ?_
      exact sr_zret (x := nI 1) G hr hlk (by rw [show us_b cnt cnt1 b = true by rw [us_b, (sp_b_eq _).mp br8, (sp_b_ne _).mp br22] <;> rfl] <;> rfl) (rfl) dXB_isUsed_30

set_option maxRecDepth 100000 in
set_option maxHeartbeats 4000000 in
theorem c_XB_leastFree (l : Launch) (D : va_G) (ta : ClassId × ClassId × ClassId) (h0 : Nat) (h1 : Nat) (h2 : Nat) (h3 : Nat) (h4 : Nat) (h5 : Nat) (h6 : Nat) (h7 : Nat) (f1 : Nat) (f2 : Nat) (f3 : Nat) (l0 : Nat) (l1 : Nat) (l2 : Nat) (l3 : Nat) (sg : Nat) (len : Nat → Nat) (ent : Nat → Nat) (cnt : Nat → Int32) (num : Int32) (len1 : Nat → Nat) (ent1 : Nat → Nat) (cnt1 : Nat → Int32) (t : Nat) (ht : t < 40) (hu : ∀ u, u < t → us_b cnt cnt1 u = true) (hf : us_b cnt cnt1 t = false) : sr l yXB_leastFree wsXB_leastFree ({ frames := 2, cells := 0, slots := 0, locals := 42 }) D ta [.ref h0] [(h0, .inr (5, [.ref h1, .int (nI sg), .ref h2, .ref h3, .ref h4, .ref h5, .ref h6, .ref h7])), (h4, .inr (3, [.ref f1, .ref f2, .ref f3])), (f1, .inl (ta.1, 6, .inl (fun jx => nI (len jx)))), (f2, .inl (ta.1, 72, .inl (fun jx => nI (ent jx)))), (f3, .inl (ta.1, 40, .inl (cnt))), (h5, .inr (4, [.ref l0, .int num])), (l0, .inr (3, [.ref l1, .ref l2, .ref l3])), (l1, .inl (ta.1, 6, .inl (fun jx => nI (len1 jx)))), (l2, .inl (ta.1, 72, .inl (fun jx => nI (ent1 jx)))), (l3, .inl (ta.1, 40, .inl (cnt1)))] (some (.int (nI t))) := by
  refine sr_ofW (y := yXB_leastFree) (cc := cXB_leastFree) (nL := 2) (ret := (some .int)) (by decide) (Nat.le_of_ble_eq_true rfl) (fun p e s m below meth c G hr hlk hnm => ?_)
  refine sw_eq (ws' := [(h0, .inr (5, [.ref h1, .int (nI sg), .ref h2, .ref h3, .ref h4, .ref h5, .ref h6, .ref h7])), (h4, .inr (3, [.ref f1, .ref f2, .ref f3])), (f1, .inl (ta.1, 6, .inl (fun jx => nI (len jx)))), (f2, .inl (ta.1, 72, .inl (fun jx => nI (ent jx)))), (f3, .inl (ta.1, 40, .inl (cnt))), (h5, .inr (4, [.ref l0, .int num])), (l0, .inr (3, [.ref l1, .ref l2, .ref l3])), (l1, .inl (ta.1, 6, .inl (fun jx => nI (len1 jx)))), (l2, .inl (ta.1, 72, .inl (fun jx => nI (ent1 jx)))), (l3, .inl (ta.1, 40, .inl (cnt1)))]) (lv2 := [(0, .ref h0)]) (pc2 := 0) (st2 := []) rfl ?_
  refine sw_iconst (v := nI 0) G dXB_leastFree_0 (by decide) ?_
  refine sw_istore_n G dXB_leastFree_1 rfl (by decide) (lv' := [(1, .int (nI 0)), (0, .ref h0)]) rfl ?_
  refine sw_lv [1, 0] (lv' := [(0, .ref h0), (1, .int (nI 0))]) rfl ?_
  have L2 : ∀ (NN : Nat) (u : Nat), t - u < NN → (u ≤ t) → sw p l e ({ frames := 2, cells := 0, slots := 0, locals := 42 }) s m ([.ref h0]).toArray below meth c 2 D (va_A [(h0, .inr (5, [.ref h1, .int (nI sg), .ref h2, .ref h3, .ref h4, .ref h5, .ref h6, .ref h7])), (h4, .inr (3, [.ref f1, .ref f2, .ref f3])), (f1, .inl (ta.1, 6, .inl (fun jx => nI (len jx)))), (f2, .inl (ta.1, 72, .inl (fun jx => nI (ent jx)))), (f3, .inl (ta.1, 40, .inl (cnt))), (h5, .inr (4, [.ref l0, .int num])), (l0, .inr (3, [.ref l1, .ref l2, .ref l3])), (l1, .inl (ta.1, 6, .inl (fun jx => nI (len1 jx)))), (l2, .inl (ta.1, 72, .inl (fun jx => nI (ent1 jx)))), (l3, .inl (ta.1, 40, .inl (cnt1)))] s.heap.size) (MQ below (fun _ st_ oc_ t_ => oc_ = .returned (some (.int (nI t))) ∧ t_.heap = st_.heap) ([.ref h0]).toArray s 0 0 (fun _ => False)) true 0 0 [(h0, .inr (5, [.ref h1, .int (nI sg), .ref h2, .ref h3, .ref h4, .ref h5, .ref h6, .ref h7])), (h4, .inr (3, [.ref f1, .ref f2, .ref f3])), (f1, .inl (ta.1, 6, .inl (fun jx => nI (len jx)))), (f2, .inl (ta.1, 72, .inl (fun jx => nI (ent jx)))), (f3, .inl (ta.1, 40, .inl (cnt))), (h5, .inr (4, [.ref l0, .int num])), (l0, .inr (3, [.ref l1, .ref l2, .ref l3])), (l1, .inl (ta.1, 6, .inl (fun jx => nI (len1 jx)))), (l2, .inl (ta.1, 72, .inl (fun jx => nI (ent1 jx)))), (l3, .inl (ta.1, 40, .inl (cnt1)))] [(0, .ref h0), (1, .int (nI u))] 2 [] := by
    intro NN
    induction NN with
    | zero => intro u hNN; exact absurd hNN (Nat.not_lt_zero _)
    | succ NN ih2 =>
      intro u hNN hut
      refine sw_iload_n G dXB_leastFree_2 rfl 1 rfl ?_
      refine sw_bipush (v := nI 40) G dXB_leastFree_3 (by decide) ?_
      refine sw_icmpN_ge (a := u) (b := 40) (tgt := 24) G dXB_leastFree_5 (by decide) (by omega) (by omega) (fun br5 => ?_) (fun br5 => ?_)
      · exact absurd br5 (by omega)
      · refine sw_aload_n G dXB_leastFree_8 rfl 0 rfl ?_
        refine sw_iload_n G dXB_leastFree_9 rfl 1 rfl ?_
        refine sw_readV (As := [.int (nI u)]) (rest := []) G (c_XB_isUsed l D ta h0 h1 h2 h3 h4 h5 h6 h7 f1 f2 f3 l0 l1 l2 l3 sg len ent cnt num len1 ent1 cnt1 u (by omega)) (cwV 1 G.2.2.2.2.1 (sb_goodV wd_182 wd_184 ws_XB_isUsed wd_1 wd_185) rfl rfl rfl (by decide +kernel) ⟨Nat.le_of_ble_eq_true rfl, Nat.le_of_ble_eq_true rfl⟩) 0 5 rfl rfl rfl rfl (Nat.le_of_ble_eq_true rfl) dXB_leastFree_10 ⟨Nat.le_of_ble_eq_true rfl, Nat.le_of_ble_eq_true rfl⟩ [0, 1, 2, 3, 4, 5, 6, 7, 8, 9] rfl (by decide) ?_
        refine sw_eq (ws' := [(h0, .inr (5, [.ref h1, .int (nI sg), .ref h2, .ref h3, .ref h4, .ref h5, .ref h6, .ref h7])), (h4, .inr (3, [.ref f1, .ref f2, .ref f3])), (f1, .inl (ta.1, 6, .inl (fun jx => nI (len jx)))), (f2, .inl (ta.1, 72, .inl (fun jx => nI (ent jx)))), (f3, .inl (ta.1, 40, .inl (cnt))), (h5, .inr (4, [.ref l0, .int num])), (l0, .inr (3, [.ref l1, .ref l2, .ref l3])), (l1, .inl (ta.1, 6, .inl (fun jx => nI (len1 jx)))), (l2, .inl (ta.1, 72, .inl (fun jx => nI (ent1 jx)))), (l3, .inl (ta.1, 40, .inl (cnt1)))]) (lv2 := [(0, .ref h0), (1, .int (nI u))]) (pc2 := 13) (st2 := [.int (sp_b (us_b cnt cnt1 u))]) rfl ?_
        refine sw_if_ne (x := sp_b (us_b cnt cnt1 u)) (tgt := 18) G dXB_leastFree_13 (by decide) (fun br13 => ?_) (fun br13 => ?_)
        · refine sw_iinc (x := nI u) (v := nI (u + 1)) G dXB_leastFree_18 (q := 1) rfl (sp_inc _) (by decide) (lv' := [(1, .int (nI (u + 1))), (0, .ref h0)]) rfl ?_
          refine sw_goto (tgt := 2) G dXB_leastFree_21 (by decide) ?_
          refine sw_lv [1, 0] (lv' := [(0, .ref h0), (1, .int (nI (u + 1)))]) rfl ?_
          have hlt : u < t := by
            rcases Nat.lt_or_ge u t with h | h
            · exact h
            · exfalso
              have e : u = t := by omega
              rw [e, hf] at br13
              exact br13 rfl
          refine sw_eq (ws' := [(h0, .inr (5, [.ref h1, .int (nI sg), .ref h2, .ref h3, .ref h4, .ref h5, .ref h6, .ref h7])), (h4, .inr (3, [.ref f1, .ref f2, .ref f3])), (f1, .inl (ta.1, 6, .inl (fun jx => nI (len jx)))), (f2, .inl (ta.1, 72, .inl (fun jx => nI (ent jx)))), (f3, .inl (ta.1, 40, .inl (cnt))), (h5, .inr (4, [.ref l0, .int num])), (l0, .inr (3, [.ref l1, .ref l2, .ref l3])), (l1, .inl (ta.1, 6, .inl (fun jx => nI (len1 jx)))), (l2, .inl (ta.1, 72, .inl (fun jx => nI (ent1 jx)))), (l3, .inl (ta.1, 40, .inl (cnt1)))]) (lv2 := [(0, .ref h0), (1, .int (nI (u + 1)))]) (pc2 := 2) (st2 := []) (rfl) ?_
          exact ih2 (u + 1) (by omega) (by omega)
        · refine sw_iload_n G dXB_leastFree_16 rfl 1 rfl ?_
          exact sr_iret (x := nI u) G hr hlk (by rw [show u = t by rcases Nat.lt_or_ge u t with h | h; (rw [hu u h] at br13; exact absurd br13 (by decide)); omega]) dXB_leastFree_17
  exact L2 _ 0 (Nat.lt_succ_self _) (Nat.zero_le _)

set_option maxRecDepth 100000 in
set_option maxHeartbeats 4000000 in
theorem c_XB_leastNone (l : Launch) (D : va_G) (ta : ClassId × ClassId × ClassId) (h0 : Nat) (h1 : Nat) (h2 : Nat) (h3 : Nat) (h4 : Nat) (h5 : Nat) (h6 : Nat) (h7 : Nat) (f1 : Nat) (f2 : Nat) (f3 : Nat) (l0 : Nat) (l1 : Nat) (l2 : Nat) (l3 : Nat) (sg : Nat) (len : Nat → Nat) (ent : Nat → Nat) (cnt : Nat → Int32) (num : Int32) (len1 : Nat → Nat) (ent1 : Nat → Nat) (cnt1 : Nat → Int32) (hu : ∀ u, u < 40 → us_b cnt cnt1 u = true) : sr l yXB_leastFree wsXB_leastFree ({ frames := 2, cells := 0, slots := 0, locals := 42 }) D ta [.ref h0] [(h0, .inr (5, [.ref h1, .int (nI sg), .ref h2, .ref h3, .ref h4, .ref h5, .ref h6, .ref h7])), (h4, .inr (3, [.ref f1, .ref f2, .ref f3])), (f1, .inl (ta.1, 6, .inl (fun jx => nI (len jx)))), (f2, .inl (ta.1, 72, .inl (fun jx => nI (ent jx)))), (f3, .inl (ta.1, 40, .inl (cnt))), (h5, .inr (4, [.ref l0, .int num])), (l0, .inr (3, [.ref l1, .ref l2, .ref l3])), (l1, .inl (ta.1, 6, .inl (fun jx => nI (len1 jx)))), (l2, .inl (ta.1, 72, .inl (fun jx => nI (ent1 jx)))), (l3, .inl (ta.1, 40, .inl (cnt1)))] (some (.int (-1))) := by
  refine sr_ofW (y := yXB_leastFree) (cc := cXB_leastFree) (nL := 2) (ret := (some .int)) (by decide) (Nat.le_of_ble_eq_true rfl) (fun p e s m below meth c G hr hlk hnm => ?_)
  refine sw_eq (ws' := [(h0, .inr (5, [.ref h1, .int (nI sg), .ref h2, .ref h3, .ref h4, .ref h5, .ref h6, .ref h7])), (h4, .inr (3, [.ref f1, .ref f2, .ref f3])), (f1, .inl (ta.1, 6, .inl (fun jx => nI (len jx)))), (f2, .inl (ta.1, 72, .inl (fun jx => nI (ent jx)))), (f3, .inl (ta.1, 40, .inl (cnt))), (h5, .inr (4, [.ref l0, .int num])), (l0, .inr (3, [.ref l1, .ref l2, .ref l3])), (l1, .inl (ta.1, 6, .inl (fun jx => nI (len1 jx)))), (l2, .inl (ta.1, 72, .inl (fun jx => nI (ent1 jx)))), (l3, .inl (ta.1, 40, .inl (cnt1)))]) (lv2 := [(0, .ref h0)]) (pc2 := 0) (st2 := []) rfl ?_
  refine sw_iconst (v := nI 0) G dXB_leastFree_0 (by decide) ?_
  refine sw_istore_n G dXB_leastFree_1 rfl (by decide) (lv' := [(1, .int (nI 0)), (0, .ref h0)]) rfl ?_
  refine sw_lv [1, 0] (lv' := [(0, .ref h0), (1, .int (nI 0))]) rfl ?_
  have L2 : ∀ (NN : Nat) (u : Nat), 40 - u < NN → (u ≤ 40) → sw p l e ({ frames := 2, cells := 0, slots := 0, locals := 42 }) s m ([.ref h0]).toArray below meth c 2 D (va_A [(h0, .inr (5, [.ref h1, .int (nI sg), .ref h2, .ref h3, .ref h4, .ref h5, .ref h6, .ref h7])), (h4, .inr (3, [.ref f1, .ref f2, .ref f3])), (f1, .inl (ta.1, 6, .inl (fun jx => nI (len jx)))), (f2, .inl (ta.1, 72, .inl (fun jx => nI (ent jx)))), (f3, .inl (ta.1, 40, .inl (cnt))), (h5, .inr (4, [.ref l0, .int num])), (l0, .inr (3, [.ref l1, .ref l2, .ref l3])), (l1, .inl (ta.1, 6, .inl (fun jx => nI (len1 jx)))), (l2, .inl (ta.1, 72, .inl (fun jx => nI (ent1 jx)))), (l3, .inl (ta.1, 40, .inl (cnt1)))] s.heap.size) (MQ below (fun _ st_ oc_ t_ => oc_ = .returned (some (.int (-1))) ∧ t_.heap = st_.heap) ([.ref h0]).toArray s 0 0 (fun _ => False)) true 0 0 [(h0, .inr (5, [.ref h1, .int (nI sg), .ref h2, .ref h3, .ref h4, .ref h5, .ref h6, .ref h7])), (h4, .inr (3, [.ref f1, .ref f2, .ref f3])), (f1, .inl (ta.1, 6, .inl (fun jx => nI (len jx)))), (f2, .inl (ta.1, 72, .inl (fun jx => nI (ent jx)))), (f3, .inl (ta.1, 40, .inl (cnt))), (h5, .inr (4, [.ref l0, .int num])), (l0, .inr (3, [.ref l1, .ref l2, .ref l3])), (l1, .inl (ta.1, 6, .inl (fun jx => nI (len1 jx)))), (l2, .inl (ta.1, 72, .inl (fun jx => nI (ent1 jx)))), (l3, .inl (ta.1, 40, .inl (cnt1)))] [(0, .ref h0), (1, .int (nI u))] 2 [] := by
    intro NN
    induction NN with
    | zero => intro u hNN; exact absurd hNN (Nat.not_lt_zero _)
    | succ NN ih2 =>
      intro u hNN hut
      refine sw_iload_n G dXB_leastFree_2 rfl 1 rfl ?_
      refine sw_bipush (v := nI 40) G dXB_leastFree_3 (by decide) ?_
      refine sw_icmpN_ge (a := u) (b := 40) (tgt := 24) G dXB_leastFree_5 (by decide) (by omega) (by omega) (fun br5 => ?_) (fun br5 => ?_)
      · refine sw_iconst (v := -1) G dXB_leastFree_24 (by decide) ?_
        exact sr_iret (x := -1) G hr hlk (rfl) dXB_leastFree_25
      · refine sw_aload_n G dXB_leastFree_8 rfl 0 rfl ?_
        refine sw_iload_n G dXB_leastFree_9 rfl 1 rfl ?_
        refine sw_readV (As := [.int (nI u)]) (rest := []) G (c_XB_isUsed l D ta h0 h1 h2 h3 h4 h5 h6 h7 f1 f2 f3 l0 l1 l2 l3 sg len ent cnt num len1 ent1 cnt1 u (by omega)) (cwV 1 G.2.2.2.2.1 (sb_goodV wd_182 wd_184 ws_XB_isUsed wd_1 wd_185) rfl rfl rfl (by decide +kernel) ⟨Nat.le_of_ble_eq_true rfl, Nat.le_of_ble_eq_true rfl⟩) 0 5 rfl rfl rfl rfl (Nat.le_of_ble_eq_true rfl) dXB_leastFree_10 ⟨Nat.le_of_ble_eq_true rfl, Nat.le_of_ble_eq_true rfl⟩ [0, 1, 2, 3, 4, 5, 6, 7, 8, 9] rfl (by decide) ?_
        refine sw_eq (ws' := [(h0, .inr (5, [.ref h1, .int (nI sg), .ref h2, .ref h3, .ref h4, .ref h5, .ref h6, .ref h7])), (h4, .inr (3, [.ref f1, .ref f2, .ref f3])), (f1, .inl (ta.1, 6, .inl (fun jx => nI (len jx)))), (f2, .inl (ta.1, 72, .inl (fun jx => nI (ent jx)))), (f3, .inl (ta.1, 40, .inl (cnt))), (h5, .inr (4, [.ref l0, .int num])), (l0, .inr (3, [.ref l1, .ref l2, .ref l3])), (l1, .inl (ta.1, 6, .inl (fun jx => nI (len1 jx)))), (l2, .inl (ta.1, 72, .inl (fun jx => nI (ent1 jx)))), (l3, .inl (ta.1, 40, .inl (cnt1)))]) (lv2 := [(0, .ref h0), (1, .int (nI u))]) (pc2 := 13) (st2 := [.int (sp_b (us_b cnt cnt1 u))]) rfl ?_
        refine sw_if_ne (x := sp_b (us_b cnt cnt1 u)) (tgt := 18) G dXB_leastFree_13 (by decide) (fun br13 => ?_) (fun br13 => ?_)
        · refine sw_iinc (x := nI u) (v := nI (u + 1)) G dXB_leastFree_18 (q := 1) rfl (sp_inc _) (by decide) (lv' := [(1, .int (nI (u + 1))), (0, .ref h0)]) rfl ?_
          refine sw_goto (tgt := 2) G dXB_leastFree_21 (by decide) ?_
          refine sw_lv [1, 0] (lv' := [(0, .ref h0), (1, .int (nI (u + 1)))]) rfl ?_
          refine sw_eq (ws' := [(h0, .inr (5, [.ref h1, .int (nI sg), .ref h2, .ref h3, .ref h4, .ref h5, .ref h6, .ref h7])), (h4, .inr (3, [.ref f1, .ref f2, .ref f3])), (f1, .inl (ta.1, 6, .inl (fun jx => nI (len jx)))), (f2, .inl (ta.1, 72, .inl (fun jx => nI (ent jx)))), (f3, .inl (ta.1, 40, .inl (cnt))), (h5, .inr (4, [.ref l0, .int num])), (l0, .inr (3, [.ref l1, .ref l2, .ref l3])), (l1, .inl (ta.1, 6, .inl (fun jx => nI (len1 jx)))), (l2, .inl (ta.1, 72, .inl (fun jx => nI (ent1 jx)))), (l3, .inl (ta.1, 40, .inl (cnt1)))]) (lv2 := [(0, .ref h0), (1, .int (nI (u + 1)))]) (pc2 := 2) (st2 := []) (rfl) ?_
          exact ih2 (u + 1) (by omega) (by omega)
        · rw [hu u br5] at br13; exact absurd br13 (by decide)
  exact L2 _ 0 (Nat.lt_succ_self _) (Nat.zero_le _)

set_option maxRecDepth 100000 in
set_option maxHeartbeats 4000000 in
theorem c_XB_usedBlocks (l : Launch) (D : va_G) (ta : ClassId × ClassId × ClassId) (h0 : Nat) (h1 : Nat) (h2 : Nat) (h3 : Nat) (h4 : Nat) (h5 : Nat) (h6 : Nat) (h7 : Nat) (f1 : Nat) (f2 : Nat) (f3 : Nat) (l0 : Nat) (l1 : Nat) (l2 : Nat) (l3 : Nat) (sg : Nat) (len : Nat → Nat) (ent : Nat → Nat) (cnt : Nat → Int32) (num : Int32) (len1 : Nat → Nat) (ent1 : Nat → Nat) (cnt1 : Nat → Int32)  : sr l yXB_usedBlocks wsXB_usedBlocks ({ frames := 2, cells := 0, slots := 0, locals := 42 }) D ta [.ref h0] [(h0, .inr (5, [.ref h1, .int (nI sg), .ref h2, .ref h3, .ref h4, .ref h5, .ref h6, .ref h7])), (h4, .inr (3, [.ref f1, .ref f2, .ref f3])), (f1, .inl (ta.1, 6, .inl (fun jx => nI (len jx)))), (f2, .inl (ta.1, 72, .inl (fun jx => nI (ent jx)))), (f3, .inl (ta.1, 40, .inl (cnt))), (h5, .inr (4, [.ref l0, .int num])), (l0, .inr (3, [.ref l1, .ref l2, .ref l3])), (l1, .inl (ta.1, 6, .inl (fun jx => nI (len1 jx)))), (l2, .inl (ta.1, 72, .inl (fun jx => nI (ent1 jx)))), (l3, .inl (ta.1, 40, .inl (cnt1)))] (some (.int (nI (ct (us_b cnt cnt1) 40)))) := by
  refine sr_ofW (y := yXB_usedBlocks) (cc := cXB_usedBlocks) (nL := 3) (ret := (some .int)) (by decide) (Nat.le_of_ble_eq_true rfl) (fun p e s m below meth c G hr hlk hnm => ?_)
  refine sw_eq (ws' := [(h0, .inr (5, [.ref h1, .int (nI sg), .ref h2, .ref h3, .ref h4, .ref h5, .ref h6, .ref h7])), (h4, .inr (3, [.ref f1, .ref f2, .ref f3])), (f1, .inl (ta.1, 6, .inl (fun jx => nI (len jx)))), (f2, .inl (ta.1, 72, .inl (fun jx => nI (ent jx)))), (f3, .inl (ta.1, 40, .inl (cnt))), (h5, .inr (4, [.ref l0, .int num])), (l0, .inr (3, [.ref l1, .ref l2, .ref l3])), (l1, .inl (ta.1, 6, .inl (fun jx => nI (len1 jx)))), (l2, .inl (ta.1, 72, .inl (fun jx => nI (ent1 jx)))), (l3, .inl (ta.1, 40, .inl (cnt1)))]) (lv2 := [(0, .ref h0)]) (pc2 := 0) (st2 := []) rfl ?_
  refine sw_iconst (v := nI 0) G dXB_usedBlocks_0 (by decide) ?_
  refine sw_istore_n G dXB_usedBlocks_1 rfl (by decide) (lv' := [(1, .int (nI 0)), (0, .ref h0)]) rfl ?_
  refine sw_iconst (v := nI 0) G dXB_usedBlocks_2 (by decide) ?_
  refine sw_istore_n G dXB_usedBlocks_3 rfl (by decide) (lv' := [(2, .int (nI 0)), (1, .int (nI 0)), (0, .ref h0)]) rfl ?_
  refine sw_lv [2, 1, 0] (lv' := [(0, .ref h0), (1, .int (nI 0)), (2, .int (nI 0))]) rfl ?_
  have L4 : ∀ (NN : Nat) (b : Nat), 40 - b < NN → (b ≤ 40) → sw p l e ({ frames := 2, cells := 0, slots := 0, locals := 42 }) s m ([.ref h0]).toArray below meth c 3 D (va_A [(h0, .inr (5, [.ref h1, .int (nI sg), .ref h2, .ref h3, .ref h4, .ref h5, .ref h6, .ref h7])), (h4, .inr (3, [.ref f1, .ref f2, .ref f3])), (f1, .inl (ta.1, 6, .inl (fun jx => nI (len jx)))), (f2, .inl (ta.1, 72, .inl (fun jx => nI (ent jx)))), (f3, .inl (ta.1, 40, .inl (cnt))), (h5, .inr (4, [.ref l0, .int num])), (l0, .inr (3, [.ref l1, .ref l2, .ref l3])), (l1, .inl (ta.1, 6, .inl (fun jx => nI (len1 jx)))), (l2, .inl (ta.1, 72, .inl (fun jx => nI (ent1 jx)))), (l3, .inl (ta.1, 40, .inl (cnt1)))] s.heap.size) (MQ below (fun _ st_ oc_ t_ => oc_ = .returned (some (.int (nI (ct (us_b cnt cnt1) 40)))) ∧ t_.heap = st_.heap) ([.ref h0]).toArray s 0 0 (fun _ => False)) true 0 0 [(h0, .inr (5, [.ref h1, .int (nI sg), .ref h2, .ref h3, .ref h4, .ref h5, .ref h6, .ref h7])), (h4, .inr (3, [.ref f1, .ref f2, .ref f3])), (f1, .inl (ta.1, 6, .inl (fun jx => nI (len jx)))), (f2, .inl (ta.1, 72, .inl (fun jx => nI (ent jx)))), (f3, .inl (ta.1, 40, .inl (cnt))), (h5, .inr (4, [.ref l0, .int num])), (l0, .inr (3, [.ref l1, .ref l2, .ref l3])), (l1, .inl (ta.1, 6, .inl (fun jx => nI (len1 jx)))), (l2, .inl (ta.1, 72, .inl (fun jx => nI (ent1 jx)))), (l3, .inl (ta.1, 40, .inl (cnt1)))] [(0, .ref h0), (1, .int (nI (ct (us_b cnt cnt1) b))), (2, .int (nI b))] 4 [] := by
    intro NN
    induction NN with
    | zero => intro b hNN; exact absurd hNN (Nat.not_lt_zero _)
    | succ NN ih4 =>
      intro b hNN hb
      refine sw_iload_n G dXB_usedBlocks_4 rfl 2 rfl ?_
      refine sw_bipush (v := nI 40) G dXB_usedBlocks_5 (by decide) ?_
      refine sw_icmpN_ge (a := b) (b := 40) (tgt := 27) G dXB_usedBlocks_7 (by decide) (by omega) (by omega) (fun br7 => ?_) (fun br7 => ?_)
      · refine sw_iload_n G dXB_usedBlocks_27 rfl 1 rfl ?_
        exact sr_iret (x := nI (ct (us_b cnt cnt1) b)) G hr hlk (by rw [show b = 40 by omega]) dXB_usedBlocks_28
      · refine sw_aload_n G dXB_usedBlocks_10 rfl 0 rfl ?_
        refine sw_iload_n G dXB_usedBlocks_11 rfl 2 rfl ?_
        refine sw_readV (As := [.int (nI b)]) (rest := []) G (c_XB_isUsed l D ta h0 h1 h2 h3 h4 h5 h6 h7 f1 f2 f3 l0 l1 l2 l3 sg len ent cnt num len1 ent1 cnt1 b (by omega)) (cwV 1 G.2.2.2.2.1 (sb_goodV wd_182 wd_184 ws_XB_isUsed wd_1 wd_185) rfl rfl rfl (by decide +kernel) ⟨Nat.le_of_ble_eq_true rfl, Nat.le_of_ble_eq_true rfl⟩) 0 5 rfl rfl rfl rfl (Nat.le_of_ble_eq_true rfl) dXB_usedBlocks_12 ⟨Nat.le_of_ble_eq_true rfl, Nat.le_of_ble_eq_true rfl⟩ [0, 1, 2, 3, 4, 5, 6, 7, 8, 9] rfl (by decide) ?_
        refine sw_eq (ws' := [(h0, .inr (5, [.ref h1, .int (nI sg), .ref h2, .ref h3, .ref h4, .ref h5, .ref h6, .ref h7])), (h4, .inr (3, [.ref f1, .ref f2, .ref f3])), (f1, .inl (ta.1, 6, .inl (fun jx => nI (len jx)))), (f2, .inl (ta.1, 72, .inl (fun jx => nI (ent jx)))), (f3, .inl (ta.1, 40, .inl (cnt))), (h5, .inr (4, [.ref l0, .int num])), (l0, .inr (3, [.ref l1, .ref l2, .ref l3])), (l1, .inl (ta.1, 6, .inl (fun jx => nI (len1 jx)))), (l2, .inl (ta.1, 72, .inl (fun jx => nI (ent1 jx)))), (l3, .inl (ta.1, 40, .inl (cnt1)))]) (lv2 := [(0, .ref h0), (1, .int (nI (ct (us_b cnt cnt1) b))), (2, .int (nI b))]) (pc2 := 15) (st2 := [.int (sp_b (us_b cnt cnt1 b))]) rfl ?_
        refine sw_if_eq (x := sp_b (us_b cnt cnt1 b)) (tgt := 21) G dXB_usedBlocks_15 (by decide) (fun br15 => ?_) (fun br15 => ?_)
        · refine sw_iinc (x := nI b) (v := nI (b + 1)) G dXB_usedBlocks_21 (q := 2) rfl (sp_inc _) (by decide) (lv' := [(2, .int (nI (b + 1))), (0, .ref h0), (1, .int (nI (ct (us_b cnt cnt1) b)))]) rfl ?_
          refine sw_goto (tgt := 4) G dXB_usedBlocks_24 (by decide) ?_
          refine sw_lv [1, 2, 0] (lv' := [(0, .ref h0), (1, .int (nI (ct (us_b cnt cnt1) b))), (2, .int (nI (b + 1)))]) rfl ?_
          refine sw_eq (ws' := [(h0, .inr (5, [.ref h1, .int (nI sg), .ref h2, .ref h3, .ref h4, .ref h5, .ref h6, .ref h7])), (h4, .inr (3, [.ref f1, .ref f2, .ref f3])), (f1, .inl (ta.1, 6, .inl (fun jx => nI (len jx)))), (f2, .inl (ta.1, 72, .inl (fun jx => nI (ent jx)))), (f3, .inl (ta.1, 40, .inl (cnt))), (h5, .inr (4, [.ref l0, .int num])), (l0, .inr (3, [.ref l1, .ref l2, .ref l3])), (l1, .inl (ta.1, 6, .inl (fun jx => nI (len1 jx)))), (l2, .inl (ta.1, 72, .inl (fun jx => nI (ent1 jx)))), (l3, .inl (ta.1, 40, .inl (cnt1)))]) (lv2 := [(0, .ref h0), (1, .int (nI (ct (us_b cnt cnt1) (b + 1)))), (2, .int (nI (b + 1)))]) (pc2 := 4) (st2 := []) (by rw [ct_f ((sp_b_eq _).mp br15)]) ?_
          exact ih4 (b + 1) (by omega) (by omega)
        · refine sw_iinc (x := nI (ct (us_b cnt cnt1) b)) (v := nI ((ct (us_b cnt cnt1) b) + 1)) G dXB_usedBlocks_18 (q := 1) rfl (sp_inc _) (by decide) (lv' := [(1, .int (nI ((ct (us_b cnt cnt1) b) + 1))), (0, .ref h0), (2, .int (nI b))]) rfl ?_
          refine sw_iinc (x := nI b) (v := nI (b + 1)) G dXB_usedBlocks_21 (q := 2) rfl (sp_inc _) (by decide) (lv' := [(2, .int (nI (b + 1))), (1, .int (nI ((ct (us_b cnt cnt1) b) + 1))), (0, .ref h0)]) rfl ?_
          refine sw_goto (tgt := 4) G dXB_usedBlocks_24 (by decide) ?_
          refine sw_lv [2, 1, 0] (lv' := [(0, .ref h0), (1, .int (nI ((ct (us_b cnt cnt1) b) + 1))), (2, .int (nI (b + 1)))]) rfl ?_
          refine sw_eq (ws' := [(h0, .inr (5, [.ref h1, .int (nI sg), .ref h2, .ref h3, .ref h4, .ref h5, .ref h6, .ref h7])), (h4, .inr (3, [.ref f1, .ref f2, .ref f3])), (f1, .inl (ta.1, 6, .inl (fun jx => nI (len jx)))), (f2, .inl (ta.1, 72, .inl (fun jx => nI (ent jx)))), (f3, .inl (ta.1, 40, .inl (cnt))), (h5, .inr (4, [.ref l0, .int num])), (l0, .inr (3, [.ref l1, .ref l2, .ref l3])), (l1, .inl (ta.1, 6, .inl (fun jx => nI (len1 jx)))), (l2, .inl (ta.1, 72, .inl (fun jx => nI (ent1 jx)))), (l3, .inl (ta.1, 40, .inl (cnt1)))]) (lv2 := [(0, .ref h0), (1, .int (nI (ct (us_b cnt cnt1) (b + 1)))), (2, .int (nI (b + 1)))]) (pc2 := 4) (st2 := []) (by rw [ct_t ((sp_b_ne _).mp br15)]) ?_
          exact ih4 (b + 1) (by omega) (by omega)
  exact L4 _ 0 (Nat.lt_succ_self _) (Nat.zero_le _)

set_option maxRecDepth 100000 in
set_option maxHeartbeats 4000000 in
theorem c_XB_blocksOnlySaved (l : Launch) (D : va_G) (ta : ClassId × ClassId × ClassId) (h0 : Nat) (h1 : Nat) (h2 : Nat) (h3 : Nat) (h4 : Nat) (h5 : Nat) (h6 : Nat) (h7 : Nat) (f1 : Nat) (f2 : Nat) (f3 : Nat) (l0 : Nat) (l1 : Nat) (l2 : Nat) (l3 : Nat) (sg : Nat) (len : Nat → Nat) (ent : Nat → Nat) (cnt : Nat → Int32) (num : Int32) (len1 : Nat → Nat) (ent1 : Nat → Nat) (cnt1 : Nat → Int32)  : sr l yXB_blocksOnlySaved wsXB_blocksOnlySaved ({ frames := 1, cells := 0, slots := 0, locals := 21 }) D ta [.ref h0] [(h0, .inr (5, [.ref h1, .int (nI sg), .ref h2, .ref h3, .ref h4, .ref h5, .ref h6, .ref h7])), (h4, .inr (3, [.ref f1, .ref f2, .ref f3])), (f1, .inl (ta.1, 6, .inl (fun jx => nI (len jx)))), (f2, .inl (ta.1, 72, .inl (fun jx => nI (ent jx)))), (f3, .inl (ta.1, 40, .inl (cnt))), (h5, .inr (4, [.ref l0, .int num])), (l0, .inr (3, [.ref l1, .ref l2, .ref l3])), (l1, .inl (ta.1, 6, .inl (fun jx => nI (len1 jx)))), (l2, .inl (ta.1, 72, .inl (fun jx => nI (ent1 jx)))), (l3, .inl (ta.1, 40, .inl (cnt1)))] (some (.int (nI (ct (os_b cnt cnt1) 40)))) := by
  refine sr_ofW (y := yXB_blocksOnlySaved) (cc := cXB_blocksOnlySaved) (nL := 3) (ret := (some .int)) (by decide) (Nat.le_of_ble_eq_true rfl) (fun p e s m below meth c G hr hlk hnm => ?_)
  refine sw_eq (ws' := [(h0, .inr (5, [.ref h1, .int (nI sg), .ref h2, .ref h3, .ref h4, .ref h5, .ref h6, .ref h7])), (h4, .inr (3, [.ref f1, .ref f2, .ref f3])), (f1, .inl (ta.1, 6, .inl (fun jx => nI (len jx)))), (f2, .inl (ta.1, 72, .inl (fun jx => nI (ent jx)))), (f3, .inl (ta.1, 40, .inl (cnt))), (h5, .inr (4, [.ref l0, .int num])), (l0, .inr (3, [.ref l1, .ref l2, .ref l3])), (l1, .inl (ta.1, 6, .inl (fun jx => nI (len1 jx)))), (l2, .inl (ta.1, 72, .inl (fun jx => nI (ent1 jx)))), (l3, .inl (ta.1, 40, .inl (cnt1)))]) (lv2 := [(0, .ref h0)]) (pc2 := 0) (st2 := []) rfl ?_
  refine sw_iconst (v := nI 0) G dXB_blocksOnlySaved_0 (by decide) ?_
  refine sw_istore_n G dXB_blocksOnlySaved_1 rfl (by decide) (lv' := [(1, .int (nI 0)), (0, .ref h0)]) rfl ?_
  refine sw_iconst (v := nI 0) G dXB_blocksOnlySaved_2 (by decide) ?_
  refine sw_istore_n G dXB_blocksOnlySaved_3 rfl (by decide) (lv' := [(2, .int (nI 0)), (1, .int (nI 0)), (0, .ref h0)]) rfl ?_
  refine sw_lv [2, 1, 0] (lv' := [(0, .ref h0), (1, .int (nI 0)), (2, .int (nI 0))]) rfl ?_
  have L4 : ∀ (NN : Nat) (b : Nat), 40 - b < NN → (b ≤ 40) → sw p l e ({ frames := 1, cells := 0, slots := 0, locals := 21 }) s m ([.ref h0]).toArray below meth c 3 D (va_A [(h0, .inr (5, [.ref h1, .int (nI sg), .ref h2, .ref h3, .ref h4, .ref h5, .ref h6, .ref h7])), (h4, .inr (3, [.ref f1, .ref f2, .ref f3])), (f1, .inl (ta.1, 6, .inl (fun jx => nI (len jx)))), (f2, .inl (ta.1, 72, .inl (fun jx => nI (ent jx)))), (f3, .inl (ta.1, 40, .inl (cnt))), (h5, .inr (4, [.ref l0, .int num])), (l0, .inr (3, [.ref l1, .ref l2, .ref l3])), (l1, .inl (ta.1, 6, .inl (fun jx => nI (len1 jx)))), (l2, .inl (ta.1, 72, .inl (fun jx => nI (ent1 jx)))), (l3, .inl (ta.1, 40, .inl (cnt1)))] s.heap.size) (MQ below (fun _ st_ oc_ t_ => oc_ = .returned (some (.int (nI (ct (os_b cnt cnt1) 40)))) ∧ t_.heap = st_.heap) ([.ref h0]).toArray s 0 0 (fun _ => False)) true 0 0 [(h0, .inr (5, [.ref h1, .int (nI sg), .ref h2, .ref h3, .ref h4, .ref h5, .ref h6, .ref h7])), (h4, .inr (3, [.ref f1, .ref f2, .ref f3])), (f1, .inl (ta.1, 6, .inl (fun jx => nI (len jx)))), (f2, .inl (ta.1, 72, .inl (fun jx => nI (ent jx)))), (f3, .inl (ta.1, 40, .inl (cnt))), (h5, .inr (4, [.ref l0, .int num])), (l0, .inr (3, [.ref l1, .ref l2, .ref l3])), (l1, .inl (ta.1, 6, .inl (fun jx => nI (len1 jx)))), (l2, .inl (ta.1, 72, .inl (fun jx => nI (ent1 jx)))), (l3, .inl (ta.1, 40, .inl (cnt1)))] [(0, .ref h0), (1, .int (nI (ct (os_b cnt cnt1) b))), (2, .int (nI b))] 4 [] := by
    intro NN
    induction NN with
    | zero => intro b hNN; exact absurd hNN (Nat.not_lt_zero _)
    | succ NN ih4 =>
      intro b hNN hb
      refine sw_iload_n G dXB_blocksOnlySaved_4 rfl 2 rfl ?_
      refine sw_bipush (v := nI 40) G dXB_blocksOnlySaved_5 (by decide) ?_
      refine sw_icmpN_ge (a := b) (b := 40) (tgt := 44) G dXB_blocksOnlySaved_7 (by decide) (by omega) (by omega) (fun br7 => ?_) (fun br7 => ?_)
      · refine sw_iload_n G dXB_blocksOnlySaved_44 rfl 1 rfl ?_
        exact sr_iret (x := nI (ct (os_b cnt cnt1) b)) G hr hlk (by rw [show b = 40 by omega]) dXB_blocksOnlySaved_45
      · refine sw_aload_n G dXB_blocksOnlySaved_10 rfl 0 rfl ?_
        refine sw_get (C := RXB) (T := TXB) (ref := RXB) (N := 8) G inXB 0 rfl rfl 5 (by decide) wd_114 rfl rfl dXB_blocksOnlySaved_11 ?_
        refine sw_readV (As := []) (rest := []) G (c_XS_rows l D ta h5 l0 num ) (cwV 0 G.2.2.2.2.1 (sb_goodV wd_150 wd_151 wd_152 wd_6 wd_153) rfl rfl rfl (by decide +kernel) ⟨Nat.le_of_ble_eq_true rfl, Nat.le_of_ble_eq_true rfl⟩) 5 4 rfl rfl rfl rfl (Nat.le_of_ble_eq_true rfl) dXB_blocksOnlySaved_14 ⟨Nat.le_of_ble_eq_true rfl, Nat.le_of_ble_eq_true rfl⟩ [5] rfl (by decide) ?_
        refine sw_eq (ws' := [(h0, .inr (5, [.ref h1, .int (nI sg), .ref h2, .ref h3, .ref h4, .ref h5, .ref h6, .ref h7])), (h4, .inr (3, [.ref f1, .ref f2, .ref f3])), (f1, .inl (ta.1, 6, .inl (fun jx => nI (len jx)))), (f2, .inl (ta.1, 72, .inl (fun jx => nI (ent jx)))), (f3, .inl (ta.1, 40, .inl (cnt))), (h5, .inr (4, [.ref l0, .int num])), (l0, .inr (3, [.ref l1, .ref l2, .ref l3])), (l1, .inl (ta.1, 6, .inl (fun jx => nI (len1 jx)))), (l2, .inl (ta.1, 72, .inl (fun jx => nI (ent1 jx)))), (l3, .inl (ta.1, 40, .inl (cnt1)))]) (lv2 := [(0, .ref h0), (1, .int (nI (ct (os_b cnt cnt1) b))), (2, .int (nI b))]) (pc2 := 17) (st2 := [.ref l0]) rfl ?_
        refine sw_iload_n G dXB_blocksOnlySaved_17 rfl 2 rfl ?_
        refine sw_readV (As := [.int (nI b)]) (rest := []) G (c_XR_have l D ta l0 l1 l2 l3 len1 ent1 cnt1 b (by omega)) (cwV 1 G.2.2.2.2.1 (sb_goodV wd_186 wd_187 wd_188 wd_5 wd_189) rfl rfl rfl (by decide +kernel) ⟨Nat.le_of_ble_eq_true rfl, Nat.le_of_ble_eq_true rfl⟩) 6 3 rfl rfl rfl rfl (Nat.le_of_ble_eq_true rfl) dXB_blocksOnlySaved_18 ⟨Nat.le_of_ble_eq_true rfl, Nat.le_of_ble_eq_true rfl⟩ [6, 7, 8, 9] rfl (by decide) ?_
        refine sw_eq (ws' := [(h0, .inr (5, [.ref h1, .int (nI sg), .ref h2, .ref h3, .ref h4, .ref h5, .ref h6, .ref h7])), (h4, .inr (3, [.ref f1, .ref f2, .ref f3])), (f1, .inl (ta.1, 6, .inl (fun jx => nI (len jx)))), (f2, .inl (ta.1, 72, .inl (fun jx => nI (ent jx)))), (f3, .inl (ta.1, 40, .inl (cnt))), (h5, .inr (4, [.ref l0, .int num])), (l0, .inr (3, [.ref l1, .ref l2, .ref l3])), (l1, .inl (ta.1, 6, .inl (fun jx => nI (len1 jx)))), (l2, .inl (ta.1, 72, .inl (fun jx => nI (ent1 jx)))), (l3, .inl (ta.1, 40, .inl (cnt1)))]) (lv2 := [(0, .ref h0), (1, .int (nI (ct (os_b cnt cnt1) b))), (2, .int (nI b))]) (pc2 := 21) (st2 := [.int (sp_b (decide (0 < cnt1 b)))]) rfl ?_
        refine sw_if_eq (x := sp_b (decide (0 < cnt1 b))) (tgt := 38) G dXB_blocksOnlySaved_21 (by decide) (fun br21 => ?_) (fun br21 => ?_)
        · refine sw_iinc (x := nI b) (v := nI (b + 1)) G dXB_blocksOnlySaved_38 (q := 2) rfl (sp_inc _) (by decide) (lv' := [(2, .int (nI (b + 1))), (0, .ref h0), (1, .int (nI (ct (os_b cnt cnt1) b)))]) rfl ?_
          refine sw_goto (tgt := 4) G dXB_blocksOnlySaved_41 (by decide) ?_
          refine sw_lv [1, 2, 0] (lv' := [(0, .ref h0), (1, .int (nI (ct (os_b cnt cnt1) b))), (2, .int (nI (b + 1)))]) rfl ?_
          refine sw_eq (ws' := [(h0, .inr (5, [.ref h1, .int (nI sg), .ref h2, .ref h3, .ref h4, .ref h5, .ref h6, .ref h7])), (h4, .inr (3, [.ref f1, .ref f2, .ref f3])), (f1, .inl (ta.1, 6, .inl (fun jx => nI (len jx)))), (f2, .inl (ta.1, 72, .inl (fun jx => nI (ent jx)))), (f3, .inl (ta.1, 40, .inl (cnt))), (h5, .inr (4, [.ref l0, .int num])), (l0, .inr (3, [.ref l1, .ref l2, .ref l3])), (l1, .inl (ta.1, 6, .inl (fun jx => nI (len1 jx)))), (l2, .inl (ta.1, 72, .inl (fun jx => nI (ent1 jx)))), (l3, .inl (ta.1, 40, .inl (cnt1)))]) (lv2 := [(0, .ref h0), (1, .int (nI (ct (os_b cnt cnt1) (b + 1)))), (2, .int (nI (b + 1)))]) (pc2 := 4) (st2 := []) (by rw [ct_f (show os_b cnt cnt1 b = false by rw [os_b, (sp_b_eq _).mp br21] <;> rfl)]) ?_
          exact ih4 (b + 1) (by omega) (by omega)
        · refine sw_aload_n G dXB_blocksOnlySaved_24 rfl 0 rfl ?_
          refine sw_get (C := RXB) (T := TXB) (ref := RXB) (N := 8) G inXB 0 rfl rfl 4 (by decide) wd_113 rfl rfl dXB_blocksOnlySaved_25 ?_
          refine sw_iload_n G dXB_blocksOnlySaved_28 rfl 2 rfl ?_
          refine sw_readV (As := [.int (nI b)]) (rest := []) G (c_XR_have l D ta h4 f1 f2 f3 len ent cnt b (by omega)) (cwV 1 G.2.2.2.2.1 (sb_goodV wd_186 wd_187 wd_188 wd_5 wd_189) rfl rfl rfl (by decide +kernel) ⟨Nat.le_of_ble_eq_true rfl, Nat.le_of_ble_eq_true rfl⟩) 1 3 rfl rfl rfl rfl (Nat.le_of_ble_eq_true rfl) dXB_blocksOnlySaved_29 ⟨Nat.le_of_ble_eq_true rfl, Nat.le_of_ble_eq_true rfl⟩ [1, 2, 3, 4] rfl (by decide) ?_
          refine sw_eq (ws' := [(h0, .inr (5, [.ref h1, .int (nI sg), .ref h2, .ref h3, .ref h4, .ref h5, .ref h6, .ref h7])), (h4, .inr (3, [.ref f1, .ref f2, .ref f3])), (f1, .inl (ta.1, 6, .inl (fun jx => nI (len jx)))), (f2, .inl (ta.1, 72, .inl (fun jx => nI (ent jx)))), (f3, .inl (ta.1, 40, .inl (cnt))), (h5, .inr (4, [.ref l0, .int num])), (l0, .inr (3, [.ref l1, .ref l2, .ref l3])), (l1, .inl (ta.1, 6, .inl (fun jx => nI (len1 jx)))), (l2, .inl (ta.1, 72, .inl (fun jx => nI (ent1 jx)))), (l3, .inl (ta.1, 40, .inl (cnt1)))]) (lv2 := [(0, .ref h0), (1, .int (nI (ct (os_b cnt cnt1) b))), (2, .int (nI b))]) (pc2 := 32) (st2 := [.int (sp_b (decide (0 < cnt b)))]) rfl ?_
          refine sw_if_ne (x := sp_b (decide (0 < cnt b))) (tgt := 38) G dXB_blocksOnlySaved_32 (by decide) (fun br32 => ?_) (fun br32 => ?_)
          · refine sw_iinc (x := nI b) (v := nI (b + 1)) G dXB_blocksOnlySaved_38 (q := 2) rfl (sp_inc _) (by decide) (lv' := [(2, .int (nI (b + 1))), (0, .ref h0), (1, .int (nI (ct (os_b cnt cnt1) b)))]) rfl ?_
            refine sw_goto (tgt := 4) G dXB_blocksOnlySaved_41 (by decide) ?_
            refine sw_lv [1, 2, 0] (lv' := [(0, .ref h0), (1, .int (nI (ct (os_b cnt cnt1) b))), (2, .int (nI (b + 1)))]) rfl ?_
            refine sw_eq (ws' := [(h0, .inr (5, [.ref h1, .int (nI sg), .ref h2, .ref h3, .ref h4, .ref h5, .ref h6, .ref h7])), (h4, .inr (3, [.ref f1, .ref f2, .ref f3])), (f1, .inl (ta.1, 6, .inl (fun jx => nI (len jx)))), (f2, .inl (ta.1, 72, .inl (fun jx => nI (ent jx)))), (f3, .inl (ta.1, 40, .inl (cnt))), (h5, .inr (4, [.ref l0, .int num])), (l0, .inr (3, [.ref l1, .ref l2, .ref l3])), (l1, .inl (ta.1, 6, .inl (fun jx => nI (len1 jx)))), (l2, .inl (ta.1, 72, .inl (fun jx => nI (ent1 jx)))), (l3, .inl (ta.1, 40, .inl (cnt1)))]) (lv2 := [(0, .ref h0), (1, .int (nI (ct (os_b cnt cnt1) (b + 1)))), (2, .int (nI (b + 1)))]) (pc2 := 4) (st2 := []) (by rw [ct_f (show os_b cnt cnt1 b = false by rw [os_b, (sp_b_ne _).mp br21, (sp_b_ne _).mp br32] <;> rfl)]) ?_
            exact ih4 (b + 1) (by omega) (by omega)
          · refine sw_iinc (x := nI (ct (os_b cnt cnt1) b)) (v := nI ((ct (os_b cnt cnt1) b) + 1)) G dXB_blocksOnlySaved_35 (q := 1) rfl (sp_inc _) (by decide) (lv' := [(1, .int (nI ((ct (os_b cnt cnt1) b) + 1))), (0, .ref h0), (2, .int (nI b))]) rfl ?_
            refine sw_iinc (x := nI b) (v := nI (b + 1)) G dXB_blocksOnlySaved_38 (q := 2) rfl (sp_inc _) (by decide) (lv' := [(2, .int (nI (b + 1))), (1, .int (nI ((ct (os_b cnt cnt1) b) + 1))), (0, .ref h0)]) rfl ?_
            refine sw_goto (tgt := 4) G dXB_blocksOnlySaved_41 (by decide) ?_
            refine sw_lv [2, 1, 0] (lv' := [(0, .ref h0), (1, .int (nI ((ct (os_b cnt cnt1) b) + 1))), (2, .int (nI (b + 1)))]) rfl ?_
            refine sw_eq (ws' := [(h0, .inr (5, [.ref h1, .int (nI sg), .ref h2, .ref h3, .ref h4, .ref h5, .ref h6, .ref h7])), (h4, .inr (3, [.ref f1, .ref f2, .ref f3])), (f1, .inl (ta.1, 6, .inl (fun jx => nI (len jx)))), (f2, .inl (ta.1, 72, .inl (fun jx => nI (ent jx)))), (f3, .inl (ta.1, 40, .inl (cnt))), (h5, .inr (4, [.ref l0, .int num])), (l0, .inr (3, [.ref l1, .ref l2, .ref l3])), (l1, .inl (ta.1, 6, .inl (fun jx => nI (len1 jx)))), (l2, .inl (ta.1, 72, .inl (fun jx => nI (ent1 jx)))), (l3, .inl (ta.1, 40, .inl (cnt1)))]) (lv2 := [(0, .ref h0), (1, .int (nI (ct (os_b cnt cnt1) (b + 1)))), (2, .int (nI (b + 1)))]) (pc2 := 4) (st2 := []) (by rw [ct_t (show os_b cnt cnt1 b = true by rw [os_b, (sp_b_ne _).mp br21, (sp_b_eq _).mp br32] <;> rfl)]) ?_
            exact ih4 (b + 1) (by omega) (by omega)
  exact L4 _ 0 (Nat.lt_succ_self _) (Nat.zero_le _)

set_option maxRecDepth 100000 in
set_option maxHeartbeats 4000000 in
theorem c_XB_takeOutFree (l : Launch) (D : va_G) (ta : ClassId × ClassId × ClassId) (h0 : Nat) (h1 : Nat) (h2 : Nat) (h3 : Nat) (h4 : Nat) (h5 : Nat) (h6 : Nat) (h7 : Nat) (d1 : Nat) (i1 : Nat) (i2 : Nat) (f1 : Nat) (f2 : Nat) (f3 : Nat) (l0 : Nat) (l1 : Nat) (l2 : Nat) (l3 : Nat) (sg : Nat) (w : Nat → Int32) (gate : Int64) (probed : Int32) (cel : Nat → Option Nat) (pos : Nat → Option Nat) (len : Nat → Nat) (ent : Nat → Nat) (cnt : Nat → Int32) (num : Int32) (len1 : Nat → Nat) (ent1 : Nat → Nat) (cnt1 : Nat → Int32) (hT : ix_T cel pos (hmN w)) : sm (S := Unit) l yXB_takeOutFree wsXB_takeOutFree ({ frames := 5, cells := 0, slots := 0, locals := 114 }) D ta [.ref h0] [(h0, .inr (5, [.ref h1, .int (nI sg), .ref h2, .ref h3, .ref h4, .ref h5, .ref h6, .ref h7])), (h2, .inr (0, [.ref d1])), (d1, .inl (ta.1, 160, .inl (w))), (h3, .inr (1, [.ref h2, .ref i1, .ref i2, .long gate, .int probed])), (i1, .inl (ta.1, 64, .inl (fun jx => sp_o (cel jx)))), (i2, .inl (ta.1, 40, .inl (fun jx => sp_o (pos jx)))), (h4, .inr (3, [.ref f1, .ref f2, .ref f3])), (f1, .inl (ta.1, 6, .inl (fun jx => nI (len jx)))), (f2, .inl (ta.1, 72, .inl (fun jx => nI (ent jx)))), (f3, .inl (ta.1, 40, .inl (cnt))), (h5, .inr (4, [.ref l0, .int num])), (l0, .inr (3, [.ref l1, .ref l2, .ref l3])), (l1, .inl (ta.1, 6, .inl (fun jx => nI (len1 jx)))), (l2, .inl (ta.1, 72, .inl (fun jx => nI (ent1 jx)))), (l3, .inl (ta.1, 40, .inl (cnt1)))] (fun _ => True) (fun _ => some (.int (nI ((tk (hmN w) (us_b cnt cnt1) cel pos 40).2)))) (fun _ => [(h0, .inr (5, [.ref h1, .int (nI sg), .ref h2, .ref h3, .ref h4, .ref h5, .ref h6, .ref h7])), (h2, .inr (0, [.ref d1])), (d1, .inl (ta.1, 160, .inl (w))), (h3, .inr (1, [.ref h2, .ref i1, .ref i2, .long gate, .int probed])), (i1, .inl (ta.1, 64, .inl (fun jx => sp_o (((tk (hmN w) (us_b cnt cnt1) cel pos 40).1.1) jx)))), (i2, .inl (ta.1, 40, .inl (fun jx => sp_o (((tk (hmN w) (us_b cnt cnt1) cel pos 40).1.2) jx)))), (h4, .inr (3, [.ref f1, .ref f2, .ref f3])), (f1, .inl (ta.1, 6, .inl (fun jx => nI (len jx)))), (f2, .inl (ta.1, 72, .inl (fun jx => nI (ent jx)))), (f3, .inl (ta.1, 40, .inl (cnt))), (h5, .inr (4, [.ref l0, .int num])), (l0, .inr (3, [.ref l1, .ref l2, .ref l3])), (l1, .inl (ta.1, 6, .inl (fun jx => nI (len1 jx)))), (l2, .inl (ta.1, 72, .inl (fun jx => nI (ent1 jx)))), (l3, .inl (ta.1, 40, .inl (cnt1)))]) := by
  refine sm_ofW (y := yXB_takeOutFree) (cc := cXB_takeOutFree) (nL := 3) (ret := (some .int)) (by decide) (Nat.le_of_ble_eq_true rfl) (fun p e s m below meth c G hr hlk hnm => ?_)
  refine sw_eq (ws' := [(h0, .inr (5, [.ref h1, .int (nI sg), .ref h2, .ref h3, .ref h4, .ref h5, .ref h6, .ref h7])), (h2, .inr (0, [.ref d1])), (d1, .inl (ta.1, 160, .inl (w))), (h3, .inr (1, [.ref h2, .ref i1, .ref i2, .long gate, .int probed])), (i1, .inl (ta.1, 64, .inl (fun jx => sp_o (cel jx)))), (i2, .inl (ta.1, 40, .inl (fun jx => sp_o (pos jx)))), (h4, .inr (3, [.ref f1, .ref f2, .ref f3])), (f1, .inl (ta.1, 6, .inl (fun jx => nI (len jx)))), (f2, .inl (ta.1, 72, .inl (fun jx => nI (ent jx)))), (f3, .inl (ta.1, 40, .inl (cnt))), (h5, .inr (4, [.ref l0, .int num])), (l0, .inr (3, [.ref l1, .ref l2, .ref l3])), (l1, .inl (ta.1, 6, .inl (fun jx => nI (len1 jx)))), (l2, .inl (ta.1, 72, .inl (fun jx => nI (ent1 jx)))), (l3, .inl (ta.1, 40, .inl (cnt1)))]) (lv2 := [(0, .ref h0)]) (pc2 := 0) (st2 := []) rfl ?_
  refine sw_iconst (v := nI 0) G dXB_takeOutFree_0 (by decide) ?_
  refine sw_istore_n G dXB_takeOutFree_1 rfl (by decide) (lv' := [(1, .int (nI 0)), (0, .ref h0)]) rfl ?_
  refine sw_iconst (v := nI 0) G dXB_takeOutFree_2 (by decide) ?_
  refine sw_istore_n G dXB_takeOutFree_3 rfl (by decide) (lv' := [(2, .int (nI 0)), (1, .int (nI 0)), (0, .ref h0)]) rfl ?_
  refine sw_z ?_
  refine sw_lv [2, 1, 0] (lv' := [(0, .ref h0), (1, .int (nI 0)), (2, .int (nI 0))]) rfl ?_
  have L4 : ∀ (NN : Nat) (b : Nat), 40 - b < NN → (b ≤ 40) → sw p l e ({ frames := 5, cells := 0, slots := 0, locals := 114 }) s m ([.ref h0]).toArray below meth c 3 D (va_A [(h0, .inr (5, [.ref h1, .int (nI sg), .ref h2, .ref h3, .ref h4, .ref h5, .ref h6, .ref h7])), (h2, .inr (0, [.ref d1])), (d1, .inl (ta.1, 160, .inl (w))), (h3, .inr (1, [.ref h2, .ref i1, .ref i2, .long gate, .int probed])), (i1, .inl (ta.1, 64, .inl (fun jx => sp_o (cel jx)))), (i2, .inl (ta.1, 40, .inl (fun jx => sp_o (pos jx)))), (h4, .inr (3, [.ref f1, .ref f2, .ref f3])), (f1, .inl (ta.1, 6, .inl (fun jx => nI (len jx)))), (f2, .inl (ta.1, 72, .inl (fun jx => nI (ent jx)))), (f3, .inl (ta.1, 40, .inl (cnt))), (h5, .inr (4, [.ref l0, .int num])), (l0, .inr (3, [.ref l1, .ref l2, .ref l3])), (l1, .inl (ta.1, 6, .inl (fun jx => nI (len1 jx)))), (l2, .inl (ta.1, 72, .inl (fun jx => nI (ent1 jx)))), (l3, .inl (ta.1, 40, .inl (cnt1)))] s.heap.size) (MQ below (sb_Q D ta [(h0, .inr (5, [.ref h1, .int (nI sg), .ref h2, .ref h3, .ref h4, .ref h5, .ref h6, .ref h7])), (h2, .inr (0, [.ref d1])), (d1, .inl (ta.1, 160, .inl (w))), (h3, .inr (1, [.ref h2, .ref i1, .ref i2, .long gate, .int probed])), (i1, .inl (ta.1, 64, .inl (fun jx => sp_o (cel jx)))), (i2, .inl (ta.1, 40, .inl (fun jx => sp_o (pos jx)))), (h4, .inr (3, [.ref f1, .ref f2, .ref f3])), (f1, .inl (ta.1, 6, .inl (fun jx => nI (len jx)))), (f2, .inl (ta.1, 72, .inl (fun jx => nI (ent jx)))), (f3, .inl (ta.1, 40, .inl (cnt))), (h5, .inr (4, [.ref l0, .int num])), (l0, .inr (3, [.ref l1, .ref l2, .ref l3])), (l1, .inl (ta.1, 6, .inl (fun jx => nI (len1 jx)))), (l2, .inl (ta.1, 72, .inl (fun jx => nI (ent1 jx)))), (l3, .inl (ta.1, 40, .inl (cnt1)))] s.heap.size (fun _ : Unit => True) (fun _ => some (.int (nI ((tk (hmN w) (us_b cnt cnt1) cel pos 40).2)))) (fun _ => [(h0, .inr (5, [.ref h1, .int (nI sg), .ref h2, .ref h3, .ref h4, .ref h5, .ref h6, .ref h7])), (h2, .inr (0, [.ref d1])), (d1, .inl (ta.1, 160, .inl (w))), (h3, .inr (1, [.ref h2, .ref i1, .ref i2, .long gate, .int probed])), (i1, .inl (ta.1, 64, .inl (fun jx => sp_o (((tk (hmN w) (us_b cnt cnt1) cel pos 40).1.1) jx)))), (i2, .inl (ta.1, 40, .inl (fun jx => sp_o (((tk (hmN w) (us_b cnt cnt1) cel pos 40).1.2) jx)))), (h4, .inr (3, [.ref f1, .ref f2, .ref f3])), (f1, .inl (ta.1, 6, .inl (fun jx => nI (len jx)))), (f2, .inl (ta.1, 72, .inl (fun jx => nI (ent jx)))), (f3, .inl (ta.1, 40, .inl (cnt))), (h5, .inr (4, [.ref l0, .int num])), (l0, .inr (3, [.ref l1, .ref l2, .ref l3])), (l1, .inl (ta.1, 6, .inl (fun jx => nI (len1 jx)))), (l2, .inl (ta.1, 72, .inl (fun jx => nI (ent1 jx)))), (l3, .inl (ta.1, 40, .inl (cnt1)))])) ([.ref h0]).toArray s 0 0 (va_A [(h0, .inr (5, [.ref h1, .int (nI sg), .ref h2, .ref h3, .ref h4, .ref h5, .ref h6, .ref h7])), (h2, .inr (0, [.ref d1])), (d1, .inl (ta.1, 160, .inl (w))), (h3, .inr (1, [.ref h2, .ref i1, .ref i2, .long gate, .int probed])), (i1, .inl (ta.1, 64, .inl (fun jx => sp_o (cel jx)))), (i2, .inl (ta.1, 40, .inl (fun jx => sp_o (pos jx)))), (h4, .inr (3, [.ref f1, .ref f2, .ref f3])), (f1, .inl (ta.1, 6, .inl (fun jx => nI (len jx)))), (f2, .inl (ta.1, 72, .inl (fun jx => nI (ent jx)))), (f3, .inl (ta.1, 40, .inl (cnt))), (h5, .inr (4, [.ref l0, .int num])), (l0, .inr (3, [.ref l1, .ref l2, .ref l3])), (l1, .inl (ta.1, 6, .inl (fun jx => nI (len1 jx)))), (l2, .inl (ta.1, 72, .inl (fun jx => nI (ent1 jx)))), (l3, .inl (ta.1, 40, .inl (cnt1)))] s.heap.size)) false 0 0 [(h0, .inr (5, [.ref h1, .int (nI sg), .ref h2, .ref h3, .ref h4, .ref h5, .ref h6, .ref h7])), (h2, .inr (0, [.ref d1])), (d1, .inl (ta.1, 160, .inl (w))), (h3, .inr (1, [.ref h2, .ref i1, .ref i2, .long gate, .int probed])), (i1, .inl (ta.1, 64, .inl (fun jx => sp_o (((tk (hmN w) (us_b cnt cnt1) cel pos b).1.1) jx)))), (i2, .inl (ta.1, 40, .inl (fun jx => sp_o (((tk (hmN w) (us_b cnt cnt1) cel pos b).1.2) jx)))), (h4, .inr (3, [.ref f1, .ref f2, .ref f3])), (f1, .inl (ta.1, 6, .inl (fun jx => nI (len jx)))), (f2, .inl (ta.1, 72, .inl (fun jx => nI (ent jx)))), (f3, .inl (ta.1, 40, .inl (cnt))), (h5, .inr (4, [.ref l0, .int num])), (l0, .inr (3, [.ref l1, .ref l2, .ref l3])), (l1, .inl (ta.1, 6, .inl (fun jx => nI (len1 jx)))), (l2, .inl (ta.1, 72, .inl (fun jx => nI (ent1 jx)))), (l3, .inl (ta.1, 40, .inl (cnt1)))] [(0, .ref h0), (1, .int (nI ((tk (hmN w) (us_b cnt cnt1) cel pos b).2))), (2, .int (nI b))] 4 [] := by
    intro NN
    induction NN with
    | zero => intro b hNN; exact absurd hNN (Nat.not_lt_zero _)
    | succ NN ih4 =>
      intro b hNN hb
      have hTb := tk_T (us := us_b cnt cnt1) (fun b => hmN_lt w b) hT b
      refine sw_iload_n G dXB_takeOutFree_4 rfl 2 rfl ?_
      refine sw_bipush (v := nI 40) G dXB_takeOutFree_5 (by decide) ?_
      refine sw_icmpN_ge (a := b) (b := 40) (tgt := 38) G dXB_takeOutFree_7 (by decide) (by omega) (by omega) (fun br7 => ?_) (fun br7 => ?_)
      · refine sw_iload_n G dXB_takeOutFree_38 rfl 1 rfl ?_
        refine sw_sub [0, 1, 2, 3, 4, 5, 6, 7, 8, 9, 10, 11, 12, 13, 14] (by decide) (ws' := [(h0, .inr (5, [.ref h1, .int (nI sg), .ref h2, .ref h3, .ref h4, .ref h5, .ref h6, .ref h7])), (h2, .inr (0, [.ref d1])), (d1, .inl (ta.1, 160, .inl (w))), (h3, .inr (1, [.ref h2, .ref i1, .ref i2, .long gate, .int probed])), (i1, .inl (ta.1, 64, .inl (fun jx => sp_o (((tk (hmN w) (us_b cnt cnt1) cel pos b).1.1) jx)))), (i2, .inl (ta.1, 40, .inl (fun jx => sp_o (((tk (hmN w) (us_b cnt cnt1) cel pos b).1.2) jx)))), (h4, .inr (3, [.ref f1, .ref f2, .ref f3])), (f1, .inl (ta.1, 6, .inl (fun jx => nI (len jx)))), (f2, .inl (ta.1, 72, .inl (fun jx => nI (ent jx)))), (f3, .inl (ta.1, 40, .inl (cnt))), (h5, .inr (4, [.ref l0, .int num])), (l0, .inr (3, [.ref l1, .ref l2, .ref l3])), (l1, .inl (ta.1, 6, .inl (fun jx => nI (len1 jx)))), (l2, .inl (ta.1, 72, .inl (fun jx => nI (ent1 jx)))), (l3, .inl (ta.1, 40, .inl (cnt1)))]) rfl rfl ?_
        refine sw_eq (ws' := [(h0, .inr (5, [.ref h1, .int (nI sg), .ref h2, .ref h3, .ref h4, .ref h5, .ref h6, .ref h7])), (h2, .inr (0, [.ref d1])), (d1, .inl (ta.1, 160, .inl (w))), (h3, .inr (1, [.ref h2, .ref i1, .ref i2, .long gate, .int probed])), (i1, .inl (ta.1, 64, .inl (fun jx => sp_o (((tk (hmN w) (us_b cnt cnt1) cel pos 40).1.1) jx)))), (i2, .inl (ta.1, 40, .inl (fun jx => sp_o (((tk (hmN w) (us_b cnt cnt1) cel pos 40).1.2) jx)))), (h4, .inr (3, [.ref f1, .ref f2, .ref f3])), (f1, .inl (ta.1, 6, .inl (fun jx => nI (len jx)))), (f2, .inl (ta.1, 72, .inl (fun jx => nI (ent jx)))), (f3, .inl (ta.1, 40, .inl (cnt))), (h5, .inr (4, [.ref l0, .int num])), (l0, .inr (3, [.ref l1, .ref l2, .ref l3])), (l1, .inl (ta.1, 6, .inl (fun jx => nI (len1 jx)))), (l2, .inl (ta.1, 72, .inl (fun jx => nI (ent1 jx)))), (l3, .inl (ta.1, 40, .inl (cnt1)))]) (lv2 := [(0, .ref h0), (1, .int (nI ((tk (hmN w) (us_b cnt cnt1) cel pos b).2))), (2, .int (nI b))]) (pc2 := 39) (st2 := [.int (nI ((tk (hmN w) (us_b cnt cnt1) cel pos b).2))]) (by rw [show b = 40 by omega]) ?_
        exact sw_iret (x := nI ((tk (hmN w) (us_b cnt cnt1) cel pos b).2)) G hr hlk () trivial (by rw [show b = 40 by omega]) [0, 1, 2, 3, 4, 5, 6, 7, 8, 9, 10, 11, 12, 13, 14] (by decide) rfl rfl dXB_takeOutFree_39
      · refine sw_aload_n G dXB_takeOutFree_10 rfl 0 rfl ?_
        refine sw_iload_n G dXB_takeOutFree_11 rfl 2 rfl ?_
        refine sw_readV (As := [.int (nI b)]) (rest := []) G (c_XB_isUsed l D ta h0 h1 h2 h3 h4 h5 h6 h7 f1 f2 f3 l0 l1 l2 l3 sg len ent cnt num len1 ent1 cnt1 b (by omega)) (cwV 1 G.2.2.2.2.1 (sb_goodV wd_182 wd_184 ws_XB_isUsed wd_1 wd_185) rfl rfl rfl (by decide +kernel) ⟨Nat.le_of_ble_eq_true rfl, Nat.le_of_ble_eq_true rfl⟩) 0 5 rfl rfl rfl rfl (Nat.le_of_ble_eq_true rfl) dXB_takeOutFree_12 ⟨Nat.le_of_ble_eq_true rfl, Nat.le_of_ble_eq_true rfl⟩ [0, 6, 7, 8, 9, 10, 11, 12, 13, 14] rfl (by decide) ?_
        refine sw_eq (ws' := [(h0, .inr (5, [.ref h1, .int (nI sg), .ref h2, .ref h3, .ref h4, .ref h5, .ref h6, .ref h7])), (h2, .inr (0, [.ref d1])), (d1, .inl (ta.1, 160, .inl (w))), (h3, .inr (1, [.ref h2, .ref i1, .ref i2, .long gate, .int probed])), (i1, .inl (ta.1, 64, .inl (fun jx => sp_o (((tk (hmN w) (us_b cnt cnt1) cel pos b).1.1) jx)))), (i2, .inl (ta.1, 40, .inl (fun jx => sp_o (((tk (hmN w) (us_b cnt cnt1) cel pos b).1.2) jx)))), (h4, .inr (3, [.ref f1, .ref f2, .ref f3])), (f1, .inl (ta.1, 6, .inl (fun jx => nI (len jx)))), (f2, .inl (ta.1, 72, .inl (fun jx => nI (ent jx)))), (f3, .inl (ta.1, 40, .inl (cnt))), (h5, .inr (4, [.ref l0, .int num])), (l0, .inr (3, [.ref l1, .ref l2, .ref l3])), (l1, .inl (ta.1, 6, .inl (fun jx => nI (len1 jx)))), (l2, .inl (ta.1, 72, .inl (fun jx => nI (ent1 jx)))), (l3, .inl (ta.1, 40, .inl (cnt1)))]) (lv2 := [(0, .ref h0), (1, .int (nI ((tk (hmN w) (us_b cnt cnt1) cel pos b).2))), (2, .int (nI b))]) (pc2 := 15) (st2 := [.int (sp_b (us_b cnt cnt1 b))]) rfl ?_
        refine sw_if_ne (x := sp_b (us_b cnt cnt1 b)) (tgt := 32) G dXB_takeOutFree_15 (by decide) (fun br15 => ?_) (fun br15 => ?_)
        · refine sw_iinc (x := nI b) (v := nI (b + 1)) G dXB_takeOutFree_32 (q := 2) rfl (sp_inc _) (by decide) (lv' := [(2, .int (nI (b + 1))), (0, .ref h0), (1, .int (nI ((tk (hmN w) (us_b cnt cnt1) cel pos b).2)))]) rfl ?_
          refine sw_goto (tgt := 4) G dXB_takeOutFree_35 (by decide) ?_
          refine sw_lv [1, 2, 0] (lv' := [(0, .ref h0), (1, .int (nI ((tk (hmN w) (us_b cnt cnt1) cel pos b).2))), (2, .int (nI (b + 1)))]) rfl ?_
          refine sw_eq (ws' := [(h0, .inr (5, [.ref h1, .int (nI sg), .ref h2, .ref h3, .ref h4, .ref h5, .ref h6, .ref h7])), (h2, .inr (0, [.ref d1])), (d1, .inl (ta.1, 160, .inl (w))), (h3, .inr (1, [.ref h2, .ref i1, .ref i2, .long gate, .int probed])), (i1, .inl (ta.1, 64, .inl (fun jx => sp_o (((tk (hmN w) (us_b cnt cnt1) cel pos (b + 1)).1.1) jx)))), (i2, .inl (ta.1, 40, .inl (fun jx => sp_o (((tk (hmN w) (us_b cnt cnt1) cel pos (b + 1)).1.2) jx)))), (h4, .inr (3, [.ref f1, .ref f2, .ref f3])), (f1, .inl (ta.1, 6, .inl (fun jx => nI (len jx)))), (f2, .inl (ta.1, 72, .inl (fun jx => nI (ent jx)))), (f3, .inl (ta.1, 40, .inl (cnt))), (h5, .inr (4, [.ref l0, .int num])), (l0, .inr (3, [.ref l1, .ref l2, .ref l3])), (l1, .inl (ta.1, 6, .inl (fun jx => nI (len1 jx)))), (l2, .inl (ta.1, 72, .inl (fun jx => nI (ent1 jx)))), (l3, .inl (ta.1, 40, .inl (cnt1)))]) (lv2 := [(0, .ref h0), (1, .int (nI ((tk (hmN w) (us_b cnt cnt1) cel pos (b + 1)).2))), (2, .int (nI (b + 1)))]) (pc2 := 4) (st2 := []) (by rw [tk_u ((sp_b_ne _).mp br15)]) ?_
          exact ih4 (b + 1) (by omega) (by omega)
        · rcases hp : (tk (hmN w) (us_b cnt cnt1) cel pos b).1.2 b with _ | hole
          · refine sw_aload_n G dXB_takeOutFree_18 rfl 0 rfl ?_
            refine sw_get (C := RXB) (T := TXB) (ref := RXB) (N := 8) G inXB 0 rfl rfl 3 (by decide) wd_112 rfl rfl dXB_takeOutFree_19 ?_
            refine sw_iload_n G dXB_takeOutFree_22 rfl 2 rfl ?_
            refine sw_readV (As := [.int (nI b)]) (rest := []) G (c_XI_takeOutN l D ta h3 h2 i1 i2 d1 w ((tk (hmN w) (us_b cnt cnt1) cel pos b).1.1) ((tk (hmN w) (us_b cnt cnt1) cel pos b).1.2) gate probed b (by omega) (hp)) (cwV 1 G.2.2.2.2.1 (sb_goodV wd_402 wd_403 wd_404 wd_3 wd_405) rfl rfl rfl (by decide +kernel) ⟨Nat.le_of_ble_eq_true rfl, Nat.le_of_ble_eq_true rfl⟩) 3 1 rfl rfl rfl rfl (Nat.le_of_ble_eq_true rfl) dXB_takeOutFree_23 ⟨Nat.le_of_ble_eq_true rfl, Nat.le_of_ble_eq_true rfl⟩ [3, 1, 2, 4, 5] rfl (by decide) ?_
            refine sw_eq (ws' := [(h0, .inr (5, [.ref h1, .int (nI sg), .ref h2, .ref h3, .ref h4, .ref h5, .ref h6, .ref h7])), (h2, .inr (0, [.ref d1])), (d1, .inl (ta.1, 160, .inl (w))), (h3, .inr (1, [.ref h2, .ref i1, .ref i2, .long gate, .int probed])), (i1, .inl (ta.1, 64, .inl (fun jx => sp_o (((tk (hmN w) (us_b cnt cnt1) cel pos b).1.1) jx)))), (i2, .inl (ta.1, 40, .inl (fun jx => sp_o (((tk (hmN w) (us_b cnt cnt1) cel pos b).1.2) jx)))), (h4, .inr (3, [.ref f1, .ref f2, .ref f3])), (f1, .inl (ta.1, 6, .inl (fun jx => nI (len jx)))), (f2, .inl (ta.1, 72, .inl (fun jx => nI (ent jx)))), (f3, .inl (ta.1, 40, .inl (cnt))), (h5, .inr (4, [.ref l0, .int num])), (l0, .inr (3, [.ref l1, .ref l2, .ref l3])), (l1, .inl (ta.1, 6, .inl (fun jx => nI (len1 jx)))), (l2, .inl (ta.1, 72, .inl (fun jx => nI (ent1 jx)))), (l3, .inl (ta.1, 40, .inl (cnt1)))]) (lv2 := [(0, .ref h0), (1, .int (nI ((tk (hmN w) (us_b cnt cnt1) cel pos b).2))), (2, .int (nI b))]) (pc2 := 26) (st2 := [.int (nI 0)]) rfl ?_
            refine sw_if_eq (x := nI 0) (tgt := 32) G dXB_takeOutFree_26 (by decide) (fun br26 => ?_) (fun br26 => ?_)
            · refine sw_iinc (x := nI b) (v := nI (b + 1)) G dXB_takeOutFree_32 (q := 2) rfl (sp_inc _) (by decide) (lv' := [(2, .int (nI (b + 1))), (0, .ref h0), (1, .int (nI ((tk (hmN w) (us_b cnt cnt1) cel pos b).2)))]) rfl ?_
              refine sw_goto (tgt := 4) G dXB_takeOutFree_35 (by decide) ?_
              refine sw_lv [1, 2, 0] (lv' := [(0, .ref h0), (1, .int (nI ((tk (hmN w) (us_b cnt cnt1) cel pos b).2))), (2, .int (nI (b + 1)))]) rfl ?_
              refine sw_eq (ws' := [(h0, .inr (5, [.ref h1, .int (nI sg), .ref h2, .ref h3, .ref h4, .ref h5, .ref h6, .ref h7])), (h2, .inr (0, [.ref d1])), (d1, .inl (ta.1, 160, .inl (w))), (h3, .inr (1, [.ref h2, .ref i1, .ref i2, .long gate, .int probed])), (i1, .inl (ta.1, 64, .inl (fun jx => sp_o (((tk (hmN w) (us_b cnt cnt1) cel pos (b + 1)).1.1) jx)))), (i2, .inl (ta.1, 40, .inl (fun jx => sp_o (((tk (hmN w) (us_b cnt cnt1) cel pos (b + 1)).1.2) jx)))), (h4, .inr (3, [.ref f1, .ref f2, .ref f3])), (f1, .inl (ta.1, 6, .inl (fun jx => nI (len jx)))), (f2, .inl (ta.1, 72, .inl (fun jx => nI (ent jx)))), (f3, .inl (ta.1, 40, .inl (cnt))), (h5, .inr (4, [.ref l0, .int num])), (l0, .inr (3, [.ref l1, .ref l2, .ref l3])), (l1, .inl (ta.1, 6, .inl (fun jx => nI (len1 jx)))), (l2, .inl (ta.1, 72, .inl (fun jx => nI (ent1 jx)))), (l3, .inl (ta.1, 40, .inl (cnt1)))]) (lv2 := [(0, .ref h0), (1, .int (nI ((tk (hmN w) (us_b cnt cnt1) cel pos (b + 1)).2))), (2, .int (nI (b + 1)))]) (pc2 := 4) (st2 := []) (by rw [tk_n ((sp_b_eq _).mp br15) hp]) ?_
              exact ih4 (b + 1) (by omega) (by omega)
            · exact absurd (by decide) br26
          · refine sw_aload_n G dXB_takeOutFree_18 rfl 0 rfl ?_
            obtain ⟨s0, h1s, h63, hemp, hrun⟩ := ix_gap hTb (hTb.2.1 _ _ hp).1
            refine sw_get (C := RXB) (T := TXB) (ref := RXB) (N := 8) G inXB 0 rfl rfl 3 (by decide) wd_112 rfl rfl dXB_takeOutFree_19 ?_
            refine sw_iload_n G dXB_takeOutFree_22 rfl 2 rfl ?_
            refine sw_callV (As := [.int (nI b)]) (rest := []) G (c_XI_takeOutY l D ta h3 h2 i1 i2 d1 w ((tk (hmN w) (us_b cnt cnt1) cel pos b).1.1) ((tk (hmN w) (us_b cnt cnt1) cel pos b).1.2) gate probed b hole s0 ((tk (hmN w) (us_b cnt cnt1) cel pos b).1.1) (by omega) (hp) ((hTb.2.1 _ _ hp).1) (h1s) (h63) (hTb.2.2) (hemp) (hrun) (ix_start hTb (fun b => hmN_lt w b) hp h1s h63 hemp hrun) (fun j b1 hj hb1 => (hTb.1 j b1 hj hb1).1)) (cwV 1 G.2.2.2.2.1 (sb_goodV wd_402 wd_403 wd_404 wd_3 wd_405) rfl rfl rfl (by decide +kernel) ⟨Nat.le_of_ble_eq_true rfl, Nat.le_of_ble_eq_true rfl⟩) 3 1 rfl rfl rfl rfl (Nat.le_of_ble_eq_true rfl) dXB_takeOutFree_23 ⟨Nat.le_of_ble_eq_true rfl, Nat.le_of_ble_eq_true rfl⟩ [3, 1, 2, 4, 5] [0, 6, 7, 8, 9, 10, 11, 12, 13, 14] rfl (wr := [(h0, .inr (5, [.ref h1, .int (nI sg), .ref h2, .ref h3, .ref h4, .ref h5, .ref h6, .ref h7])), (h4, .inr (3, [.ref f1, .ref f2, .ref f3])), (f1, .inl (ta.1, 6, .inl (fun jx => nI (len jx)))), (f2, .inl (ta.1, 72, .inl (fun jx => nI (ent jx)))), (f3, .inl (ta.1, 40, .inl (cnt))), (h5, .inr (4, [.ref l0, .int num])), (l0, .inr (3, [.ref l1, .ref l2, .ref l3])), (l1, .inl (ta.1, 6, .inl (fun jx => nI (len1 jx)))), (l2, .inl (ta.1, 72, .inl (fun jx => nI (ent1 jx)))), (l3, .inl (ta.1, 40, .inl (cnt1)))]) rfl (by decide) (by decide) (by decide) (fun _ _ => ?_)
            refine sw_eq (ws' := [(h0, .inr (5, [.ref h1, .int (nI sg), .ref h2, .ref h3, .ref h4, .ref h5, .ref h6, .ref h7])), (h4, .inr (3, [.ref f1, .ref f2, .ref f3])), (f1, .inl (ta.1, 6, .inl (fun jx => nI (len jx)))), (f2, .inl (ta.1, 72, .inl (fun jx => nI (ent jx)))), (f3, .inl (ta.1, 40, .inl (cnt))), (h5, .inr (4, [.ref l0, .int num])), (l0, .inr (3, [.ref l1, .ref l2, .ref l3])), (l1, .inl (ta.1, 6, .inl (fun jx => nI (len1 jx)))), (l2, .inl (ta.1, 72, .inl (fun jx => nI (ent1 jx)))), (l3, .inl (ta.1, 40, .inl (cnt1))), (h3, .inr (1, [.ref h2, .ref i1, .ref i2, .long gate, .int probed])), (h2, .inr (0, [.ref d1])), (d1, .inl (ta.1, 160, .inl (w))), (i1, .inl (ta.1, 64, .inl (fun jx => sp_o (((ix_sh (hmN w) hole 63 1 (va_up ((tk (hmN w) (us_b cnt cnt1) cel pos b).1.1) hole none, va_up ((tk (hmN w) (us_b cnt cnt1) cel pos b).1.2) b none)).1) jx)))), (i2, .inl (ta.1, 40, .inl (fun jx => sp_o (((ix_sh (hmN w) hole 63 1 (va_up ((tk (hmN w) (us_b cnt cnt1) cel pos b).1.1) hole none, va_up ((tk (hmN w) (us_b cnt cnt1) cel pos b).1.2) b none)).2) jx))))]) (lv2 := [(0, .ref h0), (1, .int (nI ((tk (hmN w) (us_b cnt cnt1) cel pos b).2))), (2, .int (nI b))]) (pc2 := 26) (st2 := [.int (nI 1)]) rfl ?_
            refine sw_sub [0, 11, 12, 10, 13, 14, 1, 2, 3, 4, 5, 6, 7, 8, 9] (by decide) (ws' := [(h0, .inr (5, [.ref h1, .int (nI sg), .ref h2, .ref h3, .ref h4, .ref h5, .ref h6, .ref h7])), (h2, .inr (0, [.ref d1])), (d1, .inl (ta.1, 160, .inl (w))), (h3, .inr (1, [.ref h2, .ref i1, .ref i2, .long gate, .int probed])), (i1, .inl (ta.1, 64, .inl (fun jx => sp_o (((ix_sh (hmN w) hole 63 1 (va_up ((tk (hmN w) (us_b cnt cnt1) cel pos b).1.1) hole none, va_up ((tk (hmN w) (us_b cnt cnt1) cel pos b).1.2) b none)).1) jx)))), (i2, .inl (ta.1, 40, .inl (fun jx => sp_o (((ix_sh (hmN w) hole 63 1 (va_up ((tk (hmN w) (us_b cnt cnt1) cel pos b).1.1) hole none, va_up ((tk (hmN w) (us_b cnt cnt1) cel pos b).1.2) b none)).2) jx)))), (h4, .inr (3, [.ref f1, .ref f2, .ref f3])), (f1, .inl (ta.1, 6, .inl (fun jx => nI (len jx)))), (f2, .inl (ta.1, 72, .inl (fun jx => nI (ent jx)))), (f3, .inl (ta.1, 40, .inl (cnt))), (h5, .inr (4, [.ref l0, .int num])), (l0, .inr (3, [.ref l1, .ref l2, .ref l3])), (l1, .inl (ta.1, 6, .inl (fun jx => nI (len1 jx)))), (l2, .inl (ta.1, 72, .inl (fun jx => nI (ent1 jx)))), (l3, .inl (ta.1, 40, .inl (cnt1)))]) rfl rfl ?_
            refine sw_if_eq (x := nI 1) (tgt := 32) G dXB_takeOutFree_26 (by decide) (fun br26 => ?_) (fun br26 => ?_)
            · exact absurd br26 (by decide)
            · refine sw_iinc (x := nI ((tk (hmN w) (us_b cnt cnt1) cel pos b).2)) (v := nI (((tk (hmN w) (us_b cnt cnt1) cel pos b).2) + 1)) G dXB_takeOutFree_29 (q := 1) rfl (sp_inc _) (by decide) (lv' := [(1, .int (nI (((tk (hmN w) (us_b cnt cnt1) cel pos b).2) + 1))), (0, .ref h0), (2, .int (nI b))]) rfl ?_
              refine sw_iinc (x := nI b) (v := nI (b + 1)) G dXB_takeOutFree_32 (q := 2) rfl (sp_inc _) (by decide) (lv' := [(2, .int (nI (b + 1))), (1, .int (nI (((tk (hmN w) (us_b cnt cnt1) cel pos b).2) + 1))), (0, .ref h0)]) rfl ?_
              refine sw_goto (tgt := 4) G dXB_takeOutFree_35 (by decide) ?_
              refine sw_lv [2, 1, 0] (lv' := [(0, .ref h0), (1, .int (nI (((tk (hmN w) (us_b cnt cnt1) cel pos b).2) + 1))), (2, .int (nI (b + 1)))]) rfl ?_
              refine sw_eq (ws' := [(h0, .inr (5, [.ref h1, .int (nI sg), .ref h2, .ref h3, .ref h4, .ref h5, .ref h6, .ref h7])), (h2, .inr (0, [.ref d1])), (d1, .inl (ta.1, 160, .inl (w))), (h3, .inr (1, [.ref h2, .ref i1, .ref i2, .long gate, .int probed])), (i1, .inl (ta.1, 64, .inl (fun jx => sp_o (((tk (hmN w) (us_b cnt cnt1) cel pos (b + 1)).1.1) jx)))), (i2, .inl (ta.1, 40, .inl (fun jx => sp_o (((tk (hmN w) (us_b cnt cnt1) cel pos (b + 1)).1.2) jx)))), (h4, .inr (3, [.ref f1, .ref f2, .ref f3])), (f1, .inl (ta.1, 6, .inl (fun jx => nI (len jx)))), (f2, .inl (ta.1, 72, .inl (fun jx => nI (ent jx)))), (f3, .inl (ta.1, 40, .inl (cnt))), (h5, .inr (4, [.ref l0, .int num])), (l0, .inr (3, [.ref l1, .ref l2, .ref l3])), (l1, .inl (ta.1, 6, .inl (fun jx => nI (len1 jx)))), (l2, .inl (ta.1, 72, .inl (fun jx => nI (ent1 jx)))), (l3, .inl (ta.1, 40, .inl (cnt1)))]) (lv2 := [(0, .ref h0), (1, .int (nI ((tk (hmN w) (us_b cnt cnt1) cel pos (b + 1)).2))), (2, .int (nI (b + 1)))]) (pc2 := 4) (st2 := []) (by rw [tk_s ((sp_b_eq _).mp br15) hp]) ?_
              exact ih4 (b + 1) (by omega) (by omega)
  exact L4 _ 0 (Nat.lt_succ_self _) (Nat.zero_le _)

set_option maxRecDepth 100000 in
set_option maxHeartbeats 4000000 in
theorem c_XB_makeIndexAnew (l : Launch) (D : va_G) (ta : ClassId × ClassId × ClassId) (h0 : Nat) (h1 : Nat) (h2 : Nat) (h3 : Nat) (h4 : Nat) (h5 : Nat) (h6 : Nat) (h7 : Nat) (d1 : Nat) (i1 : Nat) (i2 : Nat) (f1 : Nat) (f2 : Nat) (f3 : Nat) (l0 : Nat) (l1 : Nat) (l2 : Nat) (l3 : Nat) (sg : Nat) (w : Nat → Int32) (gate : Int64) (probed : Int32) (cel : Nat → Option Nat) (pos : Nat → Option Nat) (len : Nat → Nat) (ent : Nat → Nat) (cnt : Nat → Int32) (num : Int32) (len1 : Nat → Nat) (ent1 : Nat → Nat) (cnt1 : Nat → Int32)  : sm (S := Unit) l yXB_makeIndexAnew wsXB_makeIndexAnew ({ frames := 4, cells := 0, slots := 0, locals := 89 }) D ta [.ref h0] [(h0, .inr (5, [.ref h1, .int (nI sg), .ref h2, .ref h3, .ref h4, .ref h5, .ref h6, .ref h7])), (h2, .inr (0, [.ref d1])), (d1, .inl (ta.1, 160, .inl (w))), (h3, .inr (1, [.ref h2, .ref i1, .ref i2, .long gate, .int probed])), (i1, .inl (ta.1, 64, .inl (fun jx => sp_o (cel jx)))), (i2, .inl (ta.1, 40, .inl (fun jx => sp_o (pos jx)))), (h4, .inr (3, [.ref f1, .ref f2, .ref f3])), (f1, .inl (ta.1, 6, .inl (fun jx => nI (len jx)))), (f2, .inl (ta.1, 72, .inl (fun jx => nI (ent jx)))), (f3, .inl (ta.1, 40, .inl (cnt))), (h5, .inr (4, [.ref l0, .int num])), (l0, .inr (3, [.ref l1, .ref l2, .ref l3])), (l1, .inl (ta.1, 6, .inl (fun jx => nI (len1 jx)))), (l2, .inl (ta.1, 72, .inl (fun jx => nI (ent1 jx)))), (l3, .inl (ta.1, 40, .inl (cnt1)))] (fun _ => True) (fun _ => none) (fun _ => [(h0, .inr (5, [.ref h1, .int (nI sg), .ref h2, .ref h3, .ref h4, .ref h5, .ref h6, .ref h7])), (h2, .inr (0, [.ref d1])), (d1, .inl (ta.1, 160, .inl (w))), (h3, .inr (1, [.ref h2, .ref i1, .ref i2, .long ((mw w (us_b cnt cnt1) 40).2), .int probed])), (i1, .inl (ta.1, 64, .inl (fun jx => sp_o (((mw w (us_b cnt cnt1) 40).1.1) jx)))), (i2, .inl (ta.1, 40, .inl (fun jx => sp_o (((mw w (us_b cnt cnt1) 40).1.2) jx)))), (h4, .inr (3, [.ref f1, .ref f2, .ref f3])), (f1, .inl (ta.1, 6, .inl (fun jx => nI (len jx)))), (f2, .inl (ta.1, 72, .inl (fun jx => nI (ent jx)))), (f3, .inl (ta.1, 40, .inl (cnt))), (h5, .inr (4, [.ref l0, .int num])), (l0, .inr (3, [.ref l1, .ref l2, .ref l3])), (l1, .inl (ta.1, 6, .inl (fun jx => nI (len1 jx)))), (l2, .inl (ta.1, 72, .inl (fun jx => nI (ent1 jx)))), (l3, .inl (ta.1, 40, .inl (cnt1)))]) := by
  refine sm_ofW (y := yXB_makeIndexAnew) (cc := cXB_makeIndexAnew) (nL := 2) (ret := none) (by decide) (Nat.le_of_ble_eq_true rfl) (fun p e s m below meth c G hr hlk hnm => ?_)
  refine sw_eq (ws' := [(h0, .inr (5, [.ref h1, .int (nI sg), .ref h2, .ref h3, .ref h4, .ref h5, .ref h6, .ref h7])), (h2, .inr (0, [.ref d1])), (d1, .inl (ta.1, 160, .inl (w))), (h3, .inr (1, [.ref h2, .ref i1, .ref i2, .long gate, .int probed])), (i1, .inl (ta.1, 64, .inl (fun jx => sp_o (cel jx)))), (i2, .inl (ta.1, 40, .inl (fun jx => sp_o (pos jx)))), (h4, .inr (3, [.ref f1, .ref f2, .ref f3])), (f1, .inl (ta.1, 6, .inl (fun jx => nI (len jx)))), (f2, .inl (ta.1, 72, .inl (fun jx => nI (ent jx)))), (f3, .inl (ta.1, 40, .inl (cnt))), (h5, .inr (4, [.ref l0, .int num])), (l0, .inr (3, [.ref l1, .ref l2, .ref l3])), (l1, .inl (ta.1, 6, .inl (fun jx => nI (len1 jx)))), (l2, .inl (ta.1, 72, .inl (fun jx => nI (ent1 jx)))), (l3, .inl (ta.1, 40, .inl (cnt1)))]) (lv2 := [(0, .ref h0)]) (pc2 := 0) (st2 := []) rfl ?_
  refine sw_aload_n G dXB_makeIndexAnew_0 rfl 0 rfl ?_
  refine sw_get (C := RXB) (T := TXB) (ref := RXB) (N := 8) G inXB 0 rfl rfl 3 (by decide) wd_112 rfl rfl dXB_makeIndexAnew_1 ?_
  refine sw_callV (As := []) (rest := []) G (c_XI_clear l D ta h3 h2 i1 i2 d1 w cel pos gate probed ) (cwV 0 G.2.2.2.2.1 (sb_goodV wd_178 wd_179 wd_180 wd_3 wd_181) rfl rfl rfl (by decide +kernel) ⟨Nat.le_of_ble_eq_true rfl, Nat.le_of_ble_eq_true rfl⟩) 3 1 rfl rfl rfl rfl (Nat.le_of_ble_eq_true rfl) dXB_makeIndexAnew_4 ⟨Nat.le_of_ble_eq_true rfl, Nat.le_of_ble_eq_true rfl⟩ [3, 1, 2, 4, 5] [0, 6, 7, 8, 9, 10, 11, 12, 13, 14] rfl (wr := [(h0, .inr (5, [.ref h1, .int (nI sg), .ref h2, .ref h3, .ref h4, .ref h5, .ref h6, .ref h7])), (h4, .inr (3, [.ref f1, .ref f2, .ref f3])), (f1, .inl (ta.1, 6, .inl (fun jx => nI (len jx)))), (f2, .inl (ta.1, 72, .inl (fun jx => nI (ent jx)))), (f3, .inl (ta.1, 40, .inl (cnt))), (h5, .inr (4, [.ref l0, .int num])), (l0, .inr (3, [.ref l1, .ref l2, .ref l3])), (l1, .inl (ta.1, 6, .inl (fun jx => nI (len1 jx)))), (l2, .inl (ta.1, 72, .inl (fun jx => nI (ent1 jx)))), (l3, .inl (ta.1, 40, .inl (cnt1)))]) rfl (by decide) (by decide) (by decide) (fun _ _ => ?_)
  refine sw_eq (ws' := [(h0, .inr (5, [.ref h1, .int (nI sg), .ref h2, .ref h3, .ref h4, .ref h5, .ref h6, .ref h7])), (h4, .inr (3, [.ref f1, .ref f2, .ref f3])), (f1, .inl (ta.1, 6, .inl (fun jx => nI (len jx)))), (f2, .inl (ta.1, 72, .inl (fun jx => nI (ent jx)))), (f3, .inl (ta.1, 40, .inl (cnt))), (h5, .inr (4, [.ref l0, .int num])), (l0, .inr (3, [.ref l1, .ref l2, .ref l3])), (l1, .inl (ta.1, 6, .inl (fun jx => nI (len1 jx)))), (l2, .inl (ta.1, 72, .inl (fun jx => nI (ent1 jx)))), (l3, .inl (ta.1, 40, .inl (cnt1))), (h3, .inr (1, [.ref h2, .ref i1, .ref i2, .long 0, .int probed])), (h2, .inr (0, [.ref d1])), (d1, .inl (ta.1, 160, .inl (w))), (i1, .inl (ta.1, 64, .inl (fun jx => sp_o (ix_no jx)))), (i2, .inl (ta.1, 40, .inl (fun jx => sp_o (ix_no jx))))]) (lv2 := [(0, .ref h0)]) (pc2 := 7) (st2 := []) rfl ?_
  refine sw_sub [0, 11, 12, 10, 13, 14, 1, 2, 3, 4, 5, 6, 7, 8, 9] (by decide) (ws' := [(h0, .inr (5, [.ref h1, .int (nI sg), .ref h2, .ref h3, .ref h4, .ref h5, .ref h6, .ref h7])), (h2, .inr (0, [.ref d1])), (d1, .inl (ta.1, 160, .inl (w))), (h3, .inr (1, [.ref h2, .ref i1, .ref i2, .long 0, .int probed])), (i1, .inl (ta.1, 64, .inl (fun jx => sp_o (ix_no jx)))), (i2, .inl (ta.1, 40, .inl (fun jx => sp_o (ix_no jx)))), (h4, .inr (3, [.ref f1, .ref f2, .ref f3])), (f1, .inl (ta.1, 6, .inl (fun jx => nI (len jx)))), (f2, .inl (ta.1, 72, .inl (fun jx => nI (ent jx)))), (f3, .inl (ta.1, 40, .inl (cnt))), (h5, .inr (4, [.ref l0, .int num])), (l0, .inr (3, [.ref l1, .ref l2, .ref l3])), (l1, .inl (ta.1, 6, .inl (fun jx => nI (len1 jx)))), (l2, .inl (ta.1, 72, .inl (fun jx => nI (ent1 jx)))), (l3, .inl (ta.1, 40, .inl (cnt1)))]) rfl rfl ?_
  refine sw_iconst (v := nI 0) G dXB_makeIndexAnew_7 (by decide) ?_
  refine sw_istore_n G dXB_makeIndexAnew_8 rfl (by decide) (lv' := [(1, .int (nI 0)), (0, .ref h0)]) rfl ?_
  refine sw_lv [1, 0] (lv' := [(0, .ref h0), (1, .int (nI 0))]) rfl ?_
  have L9 : ∀ (NN : Nat) (b : Nat), 40 - b < NN → (b ≤ 40) → sw p l e ({ frames := 4, cells := 0, slots := 0, locals := 89 }) s m ([.ref h0]).toArray below meth c 2 D (va_A [(h0, .inr (5, [.ref h1, .int (nI sg), .ref h2, .ref h3, .ref h4, .ref h5, .ref h6, .ref h7])), (h2, .inr (0, [.ref d1])), (d1, .inl (ta.1, 160, .inl (w))), (h3, .inr (1, [.ref h2, .ref i1, .ref i2, .long gate, .int probed])), (i1, .inl (ta.1, 64, .inl (fun jx => sp_o (cel jx)))), (i2, .inl (ta.1, 40, .inl (fun jx => sp_o (pos jx)))), (h4, .inr (3, [.ref f1, .ref f2, .ref f3])), (f1, .inl (ta.1, 6, .inl (fun jx => nI (len jx)))), (f2, .inl (ta.1, 72, .inl (fun jx => nI (ent jx)))), (f3, .inl (ta.1, 40, .inl (cnt))), (h5, .inr (4, [.ref l0, .int num])), (l0, .inr (3, [.ref l1, .ref l2, .ref l3])), (l1, .inl (ta.1, 6, .inl (fun jx => nI (len1 jx)))), (l2, .inl (ta.1, 72, .inl (fun jx => nI (ent1 jx)))), (l3, .inl (ta.1, 40, .inl (cnt1)))] s.heap.size) (MQ below (sb_Q D ta [(h0, .inr (5, [.ref h1, .int (nI sg), .ref h2, .ref h3, .ref h4, .ref h5, .ref h6, .ref h7])), (h2, .inr (0, [.ref d1])), (d1, .inl (ta.1, 160, .inl (w))), (h3, .inr (1, [.ref h2, .ref i1, .ref i2, .long gate, .int probed])), (i1, .inl (ta.1, 64, .inl (fun jx => sp_o (cel jx)))), (i2, .inl (ta.1, 40, .inl (fun jx => sp_o (pos jx)))), (h4, .inr (3, [.ref f1, .ref f2, .ref f3])), (f1, .inl (ta.1, 6, .inl (fun jx => nI (len jx)))), (f2, .inl (ta.1, 72, .inl (fun jx => nI (ent jx)))), (f3, .inl (ta.1, 40, .inl (cnt))), (h5, .inr (4, [.ref l0, .int num])), (l0, .inr (3, [.ref l1, .ref l2, .ref l3])), (l1, .inl (ta.1, 6, .inl (fun jx => nI (len1 jx)))), (l2, .inl (ta.1, 72, .inl (fun jx => nI (ent1 jx)))), (l3, .inl (ta.1, 40, .inl (cnt1)))] s.heap.size (fun _ : Unit => True) (fun _ => none) (fun _ => [(h0, .inr (5, [.ref h1, .int (nI sg), .ref h2, .ref h3, .ref h4, .ref h5, .ref h6, .ref h7])), (h2, .inr (0, [.ref d1])), (d1, .inl (ta.1, 160, .inl (w))), (h3, .inr (1, [.ref h2, .ref i1, .ref i2, .long ((mw w (us_b cnt cnt1) 40).2), .int probed])), (i1, .inl (ta.1, 64, .inl (fun jx => sp_o (((mw w (us_b cnt cnt1) 40).1.1) jx)))), (i2, .inl (ta.1, 40, .inl (fun jx => sp_o (((mw w (us_b cnt cnt1) 40).1.2) jx)))), (h4, .inr (3, [.ref f1, .ref f2, .ref f3])), (f1, .inl (ta.1, 6, .inl (fun jx => nI (len jx)))), (f2, .inl (ta.1, 72, .inl (fun jx => nI (ent jx)))), (f3, .inl (ta.1, 40, .inl (cnt))), (h5, .inr (4, [.ref l0, .int num])), (l0, .inr (3, [.ref l1, .ref l2, .ref l3])), (l1, .inl (ta.1, 6, .inl (fun jx => nI (len1 jx)))), (l2, .inl (ta.1, 72, .inl (fun jx => nI (ent1 jx)))), (l3, .inl (ta.1, 40, .inl (cnt1)))])) ([.ref h0]).toArray s 0 0 (va_A [(h0, .inr (5, [.ref h1, .int (nI sg), .ref h2, .ref h3, .ref h4, .ref h5, .ref h6, .ref h7])), (h2, .inr (0, [.ref d1])), (d1, .inl (ta.1, 160, .inl (w))), (h3, .inr (1, [.ref h2, .ref i1, .ref i2, .long gate, .int probed])), (i1, .inl (ta.1, 64, .inl (fun jx => sp_o (cel jx)))), (i2, .inl (ta.1, 40, .inl (fun jx => sp_o (pos jx)))), (h4, .inr (3, [.ref f1, .ref f2, .ref f3])), (f1, .inl (ta.1, 6, .inl (fun jx => nI (len jx)))), (f2, .inl (ta.1, 72, .inl (fun jx => nI (ent jx)))), (f3, .inl (ta.1, 40, .inl (cnt))), (h5, .inr (4, [.ref l0, .int num])), (l0, .inr (3, [.ref l1, .ref l2, .ref l3])), (l1, .inl (ta.1, 6, .inl (fun jx => nI (len1 jx)))), (l2, .inl (ta.1, 72, .inl (fun jx => nI (ent1 jx)))), (l3, .inl (ta.1, 40, .inl (cnt1)))] s.heap.size)) false 0 0 [(h0, .inr (5, [.ref h1, .int (nI sg), .ref h2, .ref h3, .ref h4, .ref h5, .ref h6, .ref h7])), (h2, .inr (0, [.ref d1])), (d1, .inl (ta.1, 160, .inl (w))), (h3, .inr (1, [.ref h2, .ref i1, .ref i2, .long ((mw w (us_b cnt cnt1) b).2), .int probed])), (i1, .inl (ta.1, 64, .inl (fun jx => sp_o (((mw w (us_b cnt cnt1) b).1.1) jx)))), (i2, .inl (ta.1, 40, .inl (fun jx => sp_o (((mw w (us_b cnt cnt1) b).1.2) jx)))), (h4, .inr (3, [.ref f1, .ref f2, .ref f3])), (f1, .inl (ta.1, 6, .inl (fun jx => nI (len jx)))), (f2, .inl (ta.1, 72, .inl (fun jx => nI (ent jx)))), (f3, .inl (ta.1, 40, .inl (cnt))), (h5, .inr (4, [.ref l0, .int num])), (l0, .inr (3, [.ref l1, .ref l2, .ref l3])), (l1, .inl (ta.1, 6, .inl (fun jx => nI (len1 jx)))), (l2, .inl (ta.1, 72, .inl (fun jx => nI (ent1 jx)))), (l3, .inl (ta.1, 40, .inl (cnt1)))] [(0, .ref h0), (1, .int (nI b))] 9 [] := by
    intro NN
    induction NN with
    | zero => intro b hNN; exact absurd hNN (Nat.not_lt_zero _)
    | succ NN ih9 =>
      intro b hNN hb
      refine sw_iload_n G dXB_makeIndexAnew_9 rfl 1 rfl ?_
      refine sw_bipush (v := nI 40) G dXB_makeIndexAnew_10 (by decide) ?_
      refine sw_icmpN_ge (a := b) (b := 40) (tgt := 37) G dXB_makeIndexAnew_12 (by decide) (by omega) (by omega) (fun br12 => ?_) (fun br12 => ?_)
      · refine sw_sub [0, 1, 2, 3, 4, 5, 6, 7, 8, 9, 10, 11, 12, 13, 14] (by decide) (ws' := [(h0, .inr (5, [.ref h1, .int (nI sg), .ref h2, .ref h3, .ref h4, .ref h5, .ref h6, .ref h7])), (h2, .inr (0, [.ref d1])), (d1, .inl (ta.1, 160, .inl (w))), (h3, .inr (1, [.ref h2, .ref i1, .ref i2, .long ((mw w (us_b cnt cnt1) b).2), .int probed])), (i1, .inl (ta.1, 64, .inl (fun jx => sp_o (((mw w (us_b cnt cnt1) b).1.1) jx)))), (i2, .inl (ta.1, 40, .inl (fun jx => sp_o (((mw w (us_b cnt cnt1) b).1.2) jx)))), (h4, .inr (3, [.ref f1, .ref f2, .ref f3])), (f1, .inl (ta.1, 6, .inl (fun jx => nI (len jx)))), (f2, .inl (ta.1, 72, .inl (fun jx => nI (ent jx)))), (f3, .inl (ta.1, 40, .inl (cnt))), (h5, .inr (4, [.ref l0, .int num])), (l0, .inr (3, [.ref l1, .ref l2, .ref l3])), (l1, .inl (ta.1, 6, .inl (fun jx => nI (len1 jx)))), (l2, .inl (ta.1, 72, .inl (fun jx => nI (ent1 jx)))), (l3, .inl (ta.1, 40, .inl (cnt1)))]) rfl rfl ?_
        refine sw_eq (ws' := [(h0, .inr (5, [.ref h1, .int (nI sg), .ref h2, .ref h3, .ref h4, .ref h5, .ref h6, .ref h7])), (h2, .inr (0, [.ref d1])), (d1, .inl (ta.1, 160, .inl (w))), (h3, .inr (1, [.ref h2, .ref i1, .ref i2, .long ((mw w (us_b cnt cnt1) 40).2), .int probed])), (i1, .inl (ta.1, 64, .inl (fun jx => sp_o (((mw w (us_b cnt cnt1) 40).1.1) jx)))), (i2, .inl (ta.1, 40, .inl (fun jx => sp_o (((mw w (us_b cnt cnt1) 40).1.2) jx)))), (h4, .inr (3, [.ref f1, .ref f2, .ref f3])), (f1, .inl (ta.1, 6, .inl (fun jx => nI (len jx)))), (f2, .inl (ta.1, 72, .inl (fun jx => nI (ent jx)))), (f3, .inl (ta.1, 40, .inl (cnt))), (h5, .inr (4, [.ref l0, .int num])), (l0, .inr (3, [.ref l1, .ref l2, .ref l3])), (l1, .inl (ta.1, 6, .inl (fun jx => nI (len1 jx)))), (l2, .inl (ta.1, 72, .inl (fun jx => nI (ent1 jx)))), (l3, .inl (ta.1, 40, .inl (cnt1)))]) (lv2 := [(0, .ref h0), (1, .int (nI b))]) (pc2 := 37) (st2 := []) (by rw [show b = 40 by omega]) ?_
        exact sw_vret G hr hlk () trivial (rfl) [0, 1, 2, 3, 4, 5, 6, 7, 8, 9, 10, 11, 12, 13, 14] (by decide) rfl rfl dXB_makeIndexAnew_37
      · refine sw_aload_n G dXB_makeIndexAnew_15 rfl 0 rfl ?_
        refine sw_iload_n G dXB_makeIndexAnew_16 rfl 1 rfl ?_
        refine sw_readV (As := [.int (nI b)]) (rest := []) G (c_XB_isUsed l D ta h0 h1 h2 h3 h4 h5 h6 h7 f1 f2 f3 l0 l1 l2 l3 sg len ent cnt num len1 ent1 cnt1 b (by omega)) (cwV 1 G.2.2.2.2.1 (sb_goodV wd_182 wd_184 ws_XB_isUsed wd_1 wd_185) rfl rfl rfl (by decide +kernel) ⟨Nat.le_of_ble_eq_true rfl, Nat.le_of_ble_eq_true rfl⟩) 0 5 rfl rfl rfl rfl (Nat.le_of_ble_eq_true rfl) dXB_makeIndexAnew_17 ⟨Nat.le_of_ble_eq_true rfl, Nat.le_of_ble_eq_true rfl⟩ [0, 6, 7, 8, 9, 10, 11, 12, 13, 14] rfl (by decide) ?_
        refine sw_eq (ws' := [(h0, .inr (5, [.ref h1, .int (nI sg), .ref h2, .ref h3, .ref h4, .ref h5, .ref h6, .ref h7])), (h2, .inr (0, [.ref d1])), (d1, .inl (ta.1, 160, .inl (w))), (h3, .inr (1, [.ref h2, .ref i1, .ref i2, .long ((mw w (us_b cnt cnt1) b).2), .int probed])), (i1, .inl (ta.1, 64, .inl (fun jx => sp_o (((mw w (us_b cnt cnt1) b).1.1) jx)))), (i2, .inl (ta.1, 40, .inl (fun jx => sp_o (((mw w (us_b cnt cnt1) b).1.2) jx)))), (h4, .inr (3, [.ref f1, .ref f2, .ref f3])), (f1, .inl (ta.1, 6, .inl (fun jx => nI (len jx)))), (f2, .inl (ta.1, 72, .inl (fun jx => nI (ent jx)))), (f3, .inl (ta.1, 40, .inl (cnt))), (h5, .inr (4, [.ref l0, .int num])), (l0, .inr (3, [.ref l1, .ref l2, .ref l3])), (l1, .inl (ta.1, 6, .inl (fun jx => nI (len1 jx)))), (l2, .inl (ta.1, 72, .inl (fun jx => nI (ent1 jx)))), (l3, .inl (ta.1, 40, .inl (cnt1)))]) (lv2 := [(0, .ref h0), (1, .int (nI b))]) (pc2 := 20) (st2 := [.int (sp_b (us_b cnt cnt1 b))]) rfl ?_
        refine sw_if_eq (x := sp_b (us_b cnt cnt1 b)) (tgt := 31) G dXB_makeIndexAnew_20 (by decide) (fun br20 => ?_) (fun br20 => ?_)
        · refine sw_iinc (x := nI b) (v := nI (b + 1)) G dXB_makeIndexAnew_31 (q := 1) rfl (sp_inc _) (by decide) (lv' := [(1, .int (nI (b + 1))), (0, .ref h0)]) rfl ?_
          refine sw_goto (tgt := 9) G dXB_makeIndexAnew_34 (by decide) ?_
          refine sw_lv [1, 0] (lv' := [(0, .ref h0), (1, .int (nI (b + 1)))]) rfl ?_
          refine sw_eq (ws' := [(h0, .inr (5, [.ref h1, .int (nI sg), .ref h2, .ref h3, .ref h4, .ref h5, .ref h6, .ref h7])), (h2, .inr (0, [.ref d1])), (d1, .inl (ta.1, 160, .inl (w))), (h3, .inr (1, [.ref h2, .ref i1, .ref i2, .long ((mw w (us_b cnt cnt1) (b + 1)).2), .int probed])), (i1, .inl (ta.1, 64, .inl (fun jx => sp_o (((mw w (us_b cnt cnt1) (b + 1)).1.1) jx)))), (i2, .inl (ta.1, 40, .inl (fun jx => sp_o (((mw w (us_b cnt cnt1) (b + 1)).1.2) jx)))), (h4, .inr (3, [.ref f1, .ref f2, .ref f3])), (f1, .inl (ta.1, 6, .inl (fun jx => nI (len jx)))), (f2, .inl (ta.1, 72, .inl (fun jx => nI (ent jx)))), (f3, .inl (ta.1, 40, .inl (cnt))), (h5, .inr (4, [.ref l0, .int num])), (l0, .inr (3, [.ref l1, .ref l2, .ref l3])), (l1, .inl (ta.1, 6, .inl (fun jx => nI (len1 jx)))), (l2, .inl (ta.1, 72, .inl (fun jx => nI (ent1 jx)))), (l3, .inl (ta.1, 40, .inl (cnt1)))]) (lv2 := [(0, .ref h0), (1, .int (nI (b + 1)))]) (pc2 := 9) (st2 := []) (by rw [mw_f ((sp_b_eq _).mp br20)]) ?_
          exact ih9 (b + 1) (by omega) (by omega)
        · have hTb := mw_T (w := w) (us := us_b cnt cnt1) b hb
          obtain ⟨q1, q2, q3⟩ := ix_s_spec (ix_free hTb (hmN_lt w b))
          refine sw_aload_n G dXB_makeIndexAnew_23 rfl 0 rfl ?_
          refine sw_get (C := RXB) (T := TXB) (ref := RXB) (N := 8) G inXB 0 rfl rfl 3 (by decide) wd_112 rfl rfl dXB_makeIndexAnew_24 ?_
          refine sw_iload_n G dXB_makeIndexAnew_27 rfl 1 rfl ?_
          refine sw_callV (As := [.int (nI b)]) (rest := []) G (c_XI_admit l D ta h3 h2 i1 i2 d1 w ((mw w (us_b cnt cnt1) b).1.1) ((mw w (us_b cnt cnt1) b).1.2) ((mw w (us_b cnt cnt1) b).2) probed b (ix_s (mw w (us_b cnt cnt1) b).1.1 (hmN w b)) (by omega) (q1) (q2) (q3) (fun j b1 hj hb1 => (hTb.1 j b1 hj hb1).1)) (cwV 1 G.2.2.2.2.1 (sb_goodV wd_190 wd_191 wd_192 wd_3 wd_193) rfl rfl rfl (by decide +kernel) ⟨Nat.le_of_ble_eq_true rfl, Nat.le_of_ble_eq_true rfl⟩) 3 1 rfl rfl rfl rfl (Nat.le_of_ble_eq_true rfl) dXB_makeIndexAnew_28 ⟨Nat.le_of_ble_eq_true rfl, Nat.le_of_ble_eq_true rfl⟩ [3, 1, 2, 4, 5] [0, 6, 7, 8, 9, 10, 11, 12, 13, 14] rfl (wr := [(h0, .inr (5, [.ref h1, .int (nI sg), .ref h2, .ref h3, .ref h4, .ref h5, .ref h6, .ref h7])), (h4, .inr (3, [.ref f1, .ref f2, .ref f3])), (f1, .inl (ta.1, 6, .inl (fun jx => nI (len jx)))), (f2, .inl (ta.1, 72, .inl (fun jx => nI (ent jx)))), (f3, .inl (ta.1, 40, .inl (cnt))), (h5, .inr (4, [.ref l0, .int num])), (l0, .inr (3, [.ref l1, .ref l2, .ref l3])), (l1, .inl (ta.1, 6, .inl (fun jx => nI (len1 jx)))), (l2, .inl (ta.1, 72, .inl (fun jx => nI (ent1 jx)))), (l3, .inl (ta.1, 40, .inl (cnt1)))]) rfl (by decide) (by decide) (by decide) (fun _ _ => ?_)
          refine sw_eq (ws' := [(h0, .inr (5, [.ref h1, .int (nI sg), .ref h2, .ref h3, .ref h4, .ref h5, .ref h6, .ref h7])), (h4, .inr (3, [.ref f1, .ref f2, .ref f3])), (f1, .inl (ta.1, 6, .inl (fun jx => nI (len jx)))), (f2, .inl (ta.1, 72, .inl (fun jx => nI (ent jx)))), (f3, .inl (ta.1, 40, .inl (cnt))), (h5, .inr (4, [.ref l0, .int num])), (l0, .inr (3, [.ref l1, .ref l2, .ref l3])), (l1, .inl (ta.1, 6, .inl (fun jx => nI (len1 jx)))), (l2, .inl (ta.1, 72, .inl (fun jx => nI (ent1 jx)))), (l3, .inl (ta.1, 40, .inl (cnt1))), (h3, .inr (1, [.ref h2, .ref i1, .ref i2, .long (((mw w (us_b cnt cnt1) b).2) ||| (gb_x w (b * 4))), .int probed])), (h2, .inr (0, [.ref d1])), (d1, .inl (ta.1, 160, .inl (w))), (i1, .inl (ta.1, 64, .inl (fun jx => sp_o ((va_up ((mw w (us_b cnt cnt1) b).1.1) ((hmN w b + (ix_s (mw w (us_b cnt cnt1) b).1.1 (hmN w b))) % 64) (some b)) jx)))), (i2, .inl (ta.1, 40, .inl (fun jx => sp_o ((va_up ((mw w (us_b cnt cnt1) b).1.2) b (some ((hmN w b + (ix_s (mw w (us_b cnt cnt1) b).1.1 (hmN w b))) % 64))) jx))))]) (lv2 := [(0, .ref h0), (1, .int (nI b))]) (pc2 := 31) (st2 := []) rfl ?_
          refine sw_sub [0, 11, 12, 10, 13, 14, 1, 2, 3, 4, 5, 6, 7, 8, 9] (by decide) (ws' := [(h0, .inr (5, [.ref h1, .int (nI sg), .ref h2, .ref h3, .ref h4, .ref h5, .ref h6, .ref h7])), (h2, .inr (0, [.ref d1])), (d1, .inl (ta.1, 160, .inl (w))), (h3, .inr (1, [.ref h2, .ref i1, .ref i2, .long (((mw w (us_b cnt cnt1) b).2) ||| (gb_x w (b * 4))), .int probed])), (i1, .inl (ta.1, 64, .inl (fun jx => sp_o ((va_up ((mw w (us_b cnt cnt1) b).1.1) ((hmN w b + (ix_s (mw w (us_b cnt cnt1) b).1.1 (hmN w b))) % 64) (some b)) jx)))), (i2, .inl (ta.1, 40, .inl (fun jx => sp_o ((va_up ((mw w (us_b cnt cnt1) b).1.2) b (some ((hmN w b + (ix_s (mw w (us_b cnt cnt1) b).1.1 (hmN w b))) % 64))) jx)))), (h4, .inr (3, [.ref f1, .ref f2, .ref f3])), (f1, .inl (ta.1, 6, .inl (fun jx => nI (len jx)))), (f2, .inl (ta.1, 72, .inl (fun jx => nI (ent jx)))), (f3, .inl (ta.1, 40, .inl (cnt))), (h5, .inr (4, [.ref l0, .int num])), (l0, .inr (3, [.ref l1, .ref l2, .ref l3])), (l1, .inl (ta.1, 6, .inl (fun jx => nI (len1 jx)))), (l2, .inl (ta.1, 72, .inl (fun jx => nI (ent1 jx)))), (l3, .inl (ta.1, 40, .inl (cnt1)))]) rfl rfl ?_
          refine sw_iinc (x := nI b) (v := nI (b + 1)) G dXB_makeIndexAnew_31 (q := 1) rfl (sp_inc _) (by decide) (lv' := [(1, .int (nI (b + 1))), (0, .ref h0)]) rfl ?_
          refine sw_goto (tgt := 9) G dXB_makeIndexAnew_34 (by decide) ?_
          refine sw_lv [1, 0] (lv' := [(0, .ref h0), (1, .int (nI (b + 1)))]) rfl ?_
          refine sw_eq (ws' := [(h0, .inr (5, [.ref h1, .int (nI sg), .ref h2, .ref h3, .ref h4, .ref h5, .ref h6, .ref h7])), (h2, .inr (0, [.ref d1])), (d1, .inl (ta.1, 160, .inl (w))), (h3, .inr (1, [.ref h2, .ref i1, .ref i2, .long ((mw w (us_b cnt cnt1) (b + 1)).2), .int probed])), (i1, .inl (ta.1, 64, .inl (fun jx => sp_o (((mw w (us_b cnt cnt1) (b + 1)).1.1) jx)))), (i2, .inl (ta.1, 40, .inl (fun jx => sp_o (((mw w (us_b cnt cnt1) (b + 1)).1.2) jx)))), (h4, .inr (3, [.ref f1, .ref f2, .ref f3])), (f1, .inl (ta.1, 6, .inl (fun jx => nI (len jx)))), (f2, .inl (ta.1, 72, .inl (fun jx => nI (ent jx)))), (f3, .inl (ta.1, 40, .inl (cnt))), (h5, .inr (4, [.ref l0, .int num])), (l0, .inr (3, [.ref l1, .ref l2, .ref l3])), (l1, .inl (ta.1, 6, .inl (fun jx => nI (len1 jx)))), (l2, .inl (ta.1, 72, .inl (fun jx => nI (ent1 jx)))), (l3, .inl (ta.1, 40, .inl (cnt1)))]) (lv2 := [(0, .ref h0), (1, .int (nI (b + 1)))]) (pc2 := 9) (st2 := []) (by rw [mw_t ((sp_b_ne _).mp br20)] <;> rfl) ?_
          exact ih9 (b + 1) (by omega) (by omega)
  exact L9 _ 0 (Nat.lt_succ_self _) (Nat.zero_le _)

set_option maxRecDepth 100000 in
set_option maxHeartbeats 4000000 in
theorem c_XB_swapSlots (l : Launch) (D : va_G) (ta : ClassId × ClassId × ClassId) (h0 : Nat) (h1 : Nat) (h2 : Nat) (h3 : Nat) (h4 : Nat) (h5 : Nat) (h6 : Nat) (h7 : Nat) (sg : Nat)  : sm (S := Unit) l yXB_swapSlots wsXB_swapSlots ({ frames := 0, cells := 0, slots := 0, locals := 0 }) D ta [.ref h0] [(h0, .inr (5, [.ref h1, .int (nI sg), .ref h2, .ref h3, .ref h4, .ref h5, .ref h6, .ref h7]))] (fun _ => True) (fun _ => none) (fun _ => [(h0, .inr (5, [.ref h1, .int (nI sg), .ref h2, .ref h3, .ref h4, .ref h6, .ref h5, .ref h7]))]) := by
  refine sm_ofW (y := yXB_swapSlots) (cc := cXB_swapSlots) (nL := 2) (ret := none) (by decide) (Nat.le_of_ble_eq_true rfl) (fun p e s m below meth c G hr hlk hnm => ?_)
  refine sw_eq (ws' := [(h0, .inr (5, [.ref h1, .int (nI sg), .ref h2, .ref h3, .ref h4, .ref h5, .ref h6, .ref h7]))]) (lv2 := [(0, .ref h0)]) (pc2 := 0) (st2 := []) rfl ?_
  refine sw_aload_n G dXB_swapSlots_0 rfl 0 rfl ?_
  refine sw_get (C := RXB) (T := TXB) (ref := RXB) (N := 8) G inXB 0 rfl rfl 6 (by decide) wd_115 rfl rfl dXB_swapSlots_1 ?_
  refine sw_astore_n G dXB_swapSlots_4 rfl (by decide) (lv' := [(1, .ref h6), (0, .ref h0)]) rfl ?_
  refine sw_aload_n G dXB_swapSlots_5 rfl 1 rfl ?_
  refine sw_aload_n G dXB_swapSlots_6 rfl 1 rfl ?_
  refine sw_get (C := RXB) (T := TXB) (ref := RXB) (N := 8) G inXB 0 rfl rfl 5 (by decide) wd_114 rfl rfl dXB_swapSlots_7 ?_
  refine sw_put (ty := .object "SharedBlockStore$Slot") (v := .ref h5) (C := RXB) (T := TXB) (ref := RXB) (N := 8) G inXB tyXB tyXB_ok nmXB 0 rfl rfl 6 (by decide) wd_115 rfl rfl (by decide +kernel) (rfl) (rfl) (Nat.le_of_ble_eq_true rfl) dXB_swapSlots_10 (fs' := [.ref h1, .int (nI sg), .ref h2, .ref h3, .ref h4, .ref h5, .ref h5, .ref h7]) rfl (ws' := [(h0, .inr (5, [.ref h1, .int (nI sg), .ref h2, .ref h3, .ref h4, .ref h5, .ref h5, .ref h7]))]) rfl ?_
  refine sw_aload_n G dXB_swapSlots_13 rfl 1 rfl ?_
  refine sw_aload_n G dXB_swapSlots_14 rfl 0 rfl ?_
  refine sw_put (ty := .object "SharedBlockStore$Slot") (v := .ref h6) (C := RXB) (T := TXB) (ref := RXB) (N := 8) G inXB tyXB tyXB_ok nmXB 0 rfl rfl 5 (by decide) wd_114 rfl rfl (by decide +kernel) (rfl) (rfl) (Nat.le_of_ble_eq_true rfl) dXB_swapSlots_15 (fs' := [.ref h1, .int (nI sg), .ref h2, .ref h3, .ref h4, .ref h6, .ref h5, .ref h7]) rfl (ws' := [(h0, .inr (5, [.ref h1, .int (nI sg), .ref h2, .ref h3, .ref h4, .ref h6, .ref h5, .ref h7]))]) rfl ?_
  exact sw_vret G hr hlk () trivial (rfl) [0] (by decide) rfl rfl dXB_swapSlots_18

set_option maxRecDepth 100000 in
set_option maxHeartbeats 4000000 in
theorem c_XB_demandPower (l : Launch) (D : va_G) (ta : ClassId × ClassId × ClassId) (h0 : Nat) (h1 : Nat) (h2 : Nat) (h3 : Nat) (h4 : Nat) (h5 : Nat) (h6 : Nat) (h7 : Nat) (sg : Nat) (done : Int32) (left : Int32) (off : Bool) (ho : off = false) : sr l yXB_demandPower wsXB_demandPower ({ frames := 1, cells := 0, slots := 0, locals := 20 }) D ta [.ref h0] [(h0, .inr (5, [.ref h1, .int (nI sg), .ref h2, .ref h3, .ref h4, .ref h5, .ref h6, .ref h7])), (h7, .inr (2, [.int done, .int left, .int (sp_b off)]))] (none) := by
  refine sr_ofW (y := yXB_demandPower) (cc := cXB_demandPower) (nL := 1) (ret := none) (by decide) (Nat.le_of_ble_eq_true rfl) (fun p e s m below meth c G hr hlk hnm => ?_)
  refine sw_eq (ws' := [(h0, .inr (5, [.ref h1, .int (nI sg), .ref h2, .ref h3, .ref h4, .ref h5, .ref h6, .ref h7])), (h7, .inr (2, [.int done, .int left, .int (sp_b off)]))]) (lv2 := [(0, .ref h0)]) (pc2 := 0) (st2 := []) rfl ?_
  refine sw_aload_n G dXB_demandPower_0 rfl 0 rfl ?_
  refine sw_get (C := RXB) (T := TXB) (ref := RXB) (N := 8) G inXB 0 rfl rfl 7 (by decide) wd_116 rfl rfl dXB_demandPower_1 ?_
  refine sw_readV (As := []) (rest := []) G (c_XP_isOff l D ta h7 done left off ) (cwV 0 G.2.2.2.2.1 (sb_goodV wd_138 wd_139 wd_140 wd_7 wd_141) rfl rfl rfl (by decide +kernel) ⟨Nat.le_of_ble_eq_true rfl, Nat.le_of_ble_eq_true rfl⟩) 1 2 rfl rfl rfl rfl (Nat.le_of_ble_eq_true rfl) dXB_demandPower_4 ⟨Nat.le_of_ble_eq_true rfl, Nat.le_of_ble_eq_true rfl⟩ [1] rfl (by decide) ?_
  refine sw_eq (ws' := [(h0, .inr (5, [.ref h1, .int (nI sg), .ref h2, .ref h3, .ref h4, .ref h5, .ref h6, .ref h7])), (h7, .inr (2, [.int done, .int left, .int (sp_b off)]))]) (lv2 := [(0, .ref h0)]) (pc2 := 7) (st2 := [.int (sp_b off)]) rfl ?_
  refine sw_if_eq (x := sp_b off) (tgt := 20) G dXB_demandPower_7 (by decide) (fun br7 => ?_) (fun br7 => ?_)
  · exact sr_vret G hr hlk (rfl) dXB_demandPower_20
  · exact absurd (by rw [ho]; rfl) br7

set_option maxRecDepth 100000 in
set_option maxHeartbeats 4000000 in
theorem c_XB_demandFullStage (l : Launch) (D : va_G) (ta : ClassId × ClassId × ClassId) (h0 : Nat) (h1 : Nat) (h2 : Nat) (h3 : Nat) (h4 : Nat) (h5 : Nat) (h6 : Nat) (h7 : Nat) (sg : Nat) (hs : 4 ≤ sg) (hs2 : sg < 2 ^ 31) : sr l yXB_demandFullStage wsXB_demandFullStage ({ frames := 0, cells := 0, slots := 0, locals := 0 }) D ta [.ref h0] [(h0, .inr (5, [.ref h1, .int (nI sg), .ref h2, .ref h3, .ref h4, .ref h5, .ref h6, .ref h7]))] (none) := by
  refine sr_ofW (y := yXB_demandFullStage) (cc := cXB_demandFullStage) (nL := 1) (ret := none) (by decide) (Nat.le_of_ble_eq_true rfl) (fun p e s m below meth c G hr hlk hnm => ?_)
  refine sw_eq (ws' := [(h0, .inr (5, [.ref h1, .int (nI sg), .ref h2, .ref h3, .ref h4, .ref h5, .ref h6, .ref h7]))]) (lv2 := [(0, .ref h0)]) (pc2 := 0) (st2 := []) rfl ?_
  refine sw_aload_n G dXB_demandFullStage_0 rfl 0 rfl ?_
  refine sw_get (C := RXB) (T := TXB) (ref := RXB) (N := 8) G inXB 0 rfl rfl 1 (by decide) wd_110 rfl rfl dXB_demandFullStage_1 ?_
  refine sw_iconst (v := nI 4) G dXB_demandFullStage_4 (by decide) ?_
  refine sw_icmpN_ge (a := sg) (b := 4) (tgt := 18) G dXB_demandFullStage_5 (by decide) (by omega) (by omega) (fun br5 => ?_) (fun br5 => ?_)
  · exact sr_vret G hr hlk (rfl) dXB_demandFullStage_18
  · exact absurd br5 (by omega)

set_option maxRecDepth 100000 in
set_option maxHeartbeats 4000000 in
theorem c_XB_demandFile (l : Launch) (D : va_G) (ta : ClassId × ClassId × ClassId) (k : Nat) (hk : k < 6) : sr l yXB_demandFile wsXB_demandFile ({ frames := 0, cells := 0, slots := 0, locals := 0 }) D ta [.int (nI k)] [] (none) := by
  refine sr_ofW (y := yXB_demandFile) (cc := cXB_demandFile) (nL := 1) (ret := none) (by decide) (Nat.le_of_ble_eq_true rfl) (fun p e s m below meth c G hr hlk hnm => ?_)
  refine sw_eq (ws' := []) (lv2 := [(0, .int (nI k))]) (pc2 := 0) (st2 := []) rfl ?_
  refine sw_iload_n G dXB_demandFile_0 rfl 0 rfl ?_
  refine sw_if_lt (x := nI k) (tgt := 10) G dXB_demandFile_1 (by decide) (fun br1 => ?_) (fun br1 => ?_)
  · exact absurd br1 (nI_pos (by omega))
  · refine sw_iload_n G dXB_demandFile_4 rfl 0 rfl ?_
    refine sw_bipush (v := nI 6) G dXB_demandFile_5 (by decide) ?_
    refine sw_icmpN_lt (a := k) (b := 6) (tgt := 20) G dXB_demandFile_7 (by decide) (by omega) (by omega) (fun br7 => ?_) (fun br7 => ?_)
    · exact sr_vret G hr hlk (rfl) dXB_demandFile_20
    · exact absurd br7 (by omega)

set_option maxRecDepth 100000 in
set_option maxHeartbeats 4000000 in
theorem c_XB_demandBlockOf (l : Launch) (D : va_G) (ta : ClassId × ClassId × ClassId) (h0 : Nat) (h1 : Nat) (h2 : Nat) (h3 : Nat) (h4 : Nat) (h5 : Nat) (h6 : Nat) (h7 : Nat) (f1 : Nat) (f2 : Nat) (f3 : Nat) (sg : Nat) (len : Nat → Nat) (ent : Nat → Nat) (cnt : Nat → Int32) (k : Nat) (b : Nat) (hk : k < 6) (hb : b < len k) (hl : len k ≤ 12) : sr l yXB_demandBlockOf wsXB_demandBlockOf ({ frames := 1, cells := 0, slots := 0, locals := 21 }) D ta [.ref h0, .int (nI k), .int (nI b)] [(h0, .inr (5, [.ref h1, .int (nI sg), .ref h2, .ref h3, .ref h4, .ref h5, .ref h6, .ref h7])), (h4, .inr (3, [.ref f1, .ref f2, .ref f3])), (f1, .inl (ta.1, 6, .inl (fun jx => nI (len jx)))), (f2, .inl (ta.1, 72, .inl (fun jx => nI (ent jx)))), (f3, .inl (ta.1, 40, .inl (cnt)))] (none) := by
  refine sr_ofW (y := yXB_demandBlockOf) (cc := cXB_demandBlockOf) (nL := 3) (ret := none) (by decide) (Nat.le_of_ble_eq_true rfl) (fun p e s m below meth c G hr hlk hnm => ?_)
  refine sw_eq (ws' := [(h0, .inr (5, [.ref h1, .int (nI sg), .ref h2, .ref h3, .ref h4, .ref h5, .ref h6, .ref h7])), (h4, .inr (3, [.ref f1, .ref f2, .ref f3])), (f1, .inl (ta.1, 6, .inl (fun jx => nI (len jx)))), (f2, .inl (ta.1, 72, .inl (fun jx => nI (ent jx)))), (f3, .inl (ta.1, 40, .inl (cnt)))]) (lv2 := [(0, .ref h0), (1, .int (nI k)), (2, .int (nI b))]) (pc2 := 0) (st2 := []) rfl ?_
  refine sw_iload_n G dXB_demandBlockOf_0 rfl 1 rfl ?_
  refine sw_readS (As := [.int (nI k)]) (rest := []) G (c_XB_demandFile l D ta k (by omega)) (va_cwS 1 G.2.2.2.2.1 (sb_goodS wd_329 wd_330 wd_1 wd_331) rfl rfl rfl (by decide +kernel) ⟨Nat.le_of_ble_eq_true rfl, Nat.le_of_ble_eq_true rfl⟩) rfl rfl (Nat.le_of_ble_eq_true rfl) dXB_demandBlockOf_1 ⟨Nat.le_of_ble_eq_true rfl, Nat.le_of_ble_eq_true rfl⟩ [] rfl (by decide) ?_
  refine sw_eq (ws' := [(h0, .inr (5, [.ref h1, .int (nI sg), .ref h2, .ref h3, .ref h4, .ref h5, .ref h6, .ref h7])), (h4, .inr (3, [.ref f1, .ref f2, .ref f3])), (f1, .inl (ta.1, 6, .inl (fun jx => nI (len jx)))), (f2, .inl (ta.1, 72, .inl (fun jx => nI (ent jx)))), (f3, .inl (ta.1, 40, .inl (cnt)))]) (lv2 := [(0, .ref h0), (1, .int (nI k)), (2, .int (nI b))]) (pc2 := 4) (st2 := []) rfl ?_
  refine sw_iload_n G dXB_demandBlockOf_4 rfl 2 rfl ?_
  refine sw_if_lt (x := nI b) (tgt := 20) G dXB_demandBlockOf_5 (by decide) (fun br5 => ?_) (fun br5 => ?_)
  · exact absurd br5 (nI_pos (by omega))
  · refine sw_iload_n G dXB_demandBlockOf_8 rfl 2 rfl ?_
    refine sw_aload_n G dXB_demandBlockOf_9 rfl 0 rfl ?_
    refine sw_get (C := RXB) (T := TXB) (ref := RXB) (N := 8) G inXB 0 rfl rfl 4 (by decide) wd_113 rfl rfl dXB_demandBlockOf_10 ?_
    refine sw_iload_n G dXB_demandBlockOf_13 rfl 1 rfl ?_
    refine sw_readV (As := [.int (nI k)]) (rest := [.int (nI b)]) G (c_XR_length l D ta h4 f1 f2 f3 len ent cnt k (by omega)) (cwV 1 G.2.2.2.2.1 (sb_goodV wd_353 wd_167 wd_168 wd_5 wd_169) rfl rfl rfl (by decide +kernel) ⟨Nat.le_of_ble_eq_true rfl, Nat.le_of_ble_eq_true rfl⟩) 1 3 rfl rfl rfl rfl (Nat.le_of_ble_eq_true rfl) dXB_demandBlockOf_14 ⟨Nat.le_of_ble_eq_true rfl, Nat.le_of_ble_eq_true rfl⟩ [1, 2, 3, 4] rfl (by decide) ?_
    refine sw_eq (ws' := [(h0, .inr (5, [.ref h1, .int (nI sg), .ref h2, .ref h3, .ref h4, .ref h5, .ref h6, .ref h7])), (h4, .inr (3, [.ref f1, .ref f2, .ref f3])), (f1, .inl (ta.1, 6, .inl (fun jx => nI (len jx)))), (f2, .inl (ta.1, 72, .inl (fun jx => nI (ent jx)))), (f3, .inl (ta.1, 40, .inl (cnt)))]) (lv2 := [(0, .ref h0), (1, .int (nI k)), (2, .int (nI b))]) (pc2 := 17) (st2 := [.int (nI (len k)), .int (nI b)]) rfl ?_
    refine sw_icmpN_lt (a := b) (b := len k) (tgt := 30) G dXB_demandBlockOf_17 (by decide) (by omega) (by omega) (fun br17 => ?_) (fun br17 => ?_)
    · exact sr_vret G hr hlk (rfl) dXB_demandBlockOf_30
    · exact absurd br17 (by omega)
