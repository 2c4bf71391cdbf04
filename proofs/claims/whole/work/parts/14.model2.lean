abbrev cXM_takeOut : ByteArray := prog_9_method_13_code
abbrev yXM_takeOut : MethodName := ⟨RXM, "takeOut", "(I)V"⟩
abbrev wsXM_takeOut : List Cond := .code yXM_takeOut cXM_takeOut 4 none :: sbT
theorem dXM_takeOut_0 : decode cXM_takeOut 0 = .ok (.iconst 0, 1) := by decide +kernel
theorem dXM_takeOut_1 : decode cXM_takeOut 1 = .ok (.istore_n 2, 1) := by decide +kernel
theorem dXM_takeOut_2 : decode cXM_takeOut 2 = .ok (.aload_n 0, 1) := by decide +kernel
theorem dXM_takeOut_3 : decode cXM_takeOut 3 = .ok (.getfield 32, 3) := by decide +kernel
theorem dXM_takeOut_6 : decode cXM_takeOut 6 = .ok (.iload_n 2, 1) := by decide +kernel
theorem dXM_takeOut_7 : decode cXM_takeOut 7 = .ok (.iaload, 1) := by decide +kernel
theorem dXM_takeOut_8 : decode cXM_takeOut 8 = .ok (.iload_n 1, 1) := by decide +kernel
theorem dXM_takeOut_9 : decode cXM_takeOut 9 = .ok (.if_icmp .eq 9, 3) := by decide +kernel
theorem dXM_takeOut_12 : decode cXM_takeOut 12 = .ok (.iinc 2 1, 3) := by decide +kernel
theorem dXM_takeOut_15 : decode cXM_takeOut 15 = .ok (.goto (-13), 3) := by decide +kernel
theorem dXM_takeOut_18 : decode cXM_takeOut 18 = .ok (.aload_n 0, 1) := by decide +kernel
theorem dXM_takeOut_19 : decode cXM_takeOut 19 = .ok (.getfield 32, 3) := by decide +kernel
theorem dXM_takeOut_22 : decode cXM_takeOut 22 = .ok (.iload_n 2, 1) := by decide +kernel
theorem dXM_takeOut_23 : decode cXM_takeOut 23 = .ok (.iconst (-1), 1) := by decide +kernel
theorem dXM_takeOut_24 : decode cXM_takeOut 24 = .ok (.iastore, 1) := by decide +kernel
theorem dXM_takeOut_25 : decode cXM_takeOut 25 = .ok (.iload_n 2, 1) := by decide +kernel
theorem dXM_takeOut_26 : decode cXM_takeOut 26 = .ok (.iconst 1, 1) := by decide +kernel
theorem dXM_takeOut_27 : decode cXM_takeOut 27 = .ok (.iadd, 1) := by decide +kernel
theorem dXM_takeOut_28 : decode cXM_takeOut 28 = .ok (.bipush 64, 2) := by decide +kernel
theorem dXM_takeOut_30 : decode cXM_takeOut 30 = .ok (.irem, 1) := by decide +kernel
theorem dXM_takeOut_31 : decode cXM_takeOut 31 = .ok (.istore_n 2, 1) := by decide +kernel
theorem dXM_takeOut_32 : decode cXM_takeOut 32 = .ok (.aload_n 0, 1) := by decide +kernel
theorem dXM_takeOut_33 : decode cXM_takeOut 33 = .ok (.getfield 32, 3) := by decide +kernel
theorem dXM_takeOut_36 : decode cXM_takeOut 36 = .ok (.iload_n 2, 1) := by decide +kernel
theorem dXM_takeOut_37 : decode cXM_takeOut 37 = .ok (.iaload, 1) := by decide +kernel
theorem dXM_takeOut_38 : decode cXM_takeOut 38 = .ok (.ifCond .lt 32, 3) := by decide +kernel
theorem dXM_takeOut_41 : decode cXM_takeOut 41 = .ok (.aload_n 0, 1) := by decide +kernel
theorem dXM_takeOut_42 : decode cXM_takeOut 42 = .ok (.getfield 32, 3) := by decide +kernel
theorem dXM_takeOut_45 : decode cXM_takeOut 45 = .ok (.iload_n 2, 1) := by decide +kernel
theorem dXM_takeOut_46 : decode cXM_takeOut 46 = .ok (.iaload, 1) := by decide +kernel
theorem dXM_takeOut_47 : decode cXM_takeOut 47 = .ok (.istore_n 3, 1) := by decide +kernel
theorem dXM_takeOut_48 : decode cXM_takeOut 48 = .ok (.aload_n 0, 1) := by decide +kernel
theorem dXM_takeOut_49 : decode cXM_takeOut 49 = .ok (.getfield 32, 3) := by decide +kernel
theorem dXM_takeOut_52 : decode cXM_takeOut 52 = .ok (.iload_n 2, 1) := by decide +kernel
theorem dXM_takeOut_53 : decode cXM_takeOut 53 = .ok (.iconst (-1), 1) := by decide +kernel
theorem dXM_takeOut_54 : decode cXM_takeOut 54 = .ok (.iastore, 1) := by decide +kernel
theorem dXM_takeOut_55 : decode cXM_takeOut 55 = .ok (.aload_n 0, 1) := by decide +kernel
theorem dXM_takeOut_56 : decode cXM_takeOut 56 = .ok (.iload_n 3, 1) := by decide +kernel
theorem dXM_takeOut_57 : decode cXM_takeOut 57 = .ok (.invokevirtual 64, 3) := by decide +kernel
theorem dXM_takeOut_60 : decode cXM_takeOut 60 = .ok (.iload_n 2, 1) := by decide +kernel
theorem dXM_takeOut_61 : decode cXM_takeOut 61 = .ok (.iconst 1, 1) := by decide +kernel
theorem dXM_takeOut_62 : decode cXM_takeOut 62 = .ok (.iadd, 1) := by decide +kernel
theorem dXM_takeOut_63 : decode cXM_takeOut 63 = .ok (.bipush 64, 2) := by decide +kernel
theorem dXM_takeOut_65 : decode cXM_takeOut 65 = .ok (.irem, 1) := by decide +kernel
theorem dXM_takeOut_66 : decode cXM_takeOut 66 = .ok (.istore_n 2, 1) := by decide +kernel
theorem dXM_takeOut_67 : decode cXM_takeOut 67 = .ok (.goto (-35), 3) := by decide +kernel
theorem dXM_takeOut_70 : decode cXM_takeOut 70 = .ok (.return_, 1) := by decide +kernel
abbrev cXM_isIndexed : ByteArray := prog_9_method_14_code
abbrev yXM_isIndexed : MethodName := ⟨RXM, "isIndexed", "(I)Z"⟩
abbrev wsXM_isIndexed : List Cond := .code yXM_isIndexed cXM_isIndexed 4 (some .boolean) :: sbT
theorem dXM_isIndexed_0 : decode cXM_isIndexed 0 = .ok (.iconst 0, 1) := by decide +kernel
theorem dXM_isIndexed_1 : decode cXM_isIndexed 1 = .ok (.istore_n 2, 1) := by decide +kernel
theorem dXM_isIndexed_2 : decode cXM_isIndexed 2 = .ok (.iconst 0, 1) := by decide +kernel
theorem dXM_isIndexed_3 : decode cXM_isIndexed 3 = .ok (.istore_n 3, 1) := by decide +kernel
theorem dXM_isIndexed_4 : decode cXM_isIndexed 4 = .ok (.iload_n 3, 1) := by decide +kernel
theorem dXM_isIndexed_5 : decode cXM_isIndexed 5 = .ok (.bipush 64, 2) := by decide +kernel
theorem dXM_isIndexed_7 : decode cXM_isIndexed 7 = .ok (.if_icmp .ge 29, 3) := by decide +kernel
theorem dXM_isIndexed_10 : decode cXM_isIndexed 10 = .ok (.iload_n 2, 1) := by decide +kernel
theorem dXM_isIndexed_11 : decode cXM_isIndexed 11 = .ok (.ifCond .ne 13, 3) := by decide +kernel
theorem dXM_isIndexed_14 : decode cXM_isIndexed 14 = .ok (.aload_n 0, 1) := by decide +kernel
theorem dXM_isIndexed_15 : decode cXM_isIndexed 15 = .ok (.getfield 32, 3) := by decide +kernel
theorem dXM_isIndexed_18 : decode cXM_isIndexed 18 = .ok (.iload_n 3, 1) := by decide +kernel
theorem dXM_isIndexed_19 : decode cXM_isIndexed 19 = .ok (.iaload, 1) := by decide +kernel
theorem dXM_isIndexed_20 : decode cXM_isIndexed 20 = .ok (.iload_n 1, 1) := by decide +kernel
theorem dXM_isIndexed_21 : decode cXM_isIndexed 21 = .ok (.if_icmp .ne 7, 3) := by decide +kernel
theorem dXM_isIndexed_24 : decode cXM_isIndexed 24 = .ok (.iconst 1, 1) := by decide +kernel
theorem dXM_isIndexed_25 : decode cXM_isIndexed 25 = .ok (.goto 4, 3) := by decide +kernel
theorem dXM_isIndexed_28 : decode cXM_isIndexed 28 = .ok (.iconst 0, 1) := by decide +kernel
theorem dXM_isIndexed_29 : decode cXM_isIndexed 29 = .ok (.istore_n 2, 1) := by decide +kernel
theorem dXM_isIndexed_30 : decode cXM_isIndexed 30 = .ok (.iinc 3 1, 3) := by decide +kernel
theorem dXM_isIndexed_33 : decode cXM_isIndexed 33 = .ok (.goto (-29), 3) := by decide +kernel
theorem dXM_isIndexed_36 : decode cXM_isIndexed 36 = .ok (.iload_n 2, 1) := by decide +kernel
theorem dXM_isIndexed_37 : decode cXM_isIndexed 37 = .ok (.ireturn, 1) := by decide +kernel
abbrev cXM_sweep : ByteArray := prog_9_method_15_code
abbrev yXM_sweep : MethodName := ⟨RXM, "sweep", "()I"⟩
abbrev wsXM_sweep : List Cond := .code yXM_sweep cXM_sweep 3 (some .int) :: sbT
theorem dXM_sweep_0 : decode cXM_sweep 0 = .ok (.iconst 0, 1) := by decide +kernel
theorem dXM_sweep_1 : decode cXM_sweep 1 = .ok (.istore_n 1, 1) := by decide +kernel
theorem dXM_sweep_2 : decode cXM_sweep 2 = .ok (.iconst 0, 1) := by decide +kernel
theorem dXM_sweep_3 : decode cXM_sweep 3 = .ok (.istore_n 2, 1) := by decide +kernel
theorem dXM_sweep_4 : decode cXM_sweep 4 = .ok (.iload_n 2, 1) := by decide +kernel
theorem dXM_sweep_5 : decode cXM_sweep 5 = .ok (.bipush 40, 2) := by decide +kernel
theorem dXM_sweep_7 : decode cXM_sweep 7 = .ok (.if_icmp .ge 33, 3) := by decide +kernel
theorem dXM_sweep_10 : decode cXM_sweep 10 = .ok (.aload_n 0, 1) := by decide +kernel
theorem dXM_sweep_11 : decode cXM_sweep 11 = .ok (.iload_n 2, 1) := by decide +kernel
theorem dXM_sweep_12 : decode cXM_sweep 12 = .ok (.invokevirtual 71, 3) := by decide +kernel
theorem dXM_sweep_15 : decode cXM_sweep 15 = .ok (.ifCond .eq 19, 3) := by decide +kernel
theorem dXM_sweep_18 : decode cXM_sweep 18 = .ok (.aload_n 0, 1) := by decide +kernel
theorem dXM_sweep_19 : decode cXM_sweep 19 = .ok (.iload_n 2, 1) := by decide +kernel
theorem dXM_sweep_20 : decode cXM_sweep 20 = .ok (.invokevirtual 74, 3) := by decide +kernel
theorem dXM_sweep_23 : decode cXM_sweep 23 = .ok (.ifCond .ne 11, 3) := by decide +kernel
theorem dXM_sweep_26 : decode cXM_sweep 26 = .ok (.aload_n 0, 1) := by decide +kernel
theorem dXM_sweep_27 : decode cXM_sweep 27 = .ok (.iload_n 2, 1) := by decide +kernel
theorem dXM_sweep_28 : decode cXM_sweep 28 = .ok (.invokevirtual 77, 3) := by decide +kernel
theorem dXM_sweep_31 : decode cXM_sweep 31 = .ok (.iinc 1 1, 3) := by decide +kernel
theorem dXM_sweep_34 : decode cXM_sweep 34 = .ok (.iinc 2 1, 3) := by decide +kernel
theorem dXM_sweep_37 : decode cXM_sweep 37 = .ok (.goto (-33), 3) := by decide +kernel
theorem dXM_sweep_40 : decode cXM_sweep 40 = .ok (.iload_n 1, 1) := by decide +kernel
theorem dXM_sweep_41 : decode cXM_sweep 41 = .ok (.ireturn, 1) := by decide +kernel
abbrev cXM_makeAnew : ByteArray := prog_9_method_16_code
abbrev yXM_makeAnew : MethodName := ⟨RXM, "makeAnew", "()V"⟩
abbrev wsXM_makeAnew : List Cond := .code yXM_makeAnew cXM_makeAnew 2 none :: sbT
theorem dXM_makeAnew_0 : decode cXM_makeAnew 0 = .ok (.iconst 0, 1) := by decide +kernel
theorem dXM_makeAnew_1 : decode cXM_makeAnew 1 = .ok (.istore_n 1, 1) := by decide +kernel
theorem dXM_makeAnew_2 : decode cXM_makeAnew 2 = .ok (.iload_n 1, 1) := by decide +kernel
theorem dXM_makeAnew_3 : decode cXM_makeAnew 3 = .ok (.bipush 64, 2) := by decide +kernel
theorem dXM_makeAnew_5 : decode cXM_makeAnew 5 = .ok (.if_icmp .ge 23, 3) := by decide +kernel
theorem dXM_makeAnew_8 : decode cXM_makeAnew 8 = .ok (.aload_n 0, 1) := by decide +kernel
theorem dXM_makeAnew_9 : decode cXM_makeAnew 9 = .ok (.getfield 32, 3) := by decide +kernel
theorem dXM_makeAnew_12 : decode cXM_makeAnew 12 = .ok (.iload_n 1, 1) := by decide +kernel
theorem dXM_makeAnew_13 : decode cXM_makeAnew 13 = .ok (.iconst (-1), 1) := by decide +kernel
theorem dXM_makeAnew_14 : decode cXM_makeAnew 14 = .ok (.iastore, 1) := by decide +kernel
theorem dXM_makeAnew_15 : decode cXM_makeAnew 15 = .ok (.aload_n 0, 1) := by decide +kernel
theorem dXM_makeAnew_16 : decode cXM_makeAnew 16 = .ok (.getfield 35, 3) := by decide +kernel
theorem dXM_makeAnew_19 : decode cXM_makeAnew 19 = .ok (.iload_n 1, 1) := by decide +kernel
theorem dXM_makeAnew_20 : decode cXM_makeAnew 20 = .ok (.iconst 0, 1) := by decide +kernel
theorem dXM_makeAnew_21 : decode cXM_makeAnew 21 = .ok (.bastore, 1) := by decide +kernel
theorem dXM_makeAnew_22 : decode cXM_makeAnew 22 = .ok (.iinc 1 1, 3) := by decide +kernel
theorem dXM_makeAnew_25 : decode cXM_makeAnew 25 = .ok (.goto (-23), 3) := by decide +kernel
theorem dXM_makeAnew_28 : decode cXM_makeAnew 28 = .ok (.iconst 0, 1) := by decide +kernel
theorem dXM_makeAnew_29 : decode cXM_makeAnew 29 = .ok (.istore_n 1, 1) := by decide +kernel
theorem dXM_makeAnew_30 : decode cXM_makeAnew 30 = .ok (.iload_n 1, 1) := by decide +kernel
theorem dXM_makeAnew_31 : decode cXM_makeAnew 31 = .ok (.bipush 40, 2) := by decide +kernel
theorem dXM_makeAnew_33 : decode cXM_makeAnew 33 = .ok (.if_icmp .ge 22, 3) := by decide +kernel
theorem dXM_makeAnew_36 : decode cXM_makeAnew 36 = .ok (.aload_n 0, 1) := by decide +kernel
theorem dXM_makeAnew_37 : decode cXM_makeAnew 37 = .ok (.iload_n 1, 1) := by decide +kernel
theorem dXM_makeAnew_38 : decode cXM_makeAnew 38 = .ok (.invokevirtual 74, 3) := by decide +kernel
theorem dXM_makeAnew_41 : decode cXM_makeAnew 41 = .ok (.ifCond .eq 8, 3) := by decide +kernel
theorem dXM_makeAnew_44 : decode cXM_makeAnew 44 = .ok (.aload_n 0, 1) := by decide +kernel
theorem dXM_makeAnew_45 : decode cXM_makeAnew 45 = .ok (.iload_n 1, 1) := by decide +kernel
theorem dXM_makeAnew_46 : decode cXM_makeAnew 46 = .ok (.invokevirtual 80, 3) := by decide +kernel
theorem dXM_makeAnew_49 : decode cXM_makeAnew 49 = .ok (.iinc 1 1, 3) := by decide +kernel
theorem dXM_makeAnew_52 : decode cXM_makeAnew 52 = .ok (.goto (-22), 3) := by decide +kernel
theorem dXM_makeAnew_55 : decode cXM_makeAnew 55 = .ok (.return_, 1) := by decide +kernel
abbrev cXM_write : ByteArray := prog_9_method_17_code
abbrev yXM_write : MethodName := ⟨RXM, "write", "()Z"⟩
abbrev wsXM_write : List Cond := .code yXM_write cXM_write 1 (some .boolean) :: sbT
theorem dXM_write_0 : decode cXM_write 0 = .ok (.aload_n 0, 1) := by decide +kernel
theorem dXM_write_1 : decode cXM_write 1 = .ok (.getfield 9, 3) := by decide +kernel
theorem dXM_write_4 : decode cXM_write 4 = .ok (.ifCond .ne 10, 3) := by decide +kernel
theorem dXM_write_7 : decode cXM_write 7 = .ok (.aload_n 0, 1) := by decide +kernel
theorem dXM_write_8 : decode cXM_write 8 = .ok (.iconst 1, 1) := by decide +kernel
theorem dXM_write_9 : decode cXM_write 9 = .ok (.putfield 42, 3) := by decide +kernel
theorem dXM_write_12 : decode cXM_write 12 = .ok (.iconst 0, 1) := by decide +kernel
theorem dXM_write_13 : decode cXM_write 13 = .ok (.ireturn, 1) := by decide +kernel
theorem dXM_write_14 : decode cXM_write 14 = .ok (.aload_n 0, 1) := by decide +kernel
theorem dXM_write_15 : decode cXM_write 15 = .ok (.aload_n 0, 1) := by decide +kernel
theorem dXM_write_16 : decode cXM_write 16 = .ok (.getfield 9, 3) := by decide +kernel
theorem dXM_write_19 : decode cXM_write 19 = .ok (.ifCond .le 12, 3) := by decide +kernel
theorem dXM_write_22 : decode cXM_write 22 = .ok (.aload_n 0, 1) := by decide +kernel
theorem dXM_write_23 : decode cXM_write 23 = .ok (.getfield 9, 3) := by decide +kernel
theorem dXM_write_26 : decode cXM_write 26 = .ok (.iconst 1, 1) := by decide +kernel
theorem dXM_write_27 : decode cXM_write 27 = .ok (.isub, 1) := by decide +kernel
theorem dXM_write_28 : decode cXM_write 28 = .ok (.goto 7, 3) := by decide +kernel
theorem dXM_write_31 : decode cXM_write 31 = .ok (.aload_n 0, 1) := by decide +kernel
theorem dXM_write_32 : decode cXM_write 32 = .ok (.getfield 9, 3) := by decide +kernel
theorem dXM_write_35 : decode cXM_write 35 = .ok (.putfield 9, 3) := by decide +kernel
theorem dXM_write_38 : decode cXM_write 38 = .ok (.aload_n 0, 1) := by decide +kernel
theorem dXM_write_39 : decode cXM_write 39 = .ok (.dup, 1) := by decide +kernel
theorem dXM_write_40 : decode cXM_write 40 = .ok (.getfield 83, 3) := by decide +kernel
theorem dXM_write_43 : decode cXM_write 43 = .ok (.iconst 1, 1) := by decide +kernel
theorem dXM_write_44 : decode cXM_write 44 = .ok (.iadd, 1) := by decide +kernel
theorem dXM_write_45 : decode cXM_write 45 = .ok (.putfield 83, 3) := by decide +kernel
theorem dXM_write_48 : decode cXM_write 48 = .ok (.iconst 1, 1) := by decide +kernel
theorem dXM_write_49 : decode cXM_write 49 = .ok (.ireturn, 1) := by decide +kernel
abbrev cXM_passesGate : ByteArray := prog_9_method_20_code
abbrev yXM_passesGate : MethodName := ⟨RXM, "passesGate", "()Z"⟩
abbrev wsXM_passesGate : List Cond := .code yXM_passesGate cXM_passesGate 1 (some .boolean) :: sbT
theorem dXM_passesGate_0 : decode cXM_passesGate 0 = .ok (.aload_n 0, 1) := by decide +kernel
theorem dXM_passesGate_1 : decode cXM_passesGate 1 = .ok (.getfield 35, 3) := by decide +kernel
theorem dXM_passesGate_4 : decode cXM_passesGate 4 = .ok (.aload_n 0, 1) := by decide +kernel
theorem dXM_passesGate_5 : decode cXM_passesGate 5 = .ok (.iconst (-1), 1) := by decide +kernel
theorem dXM_passesGate_6 : decode cXM_passesGate 6 = .ok (.iconst 0, 1) := by decide +kernel
theorem dXM_passesGate_7 : decode cXM_passesGate 7 = .ok (.invokevirtual 68, 3) := by decide +kernel
theorem dXM_passesGate_10 : decode cXM_passesGate 10 = .ok (.baload, 1) := by decide +kernel
theorem dXM_passesGate_11 : decode cXM_passesGate 11 = .ok (.ifCond .eq 35, 3) := by decide +kernel
theorem dXM_passesGate_14 : decode cXM_passesGate 14 = .ok (.aload_n 0, 1) := by decide +kernel
theorem dXM_passesGate_15 : decode cXM_passesGate 15 = .ok (.getfield 35, 3) := by decide +kernel
theorem dXM_passesGate_18 : decode cXM_passesGate 18 = .ok (.aload_n 0, 1) := by decide +kernel
theorem dXM_passesGate_19 : decode cXM_passesGate 19 = .ok (.iconst (-1), 1) := by decide +kernel
theorem dXM_passesGate_20 : decode cXM_passesGate 20 = .ok (.iconst 1, 1) := by decide +kernel
theorem dXM_passesGate_21 : decode cXM_passesGate 21 = .ok (.invokevirtual 68, 3) := by decide +kernel
theorem dXM_passesGate_24 : decode cXM_passesGate 24 = .ok (.baload, 1) := by decide +kernel
theorem dXM_passesGate_25 : decode cXM_passesGate 25 = .ok (.ifCond .eq 21, 3) := by decide +kernel
theorem dXM_passesGate_28 : decode cXM_passesGate 28 = .ok (.aload_n 0, 1) := by decide +kernel
theorem dXM_passesGate_29 : decode cXM_passesGate 29 = .ok (.getfield 35, 3) := by decide +kernel
theorem dXM_passesGate_32 : decode cXM_passesGate 32 = .ok (.aload_n 0, 1) := by decide +kernel
theorem dXM_passesGate_33 : decode cXM_passesGate 33 = .ok (.iconst (-1), 1) := by decide +kernel
theorem dXM_passesGate_34 : decode cXM_passesGate 34 = .ok (.iconst 2, 1) := by decide +kernel
theorem dXM_passesGate_35 : decode cXM_passesGate 35 = .ok (.invokevirtual 68, 3) := by decide +kernel
theorem dXM_passesGate_38 : decode cXM_passesGate 38 = .ok (.baload, 1) := by decide +kernel
theorem dXM_passesGate_39 : decode cXM_passesGate 39 = .ok (.ifCond .eq 7, 3) := by decide +kernel
theorem dXM_passesGate_42 : decode cXM_passesGate 42 = .ok (.iconst 1, 1) := by decide +kernel
theorem dXM_passesGate_43 : decode cXM_passesGate 43 = .ok (.goto 4, 3) := by decide +kernel
theorem dXM_passesGate_46 : decode cXM_passesGate 46 = .ok (.iconst 0, 1) := by decide +kernel
theorem dXM_passesGate_47 : decode cXM_passesGate 47 = .ok (.ireturn, 1) := by decide +kernel
abbrev cXM_isFile : ByteArray := prog_9_method_21_code
abbrev yXM_isFile : MethodName := ⟨RXM, "isFile", "(I)Z"⟩
abbrev wsXM_isFile : List Cond := .code yXM_isFile cXM_isFile 1 (some .boolean) :: sbT
theorem dXM_isFile_0 : decode cXM_isFile 0 = .ok (.iload_n 0, 1) := by decide +kernel
theorem dXM_isFile_1 : decode cXM_isFile 1 = .ok (.ifCond .lt 13, 3) := by decide +kernel
theorem dXM_isFile_4 : decode cXM_isFile 4 = .ok (.iload_n 0, 1) := by decide +kernel
theorem dXM_isFile_5 : decode cXM_isFile 5 = .ok (.bipush 6, 2) := by decide +kernel
theorem dXM_isFile_7 : decode cXM_isFile 7 = .ok (.if_icmp .ge 7, 3) := by decide +kernel
theorem dXM_isFile_10 : decode cXM_isFile 10 = .ok (.iconst 1, 1) := by decide +kernel
theorem dXM_isFile_11 : decode cXM_isFile 11 = .ok (.goto 4, 3) := by decide +kernel
theorem dXM_isFile_14 : decode cXM_isFile 14 = .ok (.iconst 0, 1) := by decide +kernel
theorem dXM_isFile_15 : decode cXM_isFile 15 = .ok (.ireturn, 1) := by decide +kernel
theorem wd_678 : Cond.methodLink RXM 71 yXM_isIndexed ∈ sbT := sb_in 678 (by decide +kernel) rfl
theorem wd_680 : Cond.instanceMethod yXM_isIndexed ∈ sbT := sb_in 680 (by decide +kernel) rfl
theorem ws_XM_isIndexed : Cond.selects RXM yXM_isIndexed yXM_isIndexed ∈ sbT := sb_sel (q := (yXM_isIndexed, 15)) 27 (by decide +kernel)
theorem wd_681 : Cond.code yXM_isIndexed cXM_isIndexed 4 (some .boolean) ∈ sbT := sb_in 681 (by decide +kernel) rfl
theorem wd_650 : Cond.methodLink RXM 74 yXM_isUsed ∈ sbT := sb_in 650 (by decide +kernel) rfl
theorem wd_652 : Cond.instanceMethod yXM_isUsed ∈ sbT := sb_in 652 (by decide +kernel) rfl
theorem ws_XM_isUsed : Cond.selects RXM yXM_isUsed yXM_isUsed ∈ sbT := sb_sel (q := (yXM_isUsed, 15)) 21 (by decide +kernel)
theorem wd_653 : Cond.code yXM_isUsed cXM_isUsed 5 (some .boolean) ∈ sbT := sb_in 653 (by decide +kernel) rfl
theorem wd_682 : Cond.methodLink RXM 77 yXM_takeOut ∈ sbT := sb_in 682 (by decide +kernel) rfl
theorem wd_684 : Cond.instanceMethod yXM_takeOut ∈ sbT := sb_in 684 (by decide +kernel) rfl
theorem ws_XM_takeOut : Cond.selects RXM yXM_takeOut yXM_takeOut ∈ sbT := sb_sel (q := (yXM_takeOut, 15)) 28 (by decide +kernel)
theorem wd_685 : Cond.code yXM_takeOut cXM_takeOut 4 none ∈ sbT := sb_in 685 (by decide +kernel) rfl
theorem wd_662 : Cond.methodLink RXM 80 yXM_putIn ∈ sbT := sb_in 662 (by decide +kernel) rfl
theorem wd_664 : Cond.instanceMethod yXM_putIn ∈ sbT := sb_in 664 (by decide +kernel) rfl
theorem ws_XM_putIn : Cond.selects RXM yXM_putIn yXM_putIn ∈ sbT := sb_sel (q := (yXM_putIn, 15)) 24 (by decide +kernel)
theorem wd_665 : Cond.code yXM_putIn cXM_putIn 3 none ∈ sbT := sb_in 665 (by decide +kernel) rfl
theorem wd_554 : Cond.fieldLink RXM 9 RXM "left" "I" ∈ sbT := sb_in 554 (by decide +kernel) rfl
theorem wd_555 : Cond.fieldLink RXM 83 RXM "writes" "I" ∈ sbT := sb_in 555 (by decide +kernel) rfl
set_option maxRecDepth 100000 in
set_option maxHeartbeats 4000000 in
theorem c_XM_takeOut (l : Launch) (D : va_G) (ta : ClassId × ClassId × ClassId) (q0 : Nat) (q1 : Nat) (q2 : Nat) (q3 : Nat) (q4 : Nat) (q5 : Nat) (q6 : Nat) (q7 : Nat) (q8 : Nat) (flt : Int32) (dn : Bool) (left : Int32) (wr : Int32) (pr : Int32) (sg : Nat) (g : Nat → Int32) (w : Nat → Int32) (num : Int32) (cel : Nat → Option Nat) (pos : Nat → Option Nat) (b : Nat) (hole : Nat) (s0 : Nat) (hb40 : b < 40) (hh : hole < 64) (hcb : cel hole = some b) (hfst : ∀ u, u < hole → cel u ≠ some b) (h1s : 1 ≤ s0) (h63 : s0 ≤ 63) (hpi : ix_pi cel (hmN w)) (hemp : cel ((hole + s0) % 64) = none) (hrun : ∀ t, 1 ≤ t → t < s0 → cel ((hole + t) % 64) ≠ none) (hI : ix_I (hmN w) cel hole s0 1 (va_up cel hole none, va_up pos b none)) (hbd : ∀ j b, j < 64 → cel j = some b → b < 40) : sm (S := Unit) l yXM_takeOut wsXM_takeOut ({ frames := 3, cells := 0, slots := 0, locals := 67 }) D ta [.ref q0, .int (nI b)] [(q0, .inr (6, [.int flt, .int (sp_b dn), .int left, .int wr, .int pr, .int (nI sg), .ref q1, .ref q2, .ref q3, .ref q4, .ref q5, .ref q6, .int num, .ref q7, .ref q8])), (q1, .inl (ta.1, 4, .inl (g))), (q2, .inl (ta.1, 160, .inl (w))), (q7, .inl (ta.1, 64, .inl (fun jx => sp_o (cel jx))))] (fun _ => True) (fun _ => none) (fun _ => [(q0, .inr (6, [.int flt, .int (sp_b dn), .int left, .int wr, .int pr, .int (nI sg), .ref q1, .ref q2, .ref q3, .ref q4, .ref q5, .ref q6, .int num, .ref q7, .ref q8])), (q1, .inl (ta.1, 4, .inl (g))), (q2, .inl (ta.1, 160, .inl (w))), (q7, .inl (ta.1, 64, .inl (fun jx => sp_o (((ix_sh (hmN w) hole 63 1 (va_up cel hole none, va_up pos b none)).1) jx))))]) := by
  refine sm_ofW (y := yXM_takeOut) (cc := cXM_takeOut) (nL := 4) (ret := none) (by decide) (Nat.le_of_ble_eq_true rfl) (fun p e s m below meth c G hr hlk hnm => ?_)
  refine sw_eq (ws' := [(q0, .inr (6, [.int flt, .int (sp_b dn), .int left, .int wr, .int pr, .int (nI sg), .ref q1, .ref q2, .ref q3, .ref q4, .ref q5, .ref q6, .int num, .ref q7, .ref q8])), (q1, .inl (ta.1, 4, .inl (g))), (q2, .inl (ta.1, 160, .inl (w))), (q7, .inl (ta.1, 64, .inl (fun jx => sp_o (cel jx))))]) (lv2 := [(0, .ref q0), (1, .int (nI b))]) (pc2 := 0) (st2 := []) rfl ?_
  refine sw_iconst (v := nI 0) G dXM_takeOut_0 (by decide) ?_
  refine sw_istore_n G dXM_takeOut_1 rfl (by decide) (lv' := [(2, .int (nI 0)), (0, .ref q0), (1, .int (nI b))]) rfl ?_
  refine sw_lv [1, 2, 0] (lv' := [(0, .ref q0), (1, .int (nI b)), (2, .int (nI 0))]) rfl ?_
  have L2 : ∀ (NN : Nat) (u : Nat), hole - u < NN → (u ≤ hole) → sw p l e ({ frames := 3, cells := 0, slots := 0, locals := 67 }) s m ([.ref q0, .int (nI b)]).toArray below meth c 4 D (va_A [(q0, .inr (6, [.int flt, .int (sp_b dn), .int left, .int wr, .int pr, .int (nI sg), .ref q1, .ref q2, .ref q3, .ref q4, .ref q5, .ref q6, .int num, .ref q7, .ref q8])), (q1, .inl (ta.1, 4, .inl (g))), (q2, .inl (ta.1, 160, .inl (w))), (q7, .inl (ta.1, 64, .inl (fun jx => sp_o (cel jx))))] s.heap.size) (MQ below (sb_Q D ta [(q0, .inr (6, [.int flt, .int (sp_b dn), .int left, .int wr, .int pr, .int (nI sg), .ref q1, .ref q2, .ref q3, .ref q4, .ref q5, .ref q6, .int num, .ref q7, .ref q8])), (q1, .inl (ta.1, 4, .inl (g))), (q2, .inl (ta.1, 160, .inl (w))), (q7, .inl (ta.1, 64, .inl (fun jx => sp_o (cel jx))))] s.heap.size (fun _ : Unit => True) (fun _ => none) (fun _ => [(q0, .inr (6, [.int flt, .int (sp_b dn), .int left, .int wr, .int pr, .int (nI sg), .ref q1, .ref q2, .ref q3, .ref q4, .ref q5, .ref q6, .int num, .ref q7, .ref q8])), (q1, .inl (ta.1, 4, .inl (g))), (q2, .inl (ta.1, 160, .inl (w))), (q7, .inl (ta.1, 64, .inl (fun jx => sp_o (((ix_sh (hmN w) hole 63 1 (va_up cel hole none, va_up pos b none)).1) jx))))])) ([.ref q0, .int (nI b)]).toArray s 0 0 (va_A [(q0, .inr (6, [.int flt, .int (sp_b dn), .int left, .int wr, .int pr, .int (nI sg), .ref q1, .ref q2, .ref q3, .ref q4, .ref q5, .ref q6, .int num, .ref q7, .ref q8])), (q1, .inl (ta.1, 4, .inl (g))), (q2, .inl (ta.1, 160, .inl (w))), (q7, .inl (ta.1, 64, .inl (fun jx => sp_o (cel jx))))] s.heap.size)) true 0 0 [(q0, .inr (6, [.int flt, .int (sp_b dn), .int left, .int wr, .int pr, .int (nI sg), .ref q1, .ref q2, .ref q3, .ref q4, .ref q5, .ref q6, .int num, .ref q7, .ref q8])), (q1, .inl (ta.1, 4, .inl (g))), (q2, .inl (ta.1, 160, .inl (w))), (q7, .inl (ta.1, 64, .inl (fun jx => sp_o (cel jx))))] [(0, .ref q0), (1, .int (nI b)), (2, .int (nI u))] 2 [] := by
    intro NN
    induction NN with
    | zero => intro u hNN; exact absurd hNN (Nat.not_lt_zero _)
    | succ NN ih2 =>
      intro u hNN hu
      refine sw_aload_n G dXM_takeOut_2 rfl 0 rfl ?_
      refine sw_get (C := RXM) (T := TXM) (ref := RXM) (N := 15) G inXM 0 rfl rfl 13 (by decide) wd_565 rfl rfl dXM_takeOut_3 ?_
      refine sw_iload_n G dXM_takeOut_6 rfl 2 rfl ?_
      refine sw_ialdN (j := u) (v := sp_o (cel u)) G 3 rfl (by omega) (by decide) (rfl) dXM_takeOut_7 ?_
      refine sw_iload_n G dXM_takeOut_8 rfl 1 rfl ?_
      refine sw_icmp_eq (x := sp_o (cel u)) (y := nI b) (tgt := 18) G dXM_takeOut_9 (by decide) (fun br9 => ?_) (fun br9 => ?_)
      · have hcu := (sp_o_nI (fun b2 hb2 => by have := hbd _ b2 (by omega) hb2; omega) (by omega)).mp br9
        have e0 : u = hole := by
          rcases Nat.lt_or_ge u hole with h | h
          · exact absurd hcu (hfst u h)
          · omega
        refine sw_eq (ws' := [(q0, .inr (6, [.int flt, .int (sp_b dn), .int left, .int wr, .int pr, .int (nI sg), .ref q1, .ref q2, .ref q3, .ref q4, .ref q5, .ref q6, .int num, .ref q7, .ref q8])), (q1, .inl (ta.1, 4, .inl (g))), (q2, .inl (ta.1, 160, .inl (w))), (q7, .inl (ta.1, 64, .inl (fun jx => sp_o (cel jx))))]) (lv2 := [(0, .ref q0), (1, .int (nI b)), (2, .int (nI hole))]) (pc2 := 18) (st2 := []) (by rw [e0]) ?_
        refine sw_aload_n G dXM_takeOut_18 rfl 0 rfl ?_
        refine sw_get (C := RXM) (T := TXM) (ref := RXM) (N := 15) G inXM 0 rfl rfl 13 (by decide) wd_565 rfl rfl dXM_takeOut_19 ?_
        refine sw_iload_n G dXM_takeOut_22 rfl 2 rfl ?_
        refine sw_iconst (v := -1) G dXM_takeOut_23 (by decide) ?_
        refine sw_iastN (j := hole) (x := -1) G 3 rfl (by omega) (by decide) dXM_takeOut_24 (f' := fun jx => sp_o ((va_up cel hole none) jx)) (sp_upO _ _ none) (ws' := [(q0, .inr (6, [.int flt, .int (sp_b dn), .int left, .int wr, .int pr, .int (nI sg), .ref q1, .ref q2, .ref q3, .ref q4, .ref q5, .ref q6, .int num, .ref q7, .ref q8])), (q1, .inl (ta.1, 4, .inl (g))), (q2, .inl (ta.1, 160, .inl (w))), (q7, .inl (ta.1, 64, .inl (fun jx => sp_o ((va_up cel hole none) jx))))]) rfl ?_
        refine sw_iload_n G dXM_takeOut_25 rfl 2 rfl ?_
        refine sw_iconst (v := nI 1) G dXM_takeOut_26 (by decide) ?_
        refine sw_iadd (x := nI hole) (y := nI 1) (v := nI (hole + 1)) G dXM_takeOut_27 (sp_add _ _) ?_
        refine sw_bipush (v := nI 64) G dXM_takeOut_28 (by decide) ?_
        refine sw_irem (x := nI (hole + 1)) (y := nI 64) (v := nI ((hole + 1) % 64)) G dXM_takeOut_30 (by decide) (pk_rem (by omega) (by decide) (by decide)) ?_
        refine sw_istore_n G dXM_takeOut_31 rfl (by decide) (lv' := [(2, .int (nI ((hole + 1) % 64))), (0, .ref q0), (1, .int (nI b))]) rfl ?_
        refine sw_lv [1, 2, 0] (lv' := [(0, .ref q0), (1, .int (nI b)), (2, .int (nI ((hole + 1) % 64)))]) rfl ?_
        have L32 : ∀ (NN : Nat) (s1 : Nat) (x : (Nat → Option Nat) × (Nat → Option Nat)), s0 - s1 < NN → (1 ≤ s1) → (s1 ≤ s0) → (ix_I (hmN w) cel hole s0 s1 x) → (ix_sh (hmN w) hole (64 - s1) s1 x = ix_sh (hmN w) hole 63 1 (va_up cel hole none, va_up pos b none)) → sw p l e ({ frames := 3, cells := 0, slots := 0, locals := 67 }) s m ([.ref q0, .int (nI b)]).toArray below meth c 4 D (va_A [(q0, .inr (6, [.int flt, .int (sp_b dn), .int left, .int wr, .int pr, .int (nI sg), .ref q1, .ref q2, .ref q3, .ref q4, .ref q5, .ref q6, .int num, .ref q7, .ref q8])), (q1, .inl (ta.1, 4, .inl (g))), (q2, .inl (ta.1, 160, .inl (w))), (q7, .inl (ta.1, 64, .inl (fun jx => sp_o (cel jx))))] s.heap.size) (MQ below (sb_Q D ta [(q0, .inr (6, [.int flt, .int (sp_b dn), .int left, .int wr, .int pr, .int (nI sg), .ref q1, .ref q2, .ref q3, .ref q4, .ref q5, .ref q6, .int num, .ref q7, .ref q8])), (q1, .inl (ta.1, 4, .inl (g))), (q2, .inl (ta.1, 160, .inl (w))), (q7, .inl (ta.1, 64, .inl (fun jx => sp_o (cel jx))))] s.heap.size (fun _ : Unit => True) (fun _ => none) (fun _ => [(q0, .inr (6, [.int flt, .int (sp_b dn), .int left, .int wr, .int pr, .int (nI sg), .ref q1, .ref q2, .ref q3, .ref q4, .ref q5, .ref q6, .int num, .ref q7, .ref q8])), (q1, .inl (ta.1, 4, .inl (g))), (q2, .inl (ta.1, 160, .inl (w))), (q7, .inl (ta.1, 64, .inl (fun jx => sp_o (((ix_sh (hmN w) hole 63 1 (va_up cel hole none, va_up pos b none)).1) jx))))])) ([.ref q0, .int (nI b)]).toArray s 0 0 (va_A [(q0, .inr (6, [.int flt, .int (sp_b dn), .int left, .int wr, .int pr, .int (nI sg), .ref q1, .ref q2, .ref q3, .ref q4, .ref q5, .ref q6, .int num, .ref q7, .ref q8])), (q1, .inl (ta.1, 4, .inl (g))), (q2, .inl (ta.1, 160, .inl (w))), (q7, .inl (ta.1, 64, .inl (fun jx => sp_o (cel jx))))] s.heap.size)) false 0 0 [(q0, .inr (6, [.int flt, .int (sp_b dn), .int left, .int wr, .int pr, .int (nI sg), .ref q1, .ref q2, .ref q3, .ref q4, .ref q5, .ref q6, .int num, .ref q7, .ref q8])), (q1, .inl (ta.1, 4, .inl (g))), (q2, .inl (ta.1, 160, .inl (w))), (q7, .inl (ta.1, 64, .inl (fun jx => sp_o (x.1 jx))))] [(0, .ref q0), (1, .int (nI b)), (2, .int (nI ((hole + s1) % 64)))] 32 [] := by
          intro NN
          induction NN with
          | zero => intro s1 x hNN; exact absurd hNN (Nat.not_lt_zero _)
          | succ NN ih32 =>
            intro s1 x hNN hs1 hs2 hIx hfin
            refine sw_aload_n G dXM_takeOut_32 rfl 0 rfl ?_
            rcases hcx : x.1 ((hole + s1) % 64) with _ | b1
            · refine sw_get (C := RXM) (T := TXM) (ref := RXM) (N := 15) G inXM 0 rfl rfl 13 (by decide) wd_565 rfl rfl dXM_takeOut_33 ?_
              refine sw_iload_n G dXM_takeOut_36 rfl 2 rfl ?_
              refine sw_ialdN (j := (hole + s1) % 64) (v := -1) G 3 rfl (by omega) (by decide) (by rw [hcx]; rfl) dXM_takeOut_37 ?_
              refine sw_if_lt (x := -1) (tgt := 70) G dXM_takeOut_38 (by decide) (fun br38 => ?_) (fun br38 => ?_)
              · refine sw_sub [0, 1, 2, 3] (by decide) (ws' := [(q0, .inr (6, [.int flt, .int (sp_b dn), .int left, .int wr, .int pr, .int (nI sg), .ref q1, .ref q2, .ref q3, .ref q4, .ref q5, .ref q6, .int num, .ref q7, .ref q8])), (q1, .inl (ta.1, 4, .inl (g))), (q2, .inl (ta.1, 160, .inl (w))), (q7, .inl (ta.1, 64, .inl (fun jx => sp_o (x.1 jx))))]) rfl rfl ?_
                refine sw_eq (ws' := [(q0, .inr (6, [.int flt, .int (sp_b dn), .int left, .int wr, .int pr, .int (nI sg), .ref q1, .ref q2, .ref q3, .ref q4, .ref q5, .ref q6, .int num, .ref q7, .ref q8])), (q1, .inl (ta.1, 4, .inl (g))), (q2, .inl (ta.1, 160, .inl (w))), (q7, .inl (ta.1, 64, .inl (fun jx => sp_o (((ix_sh (hmN w) hole 63 1 (va_up cel hole none, va_up pos b none)).1) jx))))]) (lv2 := [(0, .ref q0), (1, .int (nI b)), (2, .int (nI ((hole + s1) % 64)))]) (pc2 := 70) (st2 := []) (by rw [← hfin, ix_sh_none hcx]) ?_
                exact sw_vret G hr hlk () trivial (rfl) [0, 1, 2, 3] (by decide) rfl rfl dXM_takeOut_70
              · exact absurd (by decide) br38
            · refine sw_get (C := RXM) (T := TXM) (ref := RXM) (N := 15) G inXM 0 rfl rfl 13 (by decide) wd_565 rfl rfl dXM_takeOut_33 ?_
              obtain ⟨j0, hj0, hc0, -⟩ := hIx.2.2.2.2 _ _ (Nat.mod_lt _ (by decide)) hcx
              have hb := hbd _ _ hj0 hc0
              have hlt : s1 < s0 := by
                rcases Nat.lt_or_ge s1 s0 with h | h
                · exact h
                · have e : s1 = s0 := by omega
                  have h2 := hIx.1 s1 (Nat.le_refl _) hs2
                  rw [hcx, e, hemp] at h2
                  cases h2
              obtain ⟨z1, z2, z3⟩ := ix_s_spec (ix_own (cel := x.1) (Nat.mod_lt (hole + s1) (by decide)) (hmN_lt w b1))
              refine sw_iload_n G dXM_takeOut_36 rfl 2 rfl ?_
              refine sw_ialdN (j := (hole + s1) % 64) (v := nI b1) G 3 rfl (by omega) (by decide) (by rw [hcx]; rfl) dXM_takeOut_37 ?_
              refine sw_if_lt (x := nI b1) (tgt := 70) G dXM_takeOut_38 (by decide) (fun br38 => ?_) (fun br38 => ?_)
              · exact absurd br38 (nI_pos (by omega))
              · refine sw_aload_n G dXM_takeOut_41 rfl 0 rfl ?_
                refine sw_get (C := RXM) (T := TXM) (ref := RXM) (N := 15) G inXM 0 rfl rfl 13 (by decide) wd_565 rfl rfl dXM_takeOut_42 ?_
                refine sw_iload_n G dXM_takeOut_45 rfl 2 rfl ?_
                refine sw_ialdN (j := (hole + s1) % 64) (v := nI b1) G 3 rfl (by omega) (by decide) (by rw [hcx]; rfl) dXM_takeOut_46 ?_
                refine sw_istore_n G dXM_takeOut_47 rfl (by decide) (lv' := [(3, .int (nI b1)), (0, .ref q0), (1, .int (nI b)), (2, .int (nI ((hole + s1) % 64)))]) rfl ?_
                refine sw_aload_n G dXM_takeOut_48 rfl 1 rfl ?_
                refine sw_get (C := RXM) (T := TXM) (ref := RXM) (N := 15) G inXM 0 rfl rfl 13 (by decide) wd_565 rfl rfl dXM_takeOut_49 ?_
                refine sw_iload_n G dXM_takeOut_52 rfl 3 rfl ?_
                refine sw_iconst (v := -1) G dXM_takeOut_53 (by decide) ?_
                refine sw_iastN (j := (hole + s1) % 64) (x := -1) G 3 rfl (by omega) (by decide) dXM_takeOut_54 (f' := fun jx => sp_o ((va_up x.1 ((hole + s1) % 64) none) jx)) (sp_upO _ _ none) (ws' := [(q0, .inr (6, [.int flt, .int (sp_b dn), .int left, .int wr, .int pr, .int (nI sg), .ref q1, .ref q2, .ref q3, .ref q4, .ref q5, .ref q6, .int num, .ref q7, .ref q8])), (q1, .inl (ta.1, 4, .inl (g))), (q2, .inl (ta.1, 160, .inl (w))), (q7, .inl (ta.1, 64, .inl (fun jx => sp_o ((va_up x.1 ((hole + s1) % 64) none) jx))))]) rfl ?_
                refine sw_aload_n G dXM_takeOut_55 rfl 1 rfl ?_
                refine sw_iload_n G dXM_takeOut_56 rfl 0 rfl ?_
                refine sw_callV (As := [.int (nI b1)]) (rest := []) G (c_XM_place l D ta q0 q1 q2 q3 q4 q5 q6 q7 q8 flt dn left wr pr sg g w num (va_up x.1 ((hole + s1) % 64) none) b1 (ix_s (va_up x.1 ((hole + s1) % 64) none) (hmN w b1)) (by omega) (z1) (z2) (z3) (fun j b2 hj hb2 => by
          by_cases hq : j = (hole + s1) % 64
          · subst hq; rw [ix_up_eq] at hb2; cases hb2
          · rw [ix_up_ne hq] at hb2
            obtain ⟨j1, hj1, hc1, -⟩ := hIx.2.2.2.2 _ _ hj hb2
            exact hbd _ _ hj1 hc1)) (cwV 1 G.2.2.2.2.1 (sb_goodV wd_666 wd_668 ws_XM_place wd_8 wd_669) rfl rfl rfl (by decide +kernel) ⟨Nat.le_of_ble_eq_true rfl, Nat.le_of_ble_eq_true rfl⟩) 0 6 rfl rfl rfl rfl (Nat.le_of_ble_eq_true rfl) dXM_takeOut_57 ⟨Nat.le_of_ble_eq_true rfl, Nat.le_of_ble_eq_true rfl⟩ [0, 1, 2, 3] [] rfl (wr := []) rfl (by decide) (by decide) (by decide) (fun _ _ => ?_)
                refine sw_eq (ws' := [(q0, .inr (6, [.int flt, .int (sp_b dn), .int left, .int wr, .int pr, .int (nI sg), .ref q1, .ref q2, .ref q3, .ref q4, .ref q5, .ref q6, .int num, .ref q7, .ref q8])), (q1, .inl (ta.1, 4, .inl (g))), (q2, .inl (ta.1, 160, .inl (w))), (q7, .inl (ta.1, 64, .inl (fun jx => sp_o ((va_up (va_up x.1 ((hole + s1) % 64) none) ((hmN w b1 + (ix_s (va_up x.1 ((hole + s1) % 64) none) (hmN w b1))) % 64) (some b1)) jx))))]) (lv2 := [(3, .int (nI b1)), (0, .ref q0), (1, .int (nI b)), (2, .int (nI ((hole + s1) % 64)))]) (pc2 := 60) (st2 := []) rfl ?_
                refine sw_iload_n G dXM_takeOut_60 rfl 3 rfl ?_
                refine sw_iconst (v := nI 1) G dXM_takeOut_61 (by decide) ?_
                refine sw_iadd (x := nI ((hole + s1) % 64)) (y := nI 1) (v := nI (((hole + s1) % 64) + 1)) G dXM_takeOut_62 (sp_add _ _) ?_
                refine sw_bipush (v := nI 64) G dXM_takeOut_63 (by decide) ?_
                refine sw_irem (x := nI (((hole + s1) % 64) + 1)) (y := nI 64) (v := nI ((((hole + s1) % 64) + 1) % 64)) G dXM_takeOut_65 (by decide) (pk_rem (by omega) (by decide) (by decide)) ?_
                refine sw_istore_n G dXM_takeOut_66 rfl (by decide) (lv' := [(2, .int (nI ((((hole + s1) % 64) + 1) % 64))), (3, .int (nI b1)), (0, .ref q0), (1, .int (nI b))]) rfl ?_
                refine sw_goto (tgt := 32) G dXM_takeOut_67 (by decide) ?_
                refine sw_lv [2, 3, 0] (lv' := [(0, .ref q0), (1, .int (nI b)), (2, .int (nI ((((hole + s1) % 64) + 1) % 64)))]) rfl ?_
                refine sw_eq (ws' := [(q0, .inr (6, [.int flt, .int (sp_b dn), .int left, .int wr, .int pr, .int (nI sg), .ref q1, .ref q2, .ref q3, .ref q4, .ref q5, .ref q6, .int num, .ref q7, .ref q8])), (q1, .inl (ta.1, 4, .inl (g))), (q2, .inl (ta.1, 160, .inl (w))), (q7, .inl (ta.1, 64, .inl (fun jx => sp_o (((ix_mv (hmN w) hole s1 b1 x).1) jx))))]) (lv2 := [(0, .ref q0), (1, .int (nI b)), (2, .int (nI ((hole + (s1 + 1)) % 64)))]) (pc2 := 32) (st2 := []) (by rw [show ((hole + s1) % 64 + 1) % 64 = (hole + (s1 + 1)) % 64 by omega] <;> rfl) ?_
                exact ih32 (s1 + 1) (ix_mv (hmN w) hole s1 b1 x) (by omega) (by omega) (by omega) (ix_step (fun b => hmN_lt w b) hh hs1 hlt h63 hpi hemp hrun hcx hIx) (by rw [← hfin, show 64 - s1 = (64 - (s1 + 1)) + 1 by omega, ix_sh_some hcx])
        exact L32 _ 1 (va_up cel hole none, va_up pos b none) (Nat.lt_succ_self _) (Nat.le_refl _) (h1s) (hI) (rfl)
      · refine sw_iinc (x := nI u) (v := nI (u + 1)) G dXM_takeOut_12 (q := 2) rfl (sp_inc _) (by decide) (lv' := [(2, .int (nI (u + 1))), (0, .ref q0), (1, .int (nI b))]) rfl ?_
        refine sw_goto (tgt := 2) G dXM_takeOut_15 (by decide) ?_
        refine sw_lv [1, 2, 0] (lv' := [(0, .ref q0), (1, .int (nI b)), (2, .int (nI (u + 1)))]) rfl ?_
        have hlt : u < hole := by
          rcases Nat.lt_or_ge u hole with h | h
          · exact h
          · exfalso
            have e : u = hole := by omega
            exact br9 (by rw [e, hcb]; rfl)
        refine sw_eq (ws' := [(q0, .inr (6, [.int flt, .int (sp_b dn), .int left, .int wr, .int pr, .int (nI sg), .ref q1, .ref q2, .ref q3, .ref q4, .ref q5, .ref q6, .int num, .ref q7, .ref q8])), (q1, .inl (ta.1, 4, .inl (g))), (q2, .inl (ta.1, 160, .inl (w))), (q7, .inl (ta.1, 64, .inl (fun jx => sp_o (cel jx))))]) (lv2 := [(0, .ref q0), (1, .int (nI b)), (2, .int (nI (u + 1)))]) (pc2 := 2) (st2 := []) (rfl) ?_
        exact ih2 (u + 1) (by omega) (by omega)
  exact L2 _ 0 (Nat.lt_succ_self _) (Nat.zero_le _)

set_option maxRecDepth 100000 in
set_option maxHeartbeats 4000000 in
theorem c_XM_isIndexed (l : Launch) (D : va_G) (ta : ClassId × ClassId × ClassId) (q0 : Nat) (q1 : Nat) (q2 : Nat) (q3 : Nat) (q4 : Nat) (q5 : Nat) (q6 : Nat) (q7 : Nat) (q8 : Nat) (flt : Int32) (dn : Bool) (left : Int32) (wr : Int32) (pr : Int32) (sg : Nat) (num : Int32) (cel : Nat → Option Nat) (b : Nat) (hb : b < 40) (hbd : ∀ j b, j < 64 → cel j = some b → b < 40) : sr l yXM_isIndexed wsXM_isIndexed ({ frames := 0, cells := 0, slots := 0, locals := 0 }) D ta [.ref q0, .int (nI b)] [(q0, .inr (6, [.int flt, .int (sp_b dn), .int left, .int wr, .int pr, .int (nI sg), .ref q1, .ref q2, .ref q3, .ref q4, .ref q5, .ref q6, .int num, .ref q7, .ref q8])), (q7, .inl (ta.1, 64, .inl (fun jx => sp_o (cel jx))))] (some (.int (sp_b (ii cel b 64)))) := by
  refine sr_ofW (y := yXM_isIndexed) (cc := cXM_isIndexed) (nL := 4) (ret := (some .boolean)) (by decide) (Nat.le_of_ble_eq_true rfl) (fun p e s m below meth c G hr hlk hnm => ?_)
  refine sw_eq (ws' := [(q0, .inr (6, [.int flt, .int (sp_b dn), .int left, .int wr, .int pr, .int (nI sg), .ref q1, .ref q2, .ref q3, .ref q4, .ref q5, .ref q6, .int num, .ref q7, .ref q8])), (q7, .inl (ta.1, 64, .inl (fun jx => sp_o (cel jx))))]) (lv2 := [(0, .ref q0), (1, .int (nI b))]) (pc2 := 0) (st2 := []) rfl ?_
  refine sw_iconst (v := nI 0) G dXM_isIndexed_0 (by decide) ?_
  refine sw_istore_n G dXM_isIndexed_1 rfl (by decide) (lv' := [(2, .int (nI 0)), (0, .ref q0), (1, .int (nI b))]) rfl ?_
  refine sw_iconst (v := nI 0) G dXM_isIndexed_2 (by decide) ?_
  refine sw_istore_n G dXM_isIndexed_3 rfl (by decide) (lv' := [(3, .int (nI 0)), (2, .int (nI 0)), (0, .ref q0), (1, .int (nI b))]) rfl ?_
  refine sw_lv [2, 3, 1, 0] (lv' := [(0, .ref q0), (1, .int (nI b)), (2, .int (nI 0)), (3, .int (nI 0))]) rfl ?_
  have L4 : ∀ (NN : Nat) (j : Nat), 64 - j < NN → (j ≤ 64) → sw p l e ({ frames := 0, cells := 0, slots := 0, locals := 0 }) s m ([.ref q0, .int (nI b)]).toArray below meth c 4 D (va_A [(q0, .inr (6, [.int flt, .int (sp_b dn), .int left, .int wr, .int pr, .int (nI sg), .ref q1, .ref q2, .ref q3, .ref q4, .ref q5, .ref q6, .int num, .ref q7, .ref q8])), (q7, .inl (ta.1, 64, .inl (fun jx => sp_o (cel jx))))] s.heap.size) (MQ below (fun _ st_ oc_ t_ => oc_ = .returned (some (.int (sp_b (ii cel b 64)))) ∧ t_.heap = st_.heap) ([.ref q0, .int (nI b)]).toArray s 0 0 (fun _ => False)) true 0 0 [(q0, .inr (6, [.int flt, .int (sp_b dn), .int left, .int wr, .int pr, .int (nI sg), .ref q1, .ref q2, .ref q3, .ref q4, .ref q5, .ref q6, .int num, .ref q7, .ref q8])), (q7, .inl (ta.1, 64, .inl (fun jx => sp_o (cel jx))))] [(0, .ref q0), (1, .int (nI b)), (2, .int (sp_b (ii cel b j))), (3, .int (nI j))] 4 [] := by
    intro NN
    induction NN with
    | zero => intro j hNN; exact absurd hNN (Nat.not_lt_zero _)
    | succ NN ih4 =>
      intro j hNN hj
      refine sw_iload_n G dXM_isIndexed_4 rfl 3 rfl ?_
      refine sw_bipush (v := nI 64) G dXM_isIndexed_5 (by decide) ?_
      refine sw_icmpN_ge (a := j) (b := 64) (tgt := 36) G dXM_isIndexed_7 (by decide) (by omega) (by omega) (fun br7 => ?_) (fun br7 => ?_)
      · refine sw_iload_n G dXM_isIndexed_36 rfl 2 rfl ?_
        exact sr_zret (x := sp_b (ii cel b j)) G hr hlk (by rw [show j = 64 by omega]) (sp_b_nar _) dXM_isIndexed_37
      · refine sw_iload_n G dXM_isIndexed_10 rfl 2 rfl ?_
        refine sw_if_ne (x := sp_b (ii cel b j)) (tgt := 24) G dXM_isIndexed_11 (by decide) (fun br11 => ?_) (fun br11 => ?_)
        · refine sw_iconst (v := nI 1) G dXM_isIndexed_24 (by decide) ?_
          refine sw_goto (tgt := 29) G dXM_isIndexed_25 (by decide) ?_
          refine sw_istore_n G dXM_isIndexed_29 rfl (by decide) (lv' := [(2, .int (nI 1)), (0, .ref q0), (1, .int (nI b)), (3, .int (nI j))]) rfl ?_
          refine sw_iinc (x := nI j) (v := nI (j + 1)) G dXM_isIndexed_30 (q := 3) rfl (sp_inc _) (by decide) (lv' := [(3, .int (nI (j + 1))), (2, .int (nI 1)), (0, .ref q0), (1, .int (nI b))]) rfl ?_
          refine sw_goto (tgt := 4) G dXM_isIndexed_33 (by decide) ?_
          refine sw_lv [2, 3, 1, 0] (lv' := [(0, .ref q0), (1, .int (nI b)), (2, .int (nI 1)), (3, .int (nI (j + 1)))]) rfl ?_
          refine sw_eq (ws' := [(q0, .inr (6, [.int flt, .int (sp_b dn), .int left, .int wr, .int pr, .int (nI sg), .ref q1, .ref q2, .ref q3, .ref q4, .ref q5, .ref q6, .int num, .ref q7, .ref q8])), (q7, .inl (ta.1, 64, .inl (fun jx => sp_o (cel jx))))]) (lv2 := [(0, .ref q0), (1, .int (nI b)), (2, .int (sp_b (ii cel b (j + 1)))), (3, .int (nI (j + 1)))]) (pc2 := 4) (st2 := []) (by rw [ii_t ((sp_b_ne _).mp br11)] <;> rfl) ?_
          exact ih4 (j + 1) (by omega) (by omega)
        · refine sw_aload_n G dXM_isIndexed_14 rfl 0 rfl ?_
          refine sw_get (C := RXM) (T := TXM) (ref := RXM) (N := 15) G inXM 0 rfl rfl 13 (by decide) wd_565 rfl rfl dXM_isIndexed_15 ?_
          refine sw_iload_n G dXM_isIndexed_18 rfl 3 rfl ?_
          refine sw_ialdN (j := j) (v := sp_o (cel j)) G 1 rfl (by omega) (by decide) (rfl) dXM_isIndexed_19 ?_
          refine sw_iload_n G dXM_isIndexed_20 rfl 1 rfl ?_
          refine sw_icmp_ne (x := sp_o (cel j)) (y := nI b) (tgt := 28) G dXM_isIndexed_21 (by decide) (fun br21 => ?_) (fun br21 => ?_)
          · refine sw_iconst (v := nI 0) G dXM_isIndexed_28 (by decide) ?_
            refine sw_istore_n G dXM_isIndexed_29 rfl (by decide) (lv' := [(2, .int (nI 0)), (0, .ref q0), (1, .int (nI b)), (3, .int (nI j))]) rfl ?_
            refine sw_iinc (x := nI j) (v := nI (j + 1)) G dXM_isIndexed_30 (q := 3) rfl (sp_inc _) (by decide) (lv' := [(3, .int (nI (j + 1))), (2, .int (nI 0)), (0, .ref q0), (1, .int (nI b))]) rfl ?_
            refine sw_goto (tgt := 4) G dXM_isIndexed_33 (by decide) ?_
            refine sw_lv [2, 3, 1, 0] (lv' := [(0, .ref q0), (1, .int (nI b)), (2, .int (nI 0)), (3, .int (nI (j + 1)))]) rfl ?_
            refine sw_eq (ws' := [(q0, .inr (6, [.int flt, .int (sp_b dn), .int left, .int wr, .int pr, .int (nI sg), .ref q1, .ref q2, .ref q3, .ref q4, .ref q5, .ref q6, .int num, .ref q7, .ref q8])), (q7, .inl (ta.1, 64, .inl (fun jx => sp_o (cel jx))))]) (lv2 := [(0, .ref q0), (1, .int (nI b)), (2, .int (sp_b (ii cel b (j + 1)))), (3, .int (nI (j + 1)))]) (pc2 := 4) (st2 := []) (by rw [ii_f ((sp_b_eq _).mp br11) (fun q => br21 ((sp_o_nI (fun b2 hb2 => by have := hbd _ b2 br7 hb2; omega) (by omega)).mpr q))] <;> rfl) ?_
            exact ih4 (j + 1) (by omega) (by omega)
          · refine sw_iconst (v := nI 1) G dXM_isIndexed_24 (by decide) ?_
            refine sw_goto (tgt := 29) G dXM_isIndexed_25 (by decide) ?_
            refine sw_istore_n G dXM_isIndexed_29 rfl (by decide) (lv' := [(2, .int (nI 1)), (0, .ref q0), (1, .int (nI b)), (3, .int (nI j))]) rfl ?_
            refine sw_iinc (x := nI j) (v := nI (j + 1)) G dXM_isIndexed_30 (q := 3) rfl (sp_inc _) (by decide) (lv' := [(3, .int (nI (j + 1))), (2, .int (nI 1)), (0, .ref q0), (1, .int (nI b))]) rfl ?_
            refine sw_goto (tgt := 4) G dXM_isIndexed_33 (by decide) ?_
            refine sw_lv [2, 3, 1, 0] (lv' := [(0, .ref q0), (1, .int (nI b)), (2, .int (nI 1)), (3, .int (nI (j + 1)))]) rfl ?_
            refine sw_eq (ws' := [(q0, .inr (6, [.int flt, .int (sp_b dn), .int left, .int wr, .int pr, .int (nI sg), .ref q1, .ref q2, .ref q3, .ref q4, .ref q5, .ref q6, .int num, .ref q7, .ref q8])), (q7, .inl (ta.1, 64, .inl (fun jx => sp_o (cel jx))))]) (lv2 := [(0, .ref q0), (1, .int (nI b)), (2, .int (sp_b (ii cel b (j + 1)))), (3, .int (nI (j + 1)))]) (pc2 := 4) (st2 := []) (by rw [ii_e ((sp_o_nI (fun b2 hb2 => by have := hbd _ b2 br7 hb2; omega) (by omega)).mp br21)] <;> rfl) ?_
            exact ih4 (j + 1) (by omega) (by omega)
  exact L4 _ 0 (Nat.lt_succ_self _) (Nat.zero_le _)

set_option maxRecDepth 100000 in
set_option maxHeartbeats 4000000 in
theorem c_XM_sweep (l : Launch) (D : va_G) (ta : ClassId × ClassId × ClassId) (q0 : Nat) (q1 : Nat) (q2 : Nat) (q3 : Nat) (q4 : Nat) (q5 : Nat) (q6 : Nat) (q7 : Nat) (q8 : Nat) (flt : Int32) (dn : Bool) (left : Int32) (wr : Int32) (pr : Int32) (sg : Nat) (g : Nat → Int32) (w : Nat → Int32) (ent : Nat → Nat) (len : Nat → Nat) (ent1 : Nat → Nat) (len1 : Nat → Nat) (num : Int32) (cel : Nat → Option Nat) (pos : Nat → Option Nat) (hl : ∀ f, f < 6 → len f ≤ 12) (he : ∀ f, f < 6 → ∀ k, k < len f → ent (12 * f + k) < 40) (hl1 : ∀ f, f < 6 → len1 f ≤ 12) (he1 : ∀ f, f < 6 → ∀ k, k < len1 f → ent1 (12 * f + k) < 40) (hT : ix_T cel pos (hmN w)) : sm (S := Unit) l yXM_sweep wsXM_sweep ({ frames := 4, cells := 0, slots := 0, locals := 90 }) D ta [.ref q0] [(q0, .inr (6, [.int flt, .int (sp_b dn), .int left, .int wr, .int pr, .int (nI sg), .ref q1, .ref q2, .ref q3, .ref q4, .ref q5, .ref q6, .int num, .ref q7, .ref q8])), (q1, .inl (ta.1, 4, .inl (g))), (q2, .inl (ta.1, 160, .inl (w))), (q3, .inl (ta.1, 72, .inl (fun jx => nI (ent jx)))), (q4, .inl (ta.1, 6, .inl (fun jx => nI (len jx)))), (q5, .inl (ta.1, 72, .inl (fun jx => nI (ent1 jx)))), (q6, .inl (ta.1, 6, .inl (fun jx => nI (len1 jx)))), (q7, .inl (ta.1, 64, .inl (fun jx => sp_o (cel jx))))] (fun _ => True) (fun _ => some (.int (nI ((tk (hmN w) (mu_b len ent len1 ent1) cel pos 40).2)))) (fun _ => [(q0, .inr (6, [.int flt, .int (sp_b dn), .int left, .int wr, .int pr, .int (nI sg), .ref q1, .ref q2, .ref q3, .ref q4, .ref q5, .ref q6, .int num, .ref q7, .ref q8])), (q1, .inl (ta.1, 4, .inl (g))), (q2, .inl (ta.1, 160, .inl (w))), (q3, .inl (ta.1, 72, .inl (fun jx => nI (ent jx)))), (q4, .inl (ta.1, 6, .inl (fun jx => nI (len jx)))), (q5, .inl (ta.1, 72, .inl (fun jx => nI (ent1 jx)))), (q6, .inl (ta.1, 6, .inl (fun jx => nI (len1 jx)))), (q7, .inl (ta.1, 64, .inl (fun jx => sp_o (((tk (hmN w) (mu_b len ent len1 ent1) cel pos 40).1.1) jx))))]) := by
  refine sm_ofW (y := yXM_sweep) (cc := cXM_sweep) (nL := 3) (ret := (some .int)) (by decide) (Nat.le_of_ble_eq_true rfl) (fun p e s m below meth c G hr hlk hnm => ?_)
  refine sw_eq (ws' := [(q0, .inr (6, [.int flt, .int (sp_b dn), .int left, .int wr, .int pr, .int (nI sg), .ref q1, .ref q2, .ref q3, .ref q4, .ref q5, .ref q6, .int num, .ref q7, .ref q8])), (q1, .inl (ta.1, 4, .inl (g))), (q2, .inl (ta.1, 160, .inl (w))), (q3, .inl (ta.1, 72, .inl (fun jx => nI (ent jx)))), (q4, .inl (ta.1, 6, .inl (fun jx => nI (len jx)))), (q5, .inl (ta.1, 72, .inl (fun jx => nI (ent1 jx)))), (q6, .inl (ta.1, 6, .inl (fun jx => nI (len1 jx)))), (q7, .inl (ta.1, 64, .inl (fun jx => sp_o (cel jx))))]) (lv2 := [(0, .ref q0)]) (pc2 := 0) (st2 := []) rfl ?_
  refine sw_iconst (v := nI 0) G dXM_sweep_0 (by decide) ?_
  refine sw_istore_n G dXM_sweep_1 rfl (by decide) (lv' := [(1, .int (nI 0)), (0, .ref q0)]) rfl ?_
  refine sw_iconst (v := nI 0) G dXM_sweep_2 (by decide) ?_
  refine sw_istore_n G dXM_sweep_3 rfl (by decide) (lv' := [(2, .int (nI 0)), (1, .int (nI 0)), (0, .ref q0)]) rfl ?_
  refine sw_z ?_
  refine sw_lv [2, 1, 0] (lv' := [(0, .ref q0), (1, .int (nI 0)), (2, .int (nI 0))]) rfl ?_
  have L4 : ∀ (NN : Nat) (b : Nat), 40 - b < NN → (b ≤ 40) → sw p l e ({ frames := 4, cells := 0, slots := 0, locals := 90 }) s m ([.ref q0]).toArray below meth c 3 D (va_A [(q0, .inr (6, [.int flt, .int (sp_b dn), .int left, .int wr, .int pr, .int (nI sg), .ref q1, .ref q2, .ref q3, .ref q4, .ref q5, .ref q6, .int num, .ref q7, .ref q8])), (q1, .inl (ta.1, 4, .inl (g))), (q2, .inl (ta.1, 160, .inl (w))), (q3, .inl (ta.1, 72, .inl (fun jx => nI (ent jx)))), (q4, .inl (ta.1, 6, .inl (fun jx => nI (len jx)))), (q5, .inl (ta.1, 72, .inl (fun jx => nI (ent1 jx)))), (q6, .inl (ta.1, 6, .inl (fun jx => nI (len1 jx)))), (q7, .inl (ta.1, 64, .inl (fun jx => sp_o (cel jx))))] s.heap.size) (MQ below (sb_Q D ta [(q0, .inr (6, [.int flt, .int (sp_b dn), .int left, .int wr, .int pr, .int (nI sg), .ref q1, .ref q2, .ref q3, .ref q4, .ref q5, .ref q6, .int num, .ref q7, .ref q8])), (q1, .inl (ta.1, 4, .inl (g))), (q2, .inl (ta.1, 160, .inl (w))), (q3, .inl (ta.1, 72, .inl (fun jx => nI (ent jx)))), (q4, .inl (ta.1, 6, .inl (fun jx => nI (len jx)))), (q5, .inl (ta.1, 72, .inl (fun jx => nI (ent1 jx)))), (q6, .inl (ta.1, 6, .inl (fun jx => nI (len1 jx)))), (q7, .inl (ta.1, 64, .inl (fun jx => sp_o (cel jx))))] s.heap.size (fun _ : Unit => True) (fun _ => some (.int (nI ((tk (hmN w) (mu_b len ent len1 ent1) cel pos 40).2)))) (fun _ => [(q0, .inr (6, [.int flt, .int (sp_b dn), .int left, .int wr, .int pr, .int (nI sg), .ref q1, .ref q2, .ref q3, .ref q4, .ref q5, .ref q6, .int num, .ref q7, .ref q8])), (q1, .inl (ta.1, 4, .inl (g))), (q2, .inl (ta.1, 160, .inl (w))), (q3, .inl (ta.1, 72, .inl (fun jx => nI (ent jx)))), (q4, .inl (ta.1, 6, .inl (fun jx => nI (len jx)))), (q5, .inl (ta.1, 72, .inl (fun jx => nI (ent1 jx)))), (q6, .inl (ta.1, 6, .inl (fun jx => nI (len1 jx)))), (q7, .inl (ta.1, 64, .inl (fun jx => sp_o (((tk (hmN w) (mu_b len ent len1 ent1) cel pos 40).1.1) jx))))])) ([.ref q0]).toArray s 0 0 (va_A [(q0, .inr (6, [.int flt, .int (sp_b dn), .int left, .int wr, .int pr, .int (nI sg), .ref q1, .ref q2, .ref q3, .ref q4, .ref q5, .ref q6, .int num, .ref q7, .ref q8])), (q1, .inl (ta.1, 4, .inl (g))), (q2, .inl (ta.1, 160, .inl (w))), (q3, .inl (ta.1, 72, .inl (fun jx => nI (ent jx)))), (q4, .inl (ta.1, 6, .inl (fun jx => nI (len jx)))), (q5, .inl (ta.1, 72, .inl (fun jx => nI (ent1 jx)))), (q6, .inl (ta.1, 6, .inl (fun jx => nI (len1 jx)))), (q7, .inl (ta.1, 64, .inl (fun jx => sp_o (cel jx))))] s.heap.size)) false 0 0 [(q0, .inr (6, [.int flt, .int (sp_b dn), .int left, .int wr, .int pr, .int (nI sg), .ref q1, .ref q2, .ref q3, .ref q4, .ref q5, .ref q6, .int num, .ref q7, .ref q8])), (q1, .inl (ta.1, 4, .inl (g))), (q2, .inl (ta.1, 160, .inl (w))), (q3, .inl (ta.1, 72, .inl (fun jx => nI (ent jx)))), (q4, .inl (ta.1, 6, .inl (fun jx => nI (len jx)))), (q5, .inl (ta.1, 72, .inl (fun jx => nI (ent1 jx)))), (q6, .inl (ta.1, 6, .inl (fun jx => nI (len1 jx)))), (q7, .inl (ta.1, 64, .inl (fun jx => sp_o (((tk (hmN w) (mu_b len ent len1 ent1) cel pos b).1.1) jx))))] [(0, .ref q0), (1, .int (nI ((tk (hmN w) (mu_b len ent len1 ent1) cel pos b).2))), (2, .int (nI b))] 4 [] := by
    intro NN
    induction NN with
    | zero => intro b hNN; exact absurd hNN (Nat.not_lt_zero _)
    | succ NN ih4 =>
      intro b hNN hb
      have hTb := tk_T (us := mu_b len ent len1 ent1) (fun b => hmN_lt w b) hT b
      refine sw_iload_n G dXM_sweep_4 rfl 2 rfl ?_
      refine sw_bipush (v := nI 40) G dXM_sweep_5 (by decide) ?_
      refine sw_icmpN_ge (a := b) (b := 40) (tgt := 40) G dXM_sweep_7 (by decide) (by omega) (by omega) (fun br7 => ?_) (fun br7 => ?_)
      · refine sw_iload_n G dXM_sweep_40 rfl 1 rfl ?_
        refine sw_sub [0, 1, 2, 3, 4, 5, 6, 7] (by decide) (ws' := [(q0, .inr (6, [.int flt, .int (sp_b dn), .int left, .int wr, .int pr, .int (nI sg), .ref q1, .ref q2, .ref q3, .ref q4, .ref q5, .ref q6, .int num, .ref q7, .ref q8])), (q1, .inl (ta.1, 4, .inl (g))), (q2, .inl (ta.1, 160, .inl (w))), (q3, .inl (ta.1, 72, .inl (fun jx => nI (ent jx)))), (q4, .inl (ta.1, 6, .inl (fun jx => nI (len jx)))), (q5, .inl (ta.1, 72, .inl (fun jx => nI (ent1 jx)))), (q6, .inl (ta.1, 6, .inl (fun jx => nI (len1 jx)))), (q7, .inl (ta.1, 64, .inl (fun jx => sp_o (((tk (hmN w) (mu_b len ent len1 ent1) cel pos b).1.1) jx))))]) rfl rfl ?_
        refine sw_eq (ws' := [(q0, .inr (6, [.int flt, .int (sp_b dn), .int left, .int wr, .int pr, .int (nI sg), .ref q1, .ref q2, .ref q3, .ref q4, .ref q5, .ref q6, .int num, .ref q7, .ref q8])), (q1, .inl (ta.1, 4, .inl (g))), (q2, .inl (ta.1, 160, .inl (w))), (q3, .inl (ta.1, 72, .inl (fun jx => nI (ent jx)))), (q4, .inl (ta.1, 6, .inl (fun jx => nI (len jx)))), (q5, .inl (ta.1, 72, .inl (fun jx => nI (ent1 jx)))), (q6, .inl (ta.1, 6, .inl (fun jx => nI (len1 jx)))), (q7, .inl (ta.1, 64, .inl (fun jx => sp_o (((tk (hmN w) (mu_b len ent len1 ent1) cel pos 40).1.1) jx))))]) (lv2 := [(0, .ref q0), (1, .int (nI ((tk (hmN w) (mu_b len ent len1 ent1) cel pos b).2))), (2, .int (nI b))]) (pc2 := 41) (st2 := [.int (nI ((tk (hmN w) (mu_b len ent len1 ent1) cel pos b).2))]) (by rw [show b = 40 by omega]) ?_
        exact sw_iret (x := nI ((tk (hmN w) (mu_b len ent len1 ent1) cel pos b).2)) G hr hlk () trivial (by rw [show b = 40 by omega]) [0, 1, 2, 3, 4, 5, 6, 7] (by decide) rfl rfl dXM_sweep_41
      · rcases hp : (tk (hmN w) (mu_b len ent len1 ent1) cel pos b).1.2 b with _ | hole
        · refine sw_aload_n G dXM_sweep_10 rfl 0 rfl ?_
          refine sw_iload_n G dXM_sweep_11 rfl 2 rfl ?_
          refine sw_readV (As := [.int (nI b)]) (rest := []) G (c_XM_isIndexed l D ta q0 q1 q2 q3 q4 q5 q6 q7 q8 flt dn left wr pr sg num ((tk (hmN w) (mu_b len ent len1 ent1) cel pos b).1.1) b (by omega) (fun j b1 hj hb1 => (hTb.1 j b1 hj hb1).1)) (cwV 1 G.2.2.2.2.1 (sb_goodV wd_678 wd_680 ws_XM_isIndexed wd_8 wd_681) rfl rfl rfl (by decide +kernel) ⟨Nat.le_of_ble_eq_true rfl, Nat.le_of_ble_eq_true rfl⟩) 0 6 rfl rfl rfl rfl (Nat.le_of_ble_eq_true rfl) dXM_sweep_12 ⟨Nat.le_of_ble_eq_true rfl, Nat.le_of_ble_eq_true rfl⟩ [0, 7] rfl (by decide) ?_
          refine sw_eq (ws' := [(q0, .inr (6, [.int flt, .int (sp_b dn), .int left, .int wr, .int pr, .int (nI sg), .ref q1, .ref q2, .ref q3, .ref q4, .ref q5, .ref q6, .int num, .ref q7, .ref q8])), (q1, .inl (ta.1, 4, .inl (g))), (q2, .inl (ta.1, 160, .inl (w))), (q3, .inl (ta.1, 72, .inl (fun jx => nI (ent jx)))), (q4, .inl (ta.1, 6, .inl (fun jx => nI (len jx)))), (q5, .inl (ta.1, 72, .inl (fun jx => nI (ent1 jx)))), (q6, .inl (ta.1, 6, .inl (fun jx => nI (len1 jx)))), (q7, .inl (ta.1, 64, .inl (fun jx => sp_o (((tk (hmN w) (mu_b len ent len1 ent1) cel pos b).1.1) jx))))]) (lv2 := [(0, .ref q0), (1, .int (nI ((tk (hmN w) (mu_b len ent len1 ent1) cel pos b).2))), (2, .int (nI b))]) (pc2 := 15) (st2 := [.int (sp_b (ii ((tk (hmN w) (mu_b len ent len1 ent1) cel pos b).1.1) b 64))]) rfl ?_
          refine sw_if_eq (x := sp_b (ii ((tk (hmN w) (mu_b len ent len1 ent1) cel pos b).1.1) b 64)) (tgt := 34) G dXM_sweep_15 (by decide) (fun br15 => ?_) (fun br15 => ?_)
          · refine sw_iinc (x := nI b) (v := nI (b + 1)) G dXM_sweep_34 (q := 2) rfl (sp_inc _) (by decide) (lv' := [(2, .int (nI (b + 1))), (0, .ref q0), (1, .int (nI ((tk (hmN w) (mu_b len ent len1 ent1) cel pos b).2)))]) rfl ?_
            refine sw_goto (tgt := 4) G dXM_sweep_37 (by decide) ?_
            refine sw_lv [1, 2, 0] (lv' := [(0, .ref q0), (1, .int (nI ((tk (hmN w) (mu_b len ent len1 ent1) cel pos b).2))), (2, .int (nI (b + 1)))]) rfl ?_
            refine sw_eq (ws' := [(q0, .inr (6, [.int flt, .int (sp_b dn), .int left, .int wr, .int pr, .int (nI sg), .ref q1, .ref q2, .ref q3, .ref q4, .ref q5, .ref q6, .int num, .ref q7, .ref q8])), (q1, .inl (ta.1, 4, .inl (g))), (q2, .inl (ta.1, 160, .inl (w))), (q3, .inl (ta.1, 72, .inl (fun jx => nI (ent jx)))), (q4, .inl (ta.1, 6, .inl (fun jx => nI (len jx)))), (q5, .inl (ta.1, 72, .inl (fun jx => nI (ent1 jx)))), (q6, .inl (ta.1, 6, .inl (fun jx => nI (len1 jx)))), (q7, .inl (ta.1, 64, .inl (fun jx => sp_o (((tk (hmN w) (mu_b len ent len1 ent1) cel pos (b + 1)).1.1) jx))))]) (lv2 := [(0, .ref q0), (1, .int (nI ((tk (hmN w) (mu_b len ent len1 ent1) cel pos (b + 1)).2))), (2, .int (nI (b + 1)))]) (pc2 := 4) (st2 := []) (by rw [tk_0 hp]) ?_
            exact ih4 (b + 1) (by omega) (by omega)
          · rw [ii_none hTb hp] at br15; exact absurd (by decide) br15
        · refine sw_aload_n G dXM_sweep_10 rfl 0 rfl ?_
          obtain ⟨hh, hcb⟩ := hTb.2.1 _ _ hp
          obtain ⟨s0, h1s, h63, hemp, hrun⟩ := ix_gap hTb hh
          refine sw_iload_n G dXM_sweep_11 rfl 2 rfl ?_
          refine sw_readV (As := [.int (nI b)]) (rest := []) G (c_XM_isIndexed l D ta q0 q1 q2 q3 q4 q5 q6 q7 q8 flt dn left wr pr sg num ((tk (hmN w) (mu_b len ent len1 ent1) cel pos b).1.1) b (by omega) (fun j b1 hj hb1 => (hTb.1 j b1 hj hb1).1)) (cwV 1 G.2.2.2.2.1 (sb_goodV wd_678 wd_680 ws_XM_isIndexed wd_8 wd_681) rfl rfl rfl (by decide +kernel) ⟨Nat.le_of_ble_eq_true rfl, Nat.le_of_ble_eq_true rfl⟩) 0 6 rfl rfl rfl rfl (Nat.le_of_ble_eq_true rfl) dXM_sweep_12 ⟨Nat.le_of_ble_eq_true rfl, Nat.le_of_ble_eq_true rfl⟩ [0, 7] rfl (by decide) ?_
          refine sw_eq (ws' := [(q0, .inr (6, [.int flt, .int (sp_b dn), .int left, .int wr, .int pr, .int (nI sg), .ref q1, .ref q2, .ref q3, .ref q4, .ref q5, .ref q6, .int num, .ref q7, .ref q8])), (q1, .inl (ta.1, 4, .inl (g))), (q2, .inl (ta.1, 160, .inl (w))), (q3, .inl (ta.1, 72, .inl (fun jx => nI (ent jx)))), (q4, .inl (ta.1, 6, .inl (fun jx => nI (len jx)))), (q5, .inl (ta.1, 72, .inl (fun jx => nI (ent1 jx)))), (q6, .inl (ta.1, 6, .inl (fun jx => nI (len1 jx)))), (q7, .inl (ta.1, 64, .inl (fun jx => sp_o (((tk (hmN w) (mu_b len ent len1 ent1) cel pos b).1.1) jx))))]) (lv2 := [(0, .ref q0), (1, .int (nI ((tk (hmN w) (mu_b len ent len1 ent1) cel pos b).2))), (2, .int (nI b))]) (pc2 := 15) (st2 := [.int (sp_b (ii ((tk (hmN w) (mu_b len ent len1 ent1) cel pos b).1.1) b 64))]) rfl ?_
          refine sw_if_eq (x := sp_b (ii ((tk (hmN w) (mu_b len ent len1 ent1) cel pos b).1.1) b 64)) (tgt := 34) G dXM_sweep_15 (by decide) (fun br15 => ?_) (fun br15 => ?_)
          · rw [ii_some hTb hp] at br15; exact absurd br15 (by decide)
          · refine sw_aload_n G dXM_sweep_18 rfl 0 rfl ?_
            refine sw_iload_n G dXM_sweep_19 rfl 2 rfl ?_
            refine sw_readV (As := [.int (nI b)]) (rest := []) G (c_XM_isUsed l D ta q0 q1 q2 q3 q4 q5 q6 q7 q8 flt dn left wr pr sg ent len ent1 len1 num b (by omega) (hl) (he) (hl1) (he1)) (cwV 1 G.2.2.2.2.1 (sb_goodV wd_650 wd_652 ws_XM_isUsed wd_8 wd_653) rfl rfl rfl (by decide +kernel) ⟨Nat.le_of_ble_eq_true rfl, Nat.le_of_ble_eq_true rfl⟩) 0 6 rfl rfl rfl rfl (Nat.le_of_ble_eq_true rfl) dXM_sweep_20 ⟨Nat.le_of_ble_eq_true rfl, Nat.le_of_ble_eq_true rfl⟩ [0, 3, 4, 5, 6] rfl (by decide) ?_
            refine sw_eq (ws' := [(q0, .inr (6, [.int flt, .int (sp_b dn), .int left, .int wr, .int pr, .int (nI sg), .ref q1, .ref q2, .ref q3, .ref q4, .ref q5, .ref q6, .int num, .ref q7, .ref q8])), (q1, .inl (ta.1, 4, .inl (g))), (q2, .inl (ta.1, 160, .inl (w))), (q3, .inl (ta.1, 72, .inl (fun jx => nI (ent jx)))), (q4, .inl (ta.1, 6, .inl (fun jx => nI (len jx)))), (q5, .inl (ta.1, 72, .inl (fun jx => nI (ent1 jx)))), (q6, .inl (ta.1, 6, .inl (fun jx => nI (len1 jx)))), (q7, .inl (ta.1, 64, .inl (fun jx => sp_o (((tk (hmN w) (mu_b len ent len1 ent1) cel pos b).1.1) jx))))]) (lv2 := [(0, .ref q0), (1, .int (nI ((tk (hmN w) (mu_b len ent len1 ent1) cel pos b).2))), (2, .int (nI b))]) (pc2 := 23) (st2 := [.int (sp_b (mu_b len ent len1 ent1 b))]) rfl ?_
            refine sw_if_ne (x := sp_b (mu_b len ent len1 ent1 b)) (tgt := 34) G dXM_sweep_23 (by decide) (fun br23 => ?_) (fun br23 => ?_)
            · refine sw_iinc (x := nI b) (v := nI (b + 1)) G dXM_sweep_34 (q := 2) rfl (sp_inc _) (by decide) (lv' := [(2, .int (nI (b + 1))), (0, .ref q0), (1, .int (nI ((tk (hmN w) (mu_b len ent len1 ent1) cel pos b).2)))]) rfl ?_
              refine sw_goto (tgt := 4) G dXM_sweep_37 (by decide) ?_
              refine sw_lv [1, 2, 0] (lv' := [(0, .ref q0), (1, .int (nI ((tk (hmN w) (mu_b len ent len1 ent1) cel pos b).2))), (2, .int (nI (b + 1)))]) rfl ?_
              refine sw_eq (ws' := [(q0, .inr (6, [.int flt, .int (sp_b dn), .int left, .int wr, .int pr, .int (nI sg), .ref q1, .ref q2, .ref q3, .ref q4, .ref q5, .ref q6, .int num, .ref q7, .ref q8])), (q1, .inl (ta.1, 4, .inl (g))), (q2, .inl (ta.1, 160, .inl (w))), (q3, .inl (ta.1, 72, .inl (fun jx => nI (ent jx)))), (q4, .inl (ta.1, 6, .inl (fun jx => nI (len jx)))), (q5, .inl (ta.1, 72, .inl (fun jx => nI (ent1 jx)))), (q6, .inl (ta.1, 6, .inl (fun jx => nI (len1 jx)))), (q7, .inl (ta.1, 64, .inl (fun jx => sp_o (((tk (hmN w) (mu_b len ent len1 ent1) cel pos (b + 1)).1.1) jx))))]) (lv2 := [(0, .ref q0), (1, .int (nI ((tk (hmN w) (mu_b len ent len1 ent1) cel pos (b + 1)).2))), (2, .int (nI (b + 1)))]) (pc2 := 4) (st2 := []) (by rw [tk_u ((sp_b_ne _).mp br23)]) ?_
              exact ih4 (b + 1) (by omega) (by omega)
            · refine sw_aload_n G dXM_sweep_26 rfl 0 rfl ?_
              refine sw_iload_n G dXM_sweep_27 rfl 2 rfl ?_
              refine sw_callV (As := [.int (nI b)]) (rest := []) G (c_XM_takeOut l D ta q0 q1 q2 q3 q4 q5 q6 q7 q8 flt dn left wr pr sg g w num ((tk (hmN w) (mu_b len ent len1 ent1) cel pos b).1.1) ((tk (hmN w) (mu_b len ent len1 ent1) cel pos b).1.2) b hole s0 (br7) (hh) (hcb) (fun u hu q => by have := (hTb.1 u b (by omega) q).2; rw [hp] at this; have := Option.some.inj this; omega) (h1s) (h63) (hTb.2.2) (hemp) (hrun) (ix_start hTb (fun b => hmN_lt w b) hp h1s h63 hemp hrun) (fun j b1 hj hb1 => (hTb.1 j b1 hj hb1).1)) (cwV 1 G.2.2.2.2.1 (sb_goodV wd_682 wd_684 ws_XM_takeOut wd_8 wd_685) rfl rfl rfl (by decide +kernel) ⟨Nat.le_of_ble_eq_true rfl, Nat.le_of_ble_eq_true rfl⟩) 0 6 rfl rfl rfl rfl (Nat.le_of_ble_eq_true rfl) dXM_sweep_28 ⟨Nat.le_of_ble_eq_true rfl, Nat.le_of_ble_eq_true rfl⟩ [0, 1, 2, 7] [3, 4, 5, 6] rfl (wr := [(q3, .inl (ta.1, 72, .inl (fun jx => nI (ent jx)))), (q4, .inl (ta.1, 6, .inl (fun jx => nI (len jx)))), (q5, .inl (ta.1, 72, .inl (fun jx => nI (ent1 jx)))), (q6, .inl (ta.1, 6, .inl (fun jx => nI (len1 jx))))]) rfl (by decide) (by decide) (by decide) (fun _ _ => ?_)
              refine sw_eq (ws' := [(q3, .inl (ta.1, 72, .inl (fun jx => nI (ent jx)))), (q4, .inl (ta.1, 6, .inl (fun jx => nI (len jx)))), (q5, .inl (ta.1, 72, .inl (fun jx => nI (ent1 jx)))), (q6, .inl (ta.1, 6, .inl (fun jx => nI (len1 jx)))), (q0, .inr (6, [.int flt, .int (sp_b dn), .int left, .int wr, .int pr, .int (nI sg), .ref q1, .ref q2, .ref q3, .ref q4, .ref q5, .ref q6, .int num, .ref q7, .ref q8])), (q1, .inl (ta.1, 4, .inl (g))), (q2, .inl (ta.1, 160, .inl (w))), (q7, .inl (ta.1, 64, .inl (fun jx => sp_o (((ix_sh (hmN w) hole 63 1 (va_up ((tk (hmN w) (mu_b len ent len1 ent1) cel pos b).1.1) hole none, va_up ((tk (hmN w) (mu_b len ent len1 ent1) cel pos b).1.2) b none)).1) jx))))]) (lv2 := [(0, .ref q0), (1, .int (nI ((tk (hmN w) (mu_b len ent len1 ent1) cel pos b).2))), (2, .int (nI b))]) (pc2 := 31) (st2 := []) rfl ?_
              refine sw_sub [4, 5, 6, 0, 1, 2, 3, 7] (by decide) (ws' := [(q0, .inr (6, [.int flt, .int (sp_b dn), .int left, .int wr, .int pr, .int (nI sg), .ref q1, .ref q2, .ref q3, .ref q4, .ref q5, .ref q6, .int num, .ref q7, .ref q8])), (q1, .inl (ta.1, 4, .inl (g))), (q2, .inl (ta.1, 160, .inl (w))), (q3, .inl (ta.1, 72, .inl (fun jx => nI (ent jx)))), (q4, .inl (ta.1, 6, .inl (fun jx => nI (len jx)))), (q5, .inl (ta.1, 72, .inl (fun jx => nI (ent1 jx)))), (q6, .inl (ta.1, 6, .inl (fun jx => nI (len1 jx)))), (q7, .inl (ta.1, 64, .inl (fun jx => sp_o (((ix_sh (hmN w) hole 63 1 (va_up ((tk (hmN w) (mu_b len ent len1 ent1) cel pos b).1.1) hole none, va_up ((tk (hmN w) (mu_b len ent len1 ent1) cel pos b).1.2) b none)).1) jx))))]) rfl rfl ?_
              refine sw_iinc (x := nI ((tk (hmN w) (mu_b len ent len1 ent1) cel pos b).2)) (v := nI (((tk (hmN w) (mu_b len ent len1 ent1) cel pos b).2) + 1)) G dXM_sweep_31 (q := 1) rfl (sp_inc _) (by decide) (lv' := [(1, .int (nI (((tk (hmN w) (mu_b len ent len1 ent1) cel pos b).2) + 1))), (0, .ref q0), (2, .int (nI b))]) rfl ?_
              refine sw_iinc (x := nI b) (v := nI (b + 1)) G dXM_sweep_34 (q := 2) rfl (sp_inc _) (by decide) (lv' := [(2, .int (nI (b + 1))), (1, .int (nI (((tk (hmN w) (mu_b len ent len1 ent1) cel pos b).2) + 1))), (0, .ref q0)]) rfl ?_
              refine sw_goto (tgt := 4) G dXM_sweep_37 (by decide) ?_
              refine sw_lv [2, 1, 0] (lv' := [(0, .ref q0), (1, .int (nI (((tk (hmN w) (mu_b len ent len1 ent1) cel pos b).2) + 1))), (2, .int (nI (b + 1)))]) rfl ?_
              refine sw_eq (ws' := [(q0, .inr (6, [.int flt, .int (sp_b dn), .int left, .int wr, .int pr, .int (nI sg), .ref q1, .ref q2, .ref q3, .ref q4, .ref q5, .ref q6, .int num, .ref q7, .ref q8])), (q1, .inl (ta.1, 4, .inl (g))), (q2, .inl (ta.1, 160, .inl (w))), (q3, .inl (ta.1, 72, .inl (fun jx => nI (ent jx)))), (q4, .inl (ta.1, 6, .inl (fun jx => nI (len jx)))), (q5, .inl (ta.1, 72, .inl (fun jx => nI (ent1 jx)))), (q6, .inl (ta.1, 6, .inl (fun jx => nI (len1 jx)))), (q7, .inl (ta.1, 64, .inl (fun jx => sp_o (((tk (hmN w) (mu_b len ent len1 ent1) cel pos (b + 1)).1.1) jx))))]) (lv2 := [(0, .ref q0), (1, .int (nI ((tk (hmN w) (mu_b len ent len1 ent1) cel pos (b + 1)).2))), (2, .int (nI (b + 1)))]) (pc2 := 4) (st2 := []) (by rw [tk_s ((sp_b_eq _).mp br23) hp]) ?_
              exact ih4 (b + 1) (by omega) (by omega)
  exact L4 _ 0 (Nat.lt_succ_self _) (Nat.zero_le _)

set_option maxRecDepth 100000 in
set_option maxHeartbeats 4000000 in
theorem c_XM_makeAnew (l : Launch) (D : va_G) (ta : ClassId × ClassId × ClassId) (q0 : Nat) (q1 : Nat) (q2 : Nat) (q3 : Nat) (q4 : Nat) (q5 : Nat) (q6 : Nat) (q7 : Nat) (q8 : Nat) (flt : Int32) (dn : Bool) (left : Int32) (wr : Int32) (pr : Int32) (sg : Nat) (g : Nat → Int32) (w : Nat → Int32) (ent : Nat → Nat) (len : Nat → Nat) (ent1 : Nat → Nat) (len1 : Nat → Nat) (num : Int32) (cel : Nat → Option Nat) (gt : Nat → Bool) (hl : ∀ f, f < 6 → len f ≤ 12) (he : ∀ f, f < 6 → ∀ k, k < len f → ent (12 * f + k) < 40) (hl1 : ∀ f, f < 6 → len1 f ≤ 12) (he1 : ∀ f, f < 6 → ∀ k, k < len1 f → ent1 (12 * f + k) < 40) : sm (S := Unit) l yXM_makeAnew wsXM_makeAnew ({ frames := 4, cells := 0, slots := 0, locals := 91 }) D ta [.ref q0] [(q0, .inr (6, [.int flt, .int (sp_b dn), .int left, .int wr, .int pr, .int (nI sg), .ref q1, .ref q2, .ref q3, .ref q4, .ref q5, .ref q6, .int num, .ref q7, .ref q8])), (q1, .inl (ta.1, 4, .inl (g))), (q2, .inl (ta.1, 160, .inl (w))), (q3, .inl (ta.1, 72, .inl (fun jx => nI (ent jx)))), (q4, .inl (ta.1, 6, .inl (fun jx => nI (len jx)))), (q5, .inl (ta.1, 72, .inl (fun jx => nI (ent1 jx)))), (q6, .inl (ta.1, 6, .inl (fun jx => nI (len1 jx)))), (q7, .inl (ta.1, 64, .inl (fun jx => sp_o (cel jx)))), (q8, .inl (ta.2.1, 64, .inl (fun jx => sp_b (gt jx))))] (fun _ => True) (fun _ => none) (fun _ => [(q0, .inr (6, [.int flt, .int (sp_b dn), .int left, .int wr, .int pr, .int (nI sg), .ref q1, .ref q2, .ref q3, .ref q4, .ref q5, .ref q6, .int num, .ref q7, .ref q8])), (q1, .inl (ta.1, 4, .inl (g))), (q2, .inl (ta.1, 160, .inl (w))), (q3, .inl (ta.1, 72, .inl (fun jx => nI (ent jx)))), (q4, .inl (ta.1, 6, .inl (fun jx => nI (len jx)))), (q5, .inl (ta.1, 72, .inl (fun jx => nI (ent1 jx)))), (q6, .inl (ta.1, 6, .inl (fun jx => nI (len1 jx)))), (q7, .inl (ta.1, 64, .inl (fun jx => sp_o (((mw w (mu_b len ent len1 ent1) 40).1.1) jx)))), (q8, .inl (ta.2.1, 64, .inl (fun jx => sp_b ((mg w (mu_b len ent len1 ent1) 40) jx))))]) := by
  refine sm_ofW (y := yXM_makeAnew) (cc := cXM_makeAnew) (nL := 2) (ret := none) (by decide) (Nat.le_of_ble_eq_true rfl) (fun p e s m below meth c G hr hlk hnm => ?_)
  refine sw_eq (ws' := [(q0, .inr (6, [.int flt, .int (sp_b dn), .int left, .int wr, .int pr, .int (nI sg), .ref q1, .ref q2, .ref q3, .ref q4, .ref q5, .ref q6, .int num, .ref q7, .ref q8])), (q1, .inl (ta.1, 4, .inl (g))), (q2, .inl (ta.1, 160, .inl (w))), (q3, .inl (ta.1, 72, .inl (fun jx => nI (ent jx)))), (q4, .inl (ta.1, 6, .inl (fun jx => nI (len jx)))), (q5, .inl (ta.1, 72, .inl (fun jx => nI (ent1 jx)))), (q6, .inl (ta.1, 6, .inl (fun jx => nI (len1 jx)))), (q7, .inl (ta.1, 64, .inl (fun jx => sp_o (cel jx)))), (q8, .inl (ta.2.1, 64, .inl (fun jx => sp_b (gt jx))))]) (lv2 := [(0, .ref q0)]) (pc2 := 0) (st2 := []) rfl ?_
  refine sw_iconst (v := nI 0) G dXM_makeAnew_0 (by decide) ?_
  refine sw_istore_n G dXM_makeAnew_1 rfl (by decide) (lv' := [(1, .int (nI 0)), (0, .ref q0)]) rfl ?_
  refine sw_z ?_
  refine sw_lv [1, 0] (lv' := [(0, .ref q0), (1, .int (nI 0))]) rfl ?_
  refine sw_eq (ws' := [(q0, .inr (6, [.int flt, .int (sp_b dn), .int left, .int wr, .int pr, .int (nI sg), .ref q1, .ref q2, .ref q3, .ref q4, .ref q5, .ref q6, .int num, .ref q7, .ref q8])), (q1, .inl (ta.1, 4, .inl (g))), (q2, .inl (ta.1, 160, .inl (w))), (q3, .inl (ta.1, 72, .inl (fun jx => nI (ent jx)))), (q4, .inl (ta.1, 6, .inl (fun jx => nI (len jx)))), (q5, .inl (ta.1, 72, .inl (fun jx => nI (ent1 jx)))), (q6, .inl (ta.1, 6, .inl (fun jx => nI (len1 jx)))), (q7, .inl (ta.1, 64, .inl (fun jx => sp_o ((ix_fl cel 0) jx)))), (q8, .inl (ta.2.1, 64, .inl (fun jx => sp_b ((gf gt 0) jx))))]) (lv2 := [(0, .ref q0), (1, .int (nI 0))]) (pc2 := 2) (st2 := []) (by rw [ix_fl_0, gf_0]) ?_
  have L2 : ∀ (NN : Nat) (j : Nat), 64 - j < NN → (j ≤ 64) → sw p l e ({ frames := 4, cells := 0, slots := 0, locals := 91 }) s m ([.ref q0]).toArray below meth c 2 D (va_A [(q0, .inr (6, [.int flt, .int (sp_b dn), .int left, .int wr, .int pr, .int (nI sg), .ref q1, .ref q2, .ref q3, .ref q4, .ref q5, .ref q6, .int num, .ref q7, .ref q8])), (q1, .inl (ta.1, 4, .inl (g))), (q2, .inl (ta.1, 160, .inl (w))), (q3, .inl (ta.1, 72, .inl (fun jx => nI (ent jx)))), (q4, .inl (ta.1, 6, .inl (fun jx => nI (len jx)))), (q5, .inl (ta.1, 72, .inl (fun jx => nI (ent1 jx)))), (q6, .inl (ta.1, 6, .inl (fun jx => nI (len1 jx)))), (q7, .inl (ta.1, 64, .inl (fun jx => sp_o (cel jx)))), (q8, .inl (ta.2.1, 64, .inl (fun jx => sp_b (gt jx))))] s.heap.size) (MQ below (sb_Q D ta [(q0, .inr (6, [.int flt, .int (sp_b dn), .int left, .int wr, .int pr, .int (nI sg), .ref q1, .ref q2, .ref q3, .ref q4, .ref q5, .ref q6, .int num, .ref q7, .ref q8])), (q1, .inl (ta.1, 4, .inl (g))), (q2, .inl (ta.1, 160, .inl (w))), (q3, .inl (ta.1, 72, .inl (fun jx => nI (ent jx)))), (q4, .inl (ta.1, 6, .inl (fun jx => nI (len jx)))), (q5, .inl (ta.1, 72, .inl (fun jx => nI (ent1 jx)))), (q6, .inl (ta.1, 6, .inl (fun jx => nI (len1 jx)))), (q7, .inl (ta.1, 64, .inl (fun jx => sp_o (cel jx)))), (q8, .inl (ta.2.1, 64, .inl (fun jx => sp_b (gt jx))))] s.heap.size (fun _ : Unit => True) (fun _ => none) (fun _ => [(q0, .inr (6, [.int flt, .int (sp_b dn), .int left, .int wr, .int pr, .int (nI sg), .ref q1, .ref q2, .ref q3, .ref q4, .ref q5, .ref q6, .int num, .ref q7, .ref q8])), (q1, .inl (ta.1, 4, .inl (g))), (q2, .inl (ta.1, 160, .inl (w))), (q3, .inl (ta.1, 72, .inl (fun jx => nI (ent jx)))), (q4, .inl (ta.1, 6, .inl (fun jx => nI (len jx)))), (q5, .inl (ta.1, 72, .inl (fun jx => nI (ent1 jx)))), (q6, .inl (ta.1, 6, .inl (fun jx => nI (len1 jx)))), (q7, .inl (ta.1, 64, .inl (fun jx => sp_o (((mw w (mu_b len ent len1 ent1) 40).1.1) jx)))), (q8, .inl (ta.2.1, 64, .inl (fun jx => sp_b ((mg w (mu_b len ent len1 ent1) 40) jx))))])) ([.ref q0]).toArray s 0 0 (va_A [(q0, .inr (6, [.int flt, .int (sp_b dn), .int left, .int wr, .int pr, .int (nI sg), .ref q1, .ref q2, .ref q3, .ref q4, .ref q5, .ref q6, .int num, .ref q7, .ref q8])), (q1, .inl (ta.1, 4, .inl (g))), (q2, .inl (ta.1, 160, .inl (w))), (q3, .inl (ta.1, 72, .inl (fun jx => nI (ent jx)))), (q4, .inl (ta.1, 6, .inl (fun jx => nI (len jx)))), (q5, .inl (ta.1, 72, .inl (fun jx => nI (ent1 jx)))), (q6, .inl (ta.1, 6, .inl (fun jx => nI (len1 jx)))), (q7, .inl (ta.1, 64, .inl (fun jx => sp_o (cel jx)))), (q8, .inl (ta.2.1, 64, .inl (fun jx => sp_b (gt jx))))] s.heap.size)) false 0 0 [(q0, .inr (6, [.int flt, .int (sp_b dn), .int left, .int wr, .int pr, .int (nI sg), .ref q1, .ref q2, .ref q3, .ref q4, .ref q5, .ref q6, .int num, .ref q7, .ref q8])), (q1, .inl (ta.1, 4, .inl (g))), (q2, .inl (ta.1, 160, .inl (w))), (q3, .inl (ta.1, 72, .inl (fun jx => nI (ent jx)))), (q4, .inl (ta.1, 6, .inl (fun jx => nI (len jx)))), (q5, .inl (ta.1, 72, .inl (fun jx => nI (ent1 jx)))), (q6, .inl (ta.1, 6, .inl (fun jx => nI (len1 jx)))), (q7, .inl (ta.1, 64, .inl (fun jx => sp_o ((ix_fl cel j) jx)))), (q8, .inl (ta.2.1, 64, .inl (fun jx => sp_b ((gf gt j) jx))))] [(0, .ref q0), (1, .int (nI j))] 2 [] := by
    intro NN
    induction NN with
    | zero => intro j hNN; exact absurd hNN (Nat.not_lt_zero _)
    | succ NN ih2 =>
      intro j hNN hj
      refine sw_iload_n G dXM_makeAnew_2 rfl 1 rfl ?_
      refine sw_bipush (v := nI 64) G dXM_makeAnew_3 (by decide) ?_
      refine sw_icmpN_ge (a := j) (b := 64) (tgt := 28) G dXM_makeAnew_5 (by decide) (by omega) (by omega) (fun br5 => ?_) (fun br5 => ?_)
      · refine sw_arr 7 (f' := fun jx => sp_o (ix_no jx)) rfl (fun jy hjy => by show sp_o (ix_fl cel j jy) = sp_o (ix_no jy); rw [ix_fl, if_pos (by omega)]; rfl) (ws' := [(q0, .inr (6, [.int flt, .int (sp_b dn), .int left, .int wr, .int pr, .int (nI sg), .ref q1, .ref q2, .ref q3, .ref q4, .ref q5, .ref q6, .int num, .ref q7, .ref q8])), (q1, .inl (ta.1, 4, .inl (g))), (q2, .inl (ta.1, 160, .inl (w))), (q3, .inl (ta.1, 72, .inl (fun jx => nI (ent jx)))), (q4, .inl (ta.1, 6, .inl (fun jx => nI (len jx)))), (q5, .inl (ta.1, 72, .inl (fun jx => nI (ent1 jx)))), (q6, .inl (ta.1, 6, .inl (fun jx => nI (len1 jx)))), (q7, .inl (ta.1, 64, .inl (fun jx => sp_o (ix_no jx)))), (q8, .inl (ta.2.1, 64, .inl (fun jx => sp_b ((gf gt j) jx))))]) rfl ?_
        refine sw_arr 8 (f' := fun jx => sp_b ((fun _ => false) jx)) rfl (fun jy hjy => by show sp_b (gf gt j jy) = sp_b false; rw [gf, if_pos (by omega)]) (ws' := [(q0, .inr (6, [.int flt, .int (sp_b dn), .int left, .int wr, .int pr, .int (nI sg), .ref q1, .ref q2, .ref q3, .ref q4, .ref q5, .ref q6, .int num, .ref q7, .ref q8])), (q1, .inl (ta.1, 4, .inl (g))), (q2, .inl (ta.1, 160, .inl (w))), (q3, .inl (ta.1, 72, .inl (fun jx => nI (ent jx)))), (q4, .inl (ta.1, 6, .inl (fun jx => nI (len jx)))), (q5, .inl (ta.1, 72, .inl (fun jx => nI (ent1 jx)))), (q6, .inl (ta.1, 6, .inl (fun jx => nI (len1 jx)))), (q7, .inl (ta.1, 64, .inl (fun jx => sp_o (ix_no jx)))), (q8, .inl (ta.2.1, 64, .inl (fun jx => sp_b ((fun _ => false) jx))))]) rfl ?_
        refine sw_iconst (v := nI 0) G dXM_makeAnew_28 (by decide) ?_
        refine sw_istore_n G dXM_makeAnew_29 rfl (by decide) (lv' := [(1, .int (nI 0)), (0, .ref q0)]) rfl ?_
        refine sw_lv [1, 0] (lv' := [(0, .ref q0), (1, .int (nI 0))]) rfl ?_
        have L30 : ∀ (NN : Nat) (b : Nat), 40 - b < NN → (b ≤ 40) → sw p l e ({ frames := 4, cells := 0, slots := 0, locals := 91 }) s m ([.ref q0]).toArray below meth c 2 D (va_A [(q0, .inr (6, [.int flt, .int (sp_b dn), .int left, .int wr, .int pr, .int (nI sg), .ref q1, .ref q2, .ref q3, .ref q4, .ref q5, .ref q6, .int num, .ref q7, .ref q8])), (q1, .inl (ta.1, 4, .inl (g))), (q2, .inl (ta.1, 160, .inl (w))), (q3, .inl (ta.1, 72, .inl (fun jx => nI (ent jx)))), (q4, .inl (ta.1, 6, .inl (fun jx => nI (len jx)))), (q5, .inl (ta.1, 72, .inl (fun jx => nI (ent1 jx)))), (q6, .inl (ta.1, 6, .inl (fun jx => nI (len1 jx)))), (q7, .inl (ta.1, 64, .inl (fun jx => sp_o (cel jx)))), (q8, .inl (ta.2.1, 64, .inl (fun jx => sp_b (gt jx))))] s.heap.size) (MQ below (sb_Q D ta [(q0, .inr (6, [.int flt, .int (sp_b dn), .int left, .int wr, .int pr, .int (nI sg), .ref q1, .ref q2, .ref q3, .ref q4, .ref q5, .ref q6, .int num, .ref q7, .ref q8])), (q1, .inl (ta.1, 4, .inl (g))), (q2, .inl (ta.1, 160, .inl (w))), (q3, .inl (ta.1, 72, .inl (fun jx => nI (ent jx)))), (q4, .inl (ta.1, 6, .inl (fun jx => nI (len jx)))), (q5, .inl (ta.1, 72, .inl (fun jx => nI (ent1 jx)))), (q6, .inl (ta.1, 6, .inl (fun jx => nI (len1 jx)))), (q7, .inl (ta.1, 64, .inl (fun jx => sp_o (cel jx)))), (q8, .inl (ta.2.1, 64, .inl (fun jx => sp_b (gt jx))))] s.heap.size (fun _ : Unit => True) (fun _ => none) (fun _ => [(q0, .inr (6, [.int flt, .int (sp_b dn), .int left, .int wr, .int pr, .int (nI sg), .ref q1, .ref q2, .ref q3, .ref q4, .ref q5, .ref q6, .int num, .ref q7, .ref q8])), (q1, .inl (ta.1, 4, .inl (g))), (q2, .inl (ta.1, 160, .inl (w))), (q3, .inl (ta.1, 72, .inl (fun jx => nI (ent jx)))), (q4, .inl (ta.1, 6, .inl (fun jx => nI (len jx)))), (q5, .inl (ta.1, 72, .inl (fun jx => nI (ent1 jx)))), (q6, .inl (ta.1, 6, .inl (fun jx => nI (len1 jx)))), (q7, .inl (ta.1, 64, .inl (fun jx => sp_o (((mw w (mu_b len ent len1 ent1) 40).1.1) jx)))), (q8, .inl (ta.2.1, 64, .inl (fun jx => sp_b ((mg w (mu_b len ent len1 ent1) 40) jx))))])) ([.ref q0]).toArray s 0 0 (va_A [(q0, .inr (6, [.int flt, .int (sp_b dn), .int left, .int wr, .int pr, .int (nI sg), .ref q1, .ref q2, .ref q3, .ref q4, .ref q5, .ref q6, .int num, .ref q7, .ref q8])), (q1, .inl (ta.1, 4, .inl (g))), (q2, .inl (ta.1, 160, .inl (w))), (q3, .inl (ta.1, 72, .inl (fun jx => nI (ent jx)))), (q4, .inl (ta.1, 6, .inl (fun jx => nI (len jx)))), (q5, .inl (ta.1, 72, .inl (fun jx => nI (ent1 jx)))), (q6, .inl (ta.1, 6, .inl (fun jx => nI (len1 jx)))), (q7, .inl (ta.1, 64, .inl (fun jx => sp_o (cel jx)))), (q8, .inl (ta.2.1, 64, .inl (fun jx => sp_b (gt jx))))] s.heap.size)) false 0 0 [(q0, .inr (6, [.int flt, .int (sp_b dn), .int left, .int wr, .int pr, .int (nI sg), .ref q1, .ref q2, .ref q3, .ref q4, .ref q5, .ref q6, .int num, .ref q7, .ref q8])), (q1, .inl (ta.1, 4, .inl (g))), (q2, .inl (ta.1, 160, .inl (w))), (q3, .inl (ta.1, 72, .inl (fun jx => nI (ent jx)))), (q4, .inl (ta.1, 6, .inl (fun jx => nI (len jx)))), (q5, .inl (ta.1, 72, .inl (fun jx => nI (ent1 jx)))), (q6, .inl (ta.1, 6, .inl (fun jx => nI (len1 jx)))), (q7, .inl (ta.1, 64, .inl (fun jx => sp_o (((mw w (mu_b len ent len1 ent1) b).1.1) jx)))), (q8, .inl (ta.2.1, 64, .inl (fun jx => sp_b ((mg w (mu_b len ent len1 ent1) b) jx))))] [(0, .ref q0), (1, .int (nI b))] 30 [] := by
          intro NN
          induction NN with
          | zero => intro b hNN; exact absurd hNN (Nat.not_lt_zero _)
          | succ NN ih30 =>
            intro b hNN hb
            refine sw_iload_n G dXM_makeAnew_30 rfl 1 rfl ?_
            refine sw_bipush (v := nI 40) G dXM_makeAnew_31 (by decide) ?_
            refine sw_icmpN_ge (a := b) (b := 40) (tgt := 55) G dXM_makeAnew_33 (by decide) (by omega) (by omega) (fun br33 => ?_) (fun br33 => ?_)
            · refine sw_sub [0, 1, 2, 3, 4, 5, 6, 7, 8] (by decide) (ws' := [(q0, .inr (6, [.int flt, .int (sp_b dn), .int left, .int wr, .int pr, .int (nI sg), .ref q1, .ref q2, .ref q3, .ref q4, .ref q5, .ref q6, .int num, .ref q7, .ref q8])), (q1, .inl (ta.1, 4, .inl (g))), (q2, .inl (ta.1, 160, .inl (w))), (q3, .inl (ta.1, 72, .inl (fun jx => nI (ent jx)))), (q4, .inl (ta.1, 6, .inl (fun jx => nI (len jx)))), (q5, .inl (ta.1, 72, .inl (fun jx => nI (ent1 jx)))), (q6, .inl (ta.1, 6, .inl (fun jx => nI (len1 jx)))), (q7, .inl (ta.1, 64, .inl (fun jx => sp_o (((mw w (mu_b len ent len1 ent1) b).1.1) jx)))), (q8, .inl (ta.2.1, 64, .inl (fun jx => sp_b ((mg w (mu_b len ent len1 ent1) b) jx))))]) rfl rfl ?_
              refine sw_eq (ws' := [(q0, .inr (6, [.int flt, .int (sp_b dn), .int left, .int wr, .int pr, .int (nI sg), .ref q1, .ref q2, .ref q3, .ref q4, .ref q5, .ref q6, .int num, .ref q7, .ref q8])), (q1, .inl (ta.1, 4, .inl (g))), (q2, .inl (ta.1, 160, .inl (w))), (q3, .inl (ta.1, 72, .inl (fun jx => nI (ent jx)))), (q4, .inl (ta.1, 6, .inl (fun jx => nI (len jx)))), (q5, .inl (ta.1, 72, .inl (fun jx => nI (ent1 jx)))), (q6, .inl (ta.1, 6, .inl (fun jx => nI (len1 jx)))), (q7, .inl (ta.1, 64, .inl (fun jx => sp_o (((mw w (mu_b len ent len1 ent1) 40).1.1) jx)))), (q8, .inl (ta.2.1, 64, .inl (fun jx => sp_b ((mg w (mu_b len ent len1 ent1) 40) jx))))]) (lv2 := [(0, .ref q0), (1, .int (nI b))]) (pc2 := 55) (st2 := []) (by rw [show b = 40 by omega]) ?_
              exact sw_vret G hr hlk () trivial (rfl) [0, 1, 2, 3, 4, 5, 6, 7, 8] (by decide) rfl rfl dXM_makeAnew_55
            · refine sw_aload_n G dXM_makeAnew_36 rfl 0 rfl ?_
              refine sw_iload_n G dXM_makeAnew_37 rfl 1 rfl ?_
              refine sw_readV (As := [.int (nI b)]) (rest := []) G (c_XM_isUsed l D ta q0 q1 q2 q3 q4 q5 q6 q7 q8 flt dn left wr pr sg ent len ent1 len1 num b (by omega) (hl) (he) (hl1) (he1)) (cwV 1 G.2.2.2.2.1 (sb_goodV wd_650 wd_652 ws_XM_isUsed wd_8 wd_653) rfl rfl rfl (by decide +kernel) ⟨Nat.le_of_ble_eq_true rfl, Nat.le_of_ble_eq_true rfl⟩) 0 6 rfl rfl rfl rfl (Nat.le_of_ble_eq_true rfl) dXM_makeAnew_38 ⟨Nat.le_of_ble_eq_true rfl, Nat.le_of_ble_eq_true rfl⟩ [0, 3, 4, 5, 6] rfl (by decide) ?_
              refine sw_eq (ws' := [(q0, .inr (6, [.int flt, .int (sp_b dn), .int left, .int wr, .int pr, .int (nI sg), .ref q1, .ref q2, .ref q3, .ref q4, .ref q5, .ref q6, .int num, .ref q7, .ref q8])), (q1, .inl (ta.1, 4, .inl (g))), (q2, .inl (ta.1, 160, .inl (w))), (q3, .inl (ta.1, 72, .inl (fun jx => nI (ent jx)))), (q4, .inl (ta.1, 6, .inl (fun jx => nI (len jx)))), (q5, .inl (ta.1, 72, .inl (fun jx => nI (ent1 jx)))), (q6, .inl (ta.1, 6, .inl (fun jx => nI (len1 jx)))), (q7, .inl (ta.1, 64, .inl (fun jx => sp_o (((mw w (mu_b len ent len1 ent1) b).1.1) jx)))), (q8, .inl (ta.2.1, 64, .inl (fun jx => sp_b ((mg w (mu_b len ent len1 ent1) b) jx))))]) (lv2 := [(0, .ref q0), (1, .int (nI b))]) (pc2 := 41) (st2 := [.int (sp_b (mu_b len ent len1 ent1 b))]) rfl ?_
              refine sw_if_eq (x := sp_b (mu_b len ent len1 ent1 b)) (tgt := 49) G dXM_makeAnew_41 (by decide) (fun br41 => ?_) (fun br41 => ?_)
              · refine sw_iinc (x := nI b) (v := nI (b + 1)) G dXM_makeAnew_49 (q := 1) rfl (sp_inc _) (by decide) (lv' := [(1, .int (nI (b + 1))), (0, .ref q0)]) rfl ?_
                refine sw_goto (tgt := 30) G dXM_makeAnew_52 (by decide) ?_
                refine sw_lv [1, 0] (lv' := [(0, .ref q0), (1, .int (nI (b + 1)))]) rfl ?_
                refine sw_eq (ws' := [(q0, .inr (6, [.int flt, .int (sp_b dn), .int left, .int wr, .int pr, .int (nI sg), .ref q1, .ref q2, .ref q3, .ref q4, .ref q5, .ref q6, .int num, .ref q7, .ref q8])), (q1, .inl (ta.1, 4, .inl (g))), (q2, .inl (ta.1, 160, .inl (w))), (q3, .inl (ta.1, 72, .inl (fun jx => nI (ent jx)))), (q4, .inl (ta.1, 6, .inl (fun jx => nI (len jx)))), (q5, .inl (ta.1, 72, .inl (fun jx => nI (ent1 jx)))), (q6, .inl (ta.1, 6, .inl (fun jx => nI (len1 jx)))), (q7, .inl (ta.1, 64, .inl (fun jx => sp_o (((mw w (mu_b len ent len1 ent1) (b + 1)).1.1) jx)))), (q8, .inl (ta.2.1, 64, .inl (fun jx => sp_b ((mg w (mu_b len ent len1 ent1) (b + 1)) jx))))]) (lv2 := [(0, .ref q0), (1, .int (nI (b + 1)))]) (pc2 := 30) (st2 := []) (by rw [mw_f ((sp_b_eq _).mp br41), mg_f ((sp_b_eq _).mp br41)]) ?_
                exact ih30 (b + 1) (by omega) (by omega)
              · have hTb := mw_T (w := w) (us := (mu_b len ent len1 ent1)) b hb
                obtain ⟨z1, z2, z3⟩ := ix_s_spec (ix_free hTb (hmN_lt w b))
                refine sw_aload_n G dXM_makeAnew_44 rfl 0 rfl ?_
                refine sw_iload_n G dXM_makeAnew_45 rfl 1 rfl ?_
                refine sw_callV (As := [.int (nI b)]) (rest := []) G (c_XM_putIn l D ta q0 q1 q2 q3 q4 q5 q6 q7 q8 flt dn left wr pr sg g w num ((mw w (mu_b len ent len1 ent1) b).1.1) (mg w (mu_b len ent len1 ent1) b) b (ix_s (mw w (mu_b len ent len1 ent1) b).1.1 (hmN w b)) (by omega) (z1) (z2) (z3) (fun j b1 hj hb1 => (hTb.1 j b1 hj hb1).1)) (cwV 1 G.2.2.2.2.1 (sb_goodV wd_662 wd_664 ws_XM_putIn wd_8 wd_665) rfl rfl rfl (by decide +kernel) ⟨Nat.le_of_ble_eq_true rfl, Nat.le_of_ble_eq_true rfl⟩) 0 6 rfl rfl rfl rfl (Nat.le_of_ble_eq_true rfl) dXM_makeAnew_46 ⟨Nat.le_of_ble_eq_true rfl, Nat.le_of_ble_eq_true rfl⟩ [0, 1, 2, 7, 8] [3, 4, 5, 6] rfl (wr := [(q3, .inl (ta.1, 72, .inl (fun jx => nI (ent jx)))), (q4, .inl (ta.1, 6, .inl (fun jx => nI (len jx)))), (q5, .inl (ta.1, 72, .inl (fun jx => nI (ent1 jx)))), (q6, .inl (ta.1, 6, .inl (fun jx => nI (len1 jx))))]) rfl (by decide) (by decide) (by decide) (fun _ _ => ?_)
                refine sw_eq (ws' := [(q3, .inl (ta.1, 72, .inl (fun jx => nI (ent jx)))), (q4, .inl (ta.1, 6, .inl (fun jx => nI (len jx)))), (q5, .inl (ta.1, 72, .inl (fun jx => nI (ent1 jx)))), (q6, .inl (ta.1, 6, .inl (fun jx => nI (len1 jx)))), (q0, .inr (6, [.int flt, .int (sp_b dn), .int left, .int wr, .int pr, .int (nI sg), .ref q1, .ref q2, .ref q3, .ref q4, .ref q5, .ref q6, .int num, .ref q7, .ref q8])), (q1, .inl (ta.1, 4, .inl (g))), (q2, .inl (ta.1, 160, .inl (w))), (q7, .inl (ta.1, 64, .inl (fun jx => sp_o ((va_up ((mw w (mu_b len ent len1 ent1) b).1.1) ((hmN w b + (ix_s (mw w (mu_b len ent len1 ent1) b).1.1 (hmN w b))) % 64) (some b)) jx)))), (q8, .inl (ta.2.1, 64, .inl (fun jx => sp_b ((gset (mg w (mu_b len ent len1 ent1) b) w b) jx))))]) (lv2 := [(0, .ref q0), (1, .int (nI b))]) (pc2 := 49) (st2 := []) rfl ?_
                refine sw_sub [4, 5, 6, 0, 1, 2, 3, 7, 8] (by decide) (ws' := [(q0, .inr (6, [.int flt, .int (sp_b dn), .int left, .int wr, .int pr, .int (nI sg), .ref q1, .ref q2, .ref q3, .ref q4, .ref q5, .ref q6, .int num, .ref q7, .ref q8])), (q1, .inl (ta.1, 4, .inl (g))), (q2, .inl (ta.1, 160, .inl (w))), (q3, .inl (ta.1, 72, .inl (fun jx => nI (ent jx)))), (q4, .inl (ta.1, 6, .inl (fun jx => nI (len jx)))), (q5, .inl (ta.1, 72, .inl (fun jx => nI (ent1 jx)))), (q6, .inl (ta.1, 6, .inl (fun jx => nI (len1 jx)))), (q7, .inl (ta.1, 64, .inl (fun jx => sp_o ((va_up ((mw w (mu_b len ent len1 ent1) b).1.1) ((hmN w b + (ix_s (mw w (mu_b len ent len1 ent1) b).1.1 (hmN w b))) % 64) (some b)) jx)))), (q8, .inl (ta.2.1, 64, .inl (fun jx => sp_b ((gset (mg w (mu_b len ent len1 ent1) b) w b) jx))))]) rfl rfl ?_
                refine sw_iinc (x := nI b) (v := nI (b + 1)) G dXM_makeAnew_49 (q := 1) rfl (sp_inc _) (by decide) (lv' := [(1, .int (nI (b + 1))), (0, .ref q0)]) rfl ?_
                refine sw_goto (tgt := 30) G dXM_makeAnew_52 (by decide) ?_
                refine sw_lv [1, 0] (lv' := [(0, .ref q0), (1, .int (nI (b + 1)))]) rfl ?_
                refine sw_eq (ws' := [(q0, .inr (6, [.int flt, .int (sp_b dn), .int left, .int wr, .int pr, .int (nI sg), .ref q1, .ref q2, .ref q3, .ref q4, .ref q5, .ref q6, .int num, .ref q7, .ref q8])), (q1, .inl (ta.1, 4, .inl (g))), (q2, .inl (ta.1, 160, .inl (w))), (q3, .inl (ta.1, 72, .inl (fun jx => nI (ent jx)))), (q4, .inl (ta.1, 6, .inl (fun jx => nI (len jx)))), (q5, .inl (ta.1, 72, .inl (fun jx => nI (ent1 jx)))), (q6, .inl (ta.1, 6, .inl (fun jx => nI (len1 jx)))), (q7, .inl (ta.1, 64, .inl (fun jx => sp_o (((mw w (mu_b len ent len1 ent1) (b + 1)).1.1) jx)))), (q8, .inl (ta.2.1, 64, .inl (fun jx => sp_b ((mg w (mu_b len ent len1 ent1) (b + 1)) jx))))]) (lv2 := [(0, .ref q0), (1, .int (nI (b + 1)))]) (pc2 := 30) (st2 := []) (by rw [mw_t ((sp_b_ne _).mp br41), mg_t ((sp_b_ne _).mp br41)] <;> rfl) ?_
                exact ih30 (b + 1) (by omega) (by omega)
        exact L30 _ 0 (Nat.lt_succ_self _) (Nat.zero_le _)
      · refine sw_aload_n G dXM_makeAnew_8 rfl 0 rfl ?_
        refine sw_get (C := RXM) (T := TXM) (ref := RXM) (N := 15) G inXM 0 rfl rfl 13 (by decide) wd_565 rfl rfl dXM_makeAnew_9 ?_
        refine sw_iload_n G dXM_makeAnew_12 rfl 1 rfl ?_
        refine sw_iconst (v := -1) G dXM_makeAnew_13 (by decide) ?_
        refine sw_iastN (j := j) (x := -1) G 7 rfl (by omega) (by decide) dXM_makeAnew_14 (f' := fun jx => sp_o ((va_up (ix_fl cel j) j none) jx)) (sp_upO _ _ none) (ws' := [(q0, .inr (6, [.int flt, .int (sp_b dn), .int left, .int wr, .int pr, .int (nI sg), .ref q1, .ref q2, .ref q3, .ref q4, .ref q5, .ref q6, .int num, .ref q7, .ref q8])), (q1, .inl (ta.1, 4, .inl (g))), (q2, .inl (ta.1, 160, .inl (w))), (q3, .inl (ta.1, 72, .inl (fun jx => nI (ent jx)))), (q4, .inl (ta.1, 6, .inl (fun jx => nI (len jx)))), (q5, .inl (ta.1, 72, .inl (fun jx => nI (ent1 jx)))), (q6, .inl (ta.1, 6, .inl (fun jx => nI (len1 jx)))), (q7, .inl (ta.1, 64, .inl (fun jx => sp_o ((va_up (ix_fl cel j) j none) jx)))), (q8, .inl (ta.2.1, 64, .inl (fun jx => sp_b ((gf gt j) jx))))]) rfl ?_
        refine sw_aload_n G dXM_makeAnew_15 rfl 0 rfl ?_
        refine sw_get (C := RXM) (T := TXM) (ref := RXM) (N := 15) G inXM 0 rfl rfl 14 (by decide) wd_566 rfl rfl dXM_makeAnew_16 ?_
        refine sw_iload_n G dXM_makeAnew_19 rfl 1 rfl ?_
        refine sw_iconst (v := nI 0) G dXM_makeAnew_20 (by decide) ?_
        refine sw_zastN (j := j) (x := nI 0) G 8 rfl (by omega) (by decide) (by decide) dXM_makeAnew_21 (f' := fun jx => sp_b ((va_up (gf gt j) j false) jx)) (sp_upB0 _ _) (ws' := [(q0, .inr (6, [.int flt, .int (sp_b dn), .int left, .int wr, .int pr, .int (nI sg), .ref q1, .ref q2, .ref q3, .ref q4, .ref q5, .ref q6, .int num, .ref q7, .ref q8])), (q1, .inl (ta.1, 4, .inl (g))), (q2, .inl (ta.1, 160, .inl (w))), (q3, .inl (ta.1, 72, .inl (fun jx => nI (ent jx)))), (q4, .inl (ta.1, 6, .inl (fun jx => nI (len jx)))), (q5, .inl (ta.1, 72, .inl (fun jx => nI (ent1 jx)))), (q6, .inl (ta.1, 6, .inl (fun jx => nI (len1 jx)))), (q7, .inl (ta.1, 64, .inl (fun jx => sp_o ((va_up (ix_fl cel j) j none) jx)))), (q8, .inl (ta.2.1, 64, .inl (fun jx => sp_b ((va_up (gf gt j) j false) jx))))]) rfl ?_
        refine sw_iinc (x := nI j) (v := nI (j + 1)) G dXM_makeAnew_22 (q := 1) rfl (sp_inc _) (by decide) (lv' := [(1, .int (nI (j + 1))), (0, .ref q0)]) rfl ?_
        refine sw_goto (tgt := 2) G dXM_makeAnew_25 (by decide) ?_
        refine sw_lv [1, 0] (lv' := [(0, .ref q0), (1, .int (nI (j + 1)))]) rfl ?_
        refine sw_eq (ws' := [(q0, .inr (6, [.int flt, .int (sp_b dn), .int left, .int wr, .int pr, .int (nI sg), .ref q1, .ref q2, .ref q3, .ref q4, .ref q5, .ref q6, .int num, .ref q7, .ref q8])), (q1, .inl (ta.1, 4, .inl (g))), (q2, .inl (ta.1, 160, .inl (w))), (q3, .inl (ta.1, 72, .inl (fun jx => nI (ent jx)))), (q4, .inl (ta.1, 6, .inl (fun jx => nI (len jx)))), (q5, .inl (ta.1, 72, .inl (fun jx => nI (ent1 jx)))), (q6, .inl (ta.1, 6, .inl (fun jx => nI (len1 jx)))), (q7, .inl (ta.1, 64, .inl (fun jx => sp_o ((ix_fl cel (j + 1)) jx)))), (q8, .inl (ta.2.1, 64, .inl (fun jx => sp_b ((gf gt (j + 1)) jx))))]) (lv2 := [(0, .ref q0), (1, .int (nI (j + 1)))]) (pc2 := 2) (st2 := []) (by rw [ix_fl_up, gf_up]) ?_
        exact ih2 (j + 1) (by omega) (by omega)
  exact L2 _ 0 (Nat.lt_succ_self _) (Nat.zero_le _)

set_option maxRecDepth 100000 in
set_option maxHeartbeats 4000000 in
theorem c_XM_write (l : Launch) (D : va_G) (ta : ClassId × ClassId × ClassId) (q0 : Nat) (q1 : Nat) (q2 : Nat) (q3 : Nat) (q4 : Nat) (q5 : Nat) (q6 : Nat) (q7 : Nat) (q8 : Nat) (flt : Int32) (dn : Bool) (left : Int32) (wr : Int32) (pr : Int32) (sg : Nat) (num : Int32)  : sm (S := Unit) l yXM_write wsXM_write ({ frames := 0, cells := 0, slots := 0, locals := 0 }) D ta [.ref q0] [(q0, .inr (6, [.int flt, .int (sp_b dn), .int left, .int wr, .int pr, .int (nI sg), .ref q1, .ref q2, .ref q3, .ref q4, .ref q5, .ref q6, .int num, .ref q7, .ref q8]))] (fun _ => True) (fun _ => some (.int (sp_b (pw_ok left)))) (fun _ => [(q0, .inr (6, [.int flt, .int (sp_b (pw_d left dn)), .int (pw_l left), .int (pw_w left wr), .int pr, .int (nI sg), .ref q1, .ref q2, .ref q3, .ref q4, .ref q5, .ref q6, .int num, .ref q7, .ref q8]))]) := by
  refine sm_ofW (y := yXM_write) (cc := cXM_write) (nL := 1) (ret := (some .boolean)) (by decide) (Nat.le_of_ble_eq_true rfl) (fun p e s m below meth c G hr hlk hnm => ?_)
  refine sw_eq (ws' := [(q0, .inr (6, [.int flt, .int (sp_b dn), .int left, .int wr, .int pr, .int (nI sg), .ref q1, .ref q2, .ref q3, .ref q4, .ref q5, .ref q6, .int num, .ref q7, .ref q8]))]) (lv2 := [(0, .ref q0)]) (pc2 := 0) (st2 := []) rfl ?_
  refine sw_aload_n G dXM_write_0 rfl 0 rfl ?_
  refine sw_get (C := RXM) (T := TXM) (ref := RXM) (N := 15) G inXM 0 rfl rfl 2 (by decide) wd_554 rfl rfl dXM_write_1 ?_
  refine sw_if_ne (x := left) (tgt := 14) G dXM_write_4 (by decide) (fun br4 => ?_) (fun br4 => ?_)
  · refine sw_aload_n G dXM_write_14 rfl 0 rfl ?_
    refine sw_aload_n G dXM_write_15 rfl 0 rfl ?_
    refine sw_get (C := RXM) (T := TXM) (ref := RXM) (N := 15) G inXM 0 rfl rfl 2 (by decide) wd_554 rfl rfl dXM_write_16 ?_
    refine sw_if_le (x := left) (tgt := 31) G dXM_write_19 (by decide) (fun br19 => ?_) (fun br19 => ?_)
    · refine sw_aload_n G dXM_write_31 rfl 0 rfl ?_
      refine sw_get (C := RXM) (T := TXM) (ref := RXM) (N := 15) G inXM 0 rfl rfl 2 (by decide) wd_554 rfl rfl dXM_write_32 ?_
      refine sw_put (ty := .int) (v := .int left) (C := RXM) (T := TXM) (ref := RXM) (N := 15) G inXM tyXM tyXM_ok nmXM 0 rfl rfl 2 (by decide) wd_554 rfl rfl (by decide +kernel) (rfl) (rfl) (Nat.le_of_ble_eq_true rfl) dXM_write_35 (fs' := [.int flt, .int (sp_b dn), .int left, .int wr, .int pr, .int (nI sg), .ref q1, .ref q2, .ref q3, .ref q4, .ref q5, .ref q6, .int num, .ref q7, .ref q8]) rfl (ws' := [(q0, .inr (6, [.int flt, .int (sp_b dn), .int left, .int wr, .int pr, .int (nI sg), .ref q1, .ref q2, .ref q3, .ref q4, .ref q5, .ref q6, .int num, .ref q7, .ref q8]))]) rfl ?_
      refine sw_aload_n G dXM_write_38 rfl 0 rfl ?_
      refine sw_dup G dXM_write_39 rfl ?_
      refine sw_get (C := RXM) (T := TXM) (ref := RXM) (N := 15) G inXM 0 rfl rfl 3 (by decide) wd_555 rfl rfl dXM_write_40 ?_
      refine sw_iconst (v := nI 1) G dXM_write_43 (by decide) ?_
      refine sw_iadd (x := wr) (y := nI 1) (v := wr + (nI 1)) G dXM_write_44 (rfl) ?_
      refine sw_put (ty := .int) (v := .int (wr + (nI 1))) (C := RXM) (T := TXM) (ref := RXM) (N := 15) G inXM tyXM tyXM_ok nmXM 0 rfl rfl 3 (by decide) wd_555 rfl rfl (by decide +kernel) (rfl) (rfl) (Nat.le_of_ble_eq_true rfl) dXM_write_45 (fs' := [.int flt, .int (sp_b dn), .int left, .int (wr + (nI 1)), .int pr, .int (nI sg), .ref q1, .ref q2, .ref q3, .ref q4, .ref q5, .ref q6, .int num, .ref q7, .ref q8]) rfl (ws' := [(q0, .inr (6, [.int flt, .int (sp_b dn), .int left, .int (wr + (nI 1)), .int pr, .int (nI sg), .ref q1, .ref q2, .ref q3, .ref q4, .ref q5, .ref q6, .int num, .ref q7, .ref q8]))]) rfl ?_
      refine sw_iconst (v := nI 1) G dXM_write_48 (by decide) ?_
      obtain ⟨e1, e2, e3, e4⟩ := pw_n br4 br19
      refine sw_sub [0] (by decide) (ws' := [(q0, .inr (6, [.int flt, .int (sp_b dn), .int left, .int (wr + (nI 1)), .int pr, .int (nI sg), .ref q1, .ref q2, .ref q3, .ref q4, .ref q5, .ref q6, .int num, .ref q7, .ref q8]))]) rfl rfl ?_
      refine sw_eq (ws' := [(q0, .inr (6, [.int flt, .int (sp_b (pw_d left dn)), .int (pw_l left), .int (pw_w left wr), .int pr, .int (nI sg), .ref q1, .ref q2, .ref q3, .ref q4, .ref q5, .ref q6, .int num, .ref q7, .ref q8]))]) (lv2 := [(0, .ref q0)]) (pc2 := 49) (st2 := [.int (nI 1)]) (by rw [e2, e3, e4] <;> rfl) ?_
      exact sw_zret (x := nI 1) G hr hlk () trivial (by show some (Value.int (sp_b (pw_ok left))) = _; rw [e1]; rfl) (rfl) [0] (by decide) rfl rfl dXM_write_49
    · refine sw_aload_n G dXM_write_22 rfl 0 rfl ?_
      refine sw_get (C := RXM) (T := TXM) (ref := RXM) (N := 15) G inXM 0 rfl rfl 2 (by decide) wd_554 rfl rfl dXM_write_23 ?_
      refine sw_iconst (v := nI 1) G dXM_write_26 (by decide) ?_
      refine sw_isub (x := left) (y := nI 1) (v := left - (nI 1)) G dXM_write_27 (rfl) ?_
      refine sw_goto (tgt := 35) G dXM_write_28 (by decide) ?_
      refine sw_put (ty := .int) (v := .int (left - (nI 1))) (C := RXM) (T := TXM) (ref := RXM) (N := 15) G inXM tyXM tyXM_ok nmXM 0 rfl rfl 2 (by decide) wd_554 rfl rfl (by decide +kernel) (rfl) (rfl) (Nat.le_of_ble_eq_true rfl) dXM_write_35 (fs' := [.int flt, .int (sp_b dn), .int (left - (nI 1)), .int wr, .int pr, .int (nI sg), .ref q1, .ref q2, .ref q3, .ref q4, .ref q5, .ref q6, .int num, .ref q7, .ref q8]) rfl (ws' := [(q0, .inr (6, [.int flt, .int (sp_b dn), .int (left - (nI 1)), .int wr, .int pr, .int (nI sg), .ref q1, .ref q2, .ref q3, .ref q4, .ref q5, .ref q6, .int num, .ref q7, .ref q8]))]) rfl ?_
      refine sw_aload_n G dXM_write_38 rfl 0 rfl ?_
      refine sw_dup G dXM_write_39 rfl ?_
      refine sw_get (C := RXM) (T := TXM) (ref := RXM) (N := 15) G inXM 0 rfl rfl 3 (by decide) wd_555 rfl rfl dXM_write_40 ?_
      refine sw_iconst (v := nI 1) G dXM_write_43 (by decide) ?_
      refine sw_iadd (x := wr) (y := nI 1) (v := wr + (nI 1)) G dXM_write_44 (rfl) ?_
      refine sw_put (ty := .int) (v := .int (wr + (nI 1))) (C := RXM) (T := TXM) (ref := RXM) (N := 15) G inXM tyXM tyXM_ok nmXM 0 rfl rfl 3 (by decide) wd_555 rfl rfl (by decide +kernel) (rfl) (rfl) (Nat.le_of_ble_eq_true rfl) dXM_write_45 (fs' := [.int flt, .int (sp_b dn), .int (left - (nI 1)), .int (wr + (nI 1)), .int pr, .int (nI sg), .ref q1, .ref q2, .ref q3, .ref q4, .ref q5, .ref q6, .int num, .ref q7, .ref q8]) rfl (ws' := [(q0, .inr (6, [.int flt, .int (sp_b dn), .int (left - (nI 1)), .int (wr + (nI 1)), .int pr, .int (nI sg), .ref q1, .ref q2, .ref q3, .ref q4, .ref q5, .ref q6, .int num, .ref q7, .ref q8]))]) rfl ?_
      refine sw_iconst (v := nI 1) G dXM_write_48 (by decide) ?_
      obtain ⟨e1, e2, e3, e4⟩ := pw_p br4 br19
      refine sw_sub [0] (by decide) (ws' := [(q0, .inr (6, [.int flt, .int (sp_b dn), .int (left - (nI 1)), .int (wr + (nI 1)), .int pr, .int (nI sg), .ref q1, .ref q2, .ref q3, .ref q4, .ref q5, .ref q6, .int num, .ref q7, .ref q8]))]) rfl rfl ?_
      refine sw_eq (ws' := [(q0, .inr (6, [.int flt, .int (sp_b (pw_d left dn)), .int (pw_l left), .int (pw_w left wr), .int pr, .int (nI sg), .ref q1, .ref q2, .ref q3, .ref q4, .ref q5, .ref q6, .int num, .ref q7, .ref q8]))]) (lv2 := [(0, .ref q0)]) (pc2 := 49) (st2 := [.int (nI 1)]) (by rw [e2, e3, e4] <;> rfl) ?_
      exact sw_zret (x := nI 1) G hr hlk () trivial (by show some (Value.int (sp_b (pw_ok left))) = _; rw [e1]; rfl) (rfl) [0] (by decide) rfl rfl dXM_write_49
  · refine sw_aload_n G dXM_write_7 rfl 0 rfl ?_
    refine sw_iconst (v := nI 1) G dXM_write_8 (by decide) ?_
    refine sw_put (ty := .boolean) (v := .int (nI 1)) (C := RXM) (T := TXM) (ref := RXM) (N := 15) G inXM tyXM tyXM_ok nmXM 0 rfl rfl 1 (by decide) wd_553 rfl rfl (by decide +kernel) (rfl) (rfl) (Nat.le_of_ble_eq_true rfl) dXM_write_9 (fs' := [.int flt, .int (nI 1), .int left, .int wr, .int pr, .int (nI sg), .ref q1, .ref q2, .ref q3, .ref q4, .ref q5, .ref q6, .int num, .ref q7, .ref q8]) rfl (ws' := [(q0, .inr (6, [.int flt, .int (nI 1), .int left, .int wr, .int pr, .int (nI sg), .ref q1, .ref q2, .ref q3, .ref q4, .ref q5, .ref q6, .int num, .ref q7, .ref q8]))]) rfl ?_
    refine sw_iconst (v := nI 0) G dXM_write_12 (by decide) ?_
    obtain ⟨e1, e2, e3, e4⟩ := pw_z br4
    refine sw_sub [0] (by decide) (ws' := [(q0, .inr (6, [.int flt, .int (nI 1), .int left, .int wr, .int pr, .int (nI sg), .ref q1, .ref q2, .ref q3, .ref q4, .ref q5, .ref q6, .int num, .ref q7, .ref q8]))]) rfl rfl ?_
    refine sw_eq (ws' := [(q0, .inr (6, [.int flt, .int (sp_b (pw_d left dn)), .int (pw_l left), .int (pw_w left wr), .int pr, .int (nI sg), .ref q1, .ref q2, .ref q3, .ref q4, .ref q5, .ref q6, .int num, .ref q7, .ref q8]))]) (lv2 := [(0, .ref q0)]) (pc2 := 13) (st2 := [.int (nI 0)]) (by rw [e2, e3, e4] <;> rfl) ?_
    exact sw_zret (x := nI 0) G hr hlk () trivial (by show some (Value.int (sp_b (pw_ok left))) = _; rw [e1]; rfl) (rfl) [0] (by decide) rfl rfl dXM_write_13

set_option maxRecDepth 100000 in
set_option maxHeartbeats 4000000 in
theorem c_XM_passesGate (l : Launch) (D : va_G) (ta : ClassId × ClassId × ClassId) (q0 : Nat) (q1 : Nat) (q2 : Nat) (q3 : Nat) (q4 : Nat) (q5 : Nat) (q6 : Nat) (q7 : Nat) (q8 : Nat) (flt : Int32) (dn : Bool) (left : Int32) (wr : Int32) (pr : Int32) (sg : Nat) (g : Nat → Int32) (w : Nat → Int32) (num : Int32) (gt : Nat → Bool)  : sr l yXM_passesGate wsXM_passesGate ({ frames := 3, cells := 0, slots := 0, locals := 69 }) D ta [.ref q0] [(q0, .inr (6, [.int flt, .int (sp_b dn), .int left, .int wr, .int pr, .int (nI sg), .ref q1, .ref q2, .ref q3, .ref q4, .ref q5, .ref q6, .int num, .ref q7, .ref q8])), (q1, .inl (ta.1, 4, .inl (g))), (q2, .inl (ta.1, 160, .inl (w))), (q8, .inl (ta.2.1, 64, .inl (fun jx => sp_b (gt jx))))] (some (.int (sp_b (gpass gt g)))) := by
  refine sr_ofW (y := yXM_passesGate) (cc := cXM_passesGate) (nL := 1) (ret := (some .boolean)) (by decide) (Nat.le_of_ble_eq_true rfl) (fun p e s m below meth c G hr hlk hnm => ?_)
  have hf := fpN_lt g 0
  have hf2 := mixN_lt g 0
  refine sw_eq (ws' := [(q0, .inr (6, [.int flt, .int (sp_b dn), .int left, .int wr, .int pr, .int (nI sg), .ref q1, .ref q2, .ref q3, .ref q4, .ref q5, .ref q6, .int num, .ref q7, .ref q8])), (q1, .inl (ta.1, 4, .inl (g))), (q2, .inl (ta.1, 160, .inl (w))), (q8, .inl (ta.2.1, 64, .inl (fun jx => sp_b (gt jx))))]) (lv2 := [(0, .ref q0)]) (pc2 := 0) (st2 := []) rfl ?_
  refine sw_aload_n G dXM_passesGate_0 rfl 0 rfl ?_
  refine sw_get (C := RXM) (T := TXM) (ref := RXM) (N := 15) G inXM 0 rfl rfl 14 (by decide) wd_566 rfl rfl dXM_passesGate_1 ?_
  refine sw_aload_n G dXM_passesGate_4 rfl 0 rfl ?_
  refine sw_iconst (v := -1) G dXM_passesGate_5 (by decide) ?_
  refine sw_iconst (v := nI 0) G dXM_passesGate_6 (by decide) ?_
  refine sw_readV (As := [.int (-1), .int (nI 0)]) (rest := [.ref q8]) G (c_XM_gateS0 l D ta q0 q1 q2 q3 q4 q5 q6 q7 q8 flt dn left wr pr sg g w num ) (cwV 2 G.2.2.2.2.1 (sb_goodV wd_630 wd_632 ws_XM_gateBit wd_8 wd_633) rfl rfl rfl (by decide +kernel) ⟨Nat.le_of_ble_eq_true rfl, Nat.le_of_ble_eq_true rfl⟩) 0 6 rfl rfl rfl rfl (Nat.le_of_ble_eq_true rfl) dXM_passesGate_7 ⟨Nat.le_of_ble_eq_true rfl, Nat.le_of_ble_eq_true rfl⟩ [0, 1, 2] rfl (by decide) ?_
  refine sw_eq (ws' := [(q0, .inr (6, [.int flt, .int (sp_b dn), .int left, .int wr, .int pr, .int (nI sg), .ref q1, .ref q2, .ref q3, .ref q4, .ref q5, .ref q6, .int num, .ref q7, .ref q8])), (q1, .inl (ta.1, 4, .inl (g))), (q2, .inl (ta.1, 160, .inl (w))), (q8, .inl (ta.2.1, 64, .inl (fun jx => sp_b (gt jx))))]) (lv2 := [(0, .ref q0)]) (pc2 := 10) (st2 := [.int (nI (fpN g 0 % 64)), .ref q8]) rfl ?_
  refine sw_zaldN (j := fpN g 0 % 64) (v := sp_b (gt (fpN g 0 % 64))) G 3 rfl (by omega) (by decide) (rfl) dXM_passesGate_10 ?_
  refine sw_if_eq (x := sp_b (gt (fpN g 0 % 64))) (tgt := 46) G dXM_passesGate_11 (by decide) (fun br11 => ?_) (fun br11 => ?_)
  · refine sw_iconst (v := nI 0) G dXM_passesGate_46 (by decide) ?_
    exact sr_zret (x := nI 0) G hr hlk (by rw [show gpass gt g = false by rw [gpass, (sp_b_eq _).mp br11] <;> rfl] <;> rfl) (rfl) dXM_passesGate_47
  · refine sw_aload_n G dXM_passesGate_14 rfl 0 rfl ?_
    refine sw_get (C := RXM) (T := TXM) (ref := RXM) (N := 15) G inXM 0 rfl rfl 14 (by decide) wd_566 rfl rfl dXM_passesGate_15 ?_
    refine sw_aload_n G dXM_passesGate_18 rfl 0 rfl ?_
    refine sw_iconst (v := -1) G dXM_passesGate_19 (by decide) ?_
    refine sw_iconst (v := nI 1) G dXM_passesGate_20 (by decide) ?_
    refine sw_readV (As := [.int (-1), .int (nI 1)]) (rest := [.ref q8]) G (c_XM_gateS1 l D ta q0 q1 q2 q3 q4 q5 q6 q7 q8 flt dn left wr pr sg g w num ) (cwV 2 G.2.2.2.2.1 (sb_goodV wd_630 wd_632 ws_XM_gateBit wd_8 wd_633) rfl rfl rfl (by decide +kernel) ⟨Nat.le_of_ble_eq_true rfl, Nat.le_of_ble_eq_true rfl⟩) 0 6 rfl rfl rfl rfl (Nat.le_of_ble_eq_true rfl) dXM_passesGate_21 ⟨Nat.le_of_ble_eq_true rfl, Nat.le_of_ble_eq_true rfl⟩ [0, 1, 2] rfl (by decide) ?_
    refine sw_eq (ws' := [(q0, .inr (6, [.int flt, .int (sp_b dn), .int left, .int wr, .int pr, .int (nI sg), .ref q1, .ref q2, .ref q3, .ref q4, .ref q5, .ref q6, .int num, .ref q7, .ref q8])), (q1, .inl (ta.1, 4, .inl (g))), (q2, .inl (ta.1, 160, .inl (w))), (q8, .inl (ta.2.1, 64, .inl (fun jx => sp_b (gt jx))))]) (lv2 := [(0, .ref q0)]) (pc2 := 24) (st2 := [.int (nI (fpN g 0 / 4)), .ref q8]) rfl ?_
    refine sw_zaldN (j := fpN g 0 / 4) (v := sp_b (gt (fpN g 0 / 4))) G 3 rfl (by omega) (by decide) (rfl) dXM_passesGate_24 ?_
    refine sw_if_eq (x := sp_b (gt (fpN g 0 / 4))) (tgt := 46) G dXM_passesGate_25 (by decide) (fun br25 => ?_) (fun br25 => ?_)
    · refine sw_iconst (v := nI 0) G dXM_passesGate_46 (by decide) ?_
      exact sr_zret (x := nI 0) G hr hlk (by rw [show gpass gt g = false by rw [gpass, (sp_b_ne _).mp br11, (sp_b_eq _).mp br25] <;> rfl] <;> rfl) (rfl) dXM_passesGate_47
    · refine sw_aload_n G dXM_passesGate_28 rfl 0 rfl ?_
      refine sw_get (C := RXM) (T := TXM) (ref := RXM) (N := 15) G inXM 0 rfl rfl 14 (by decide) wd_566 rfl rfl dXM_passesGate_29 ?_
      refine sw_aload_n G dXM_passesGate_32 rfl 0 rfl ?_
      refine sw_iconst (v := -1) G dXM_passesGate_33 (by decide) ?_
      refine sw_iconst (v := nI 2) G dXM_passesGate_34 (by decide) ?_
      refine sw_readV (As := [.int (-1), .int (nI 2)]) (rest := [.ref q8]) G (c_XM_gateS2 l D ta q0 q1 q2 q3 q4 q5 q6 q7 q8 flt dn left wr pr sg g w num ) (cwV 2 G.2.2.2.2.1 (sb_goodV wd_630 wd_632 ws_XM_gateBit wd_8 wd_633) rfl rfl rfl (by decide +kernel) ⟨Nat.le_of_ble_eq_true rfl, Nat.le_of_ble_eq_true rfl⟩) 0 6 rfl rfl rfl rfl (Nat.le_of_ble_eq_true rfl) dXM_passesGate_35 ⟨Nat.le_of_ble_eq_true rfl, Nat.le_of_ble_eq_true rfl⟩ [0, 1, 2] rfl (by decide) ?_
      refine sw_eq (ws' := [(q0, .inr (6, [.int flt, .int (sp_b dn), .int left, .int wr, .int pr, .int (nI sg), .ref q1, .ref q2, .ref q3, .ref q4, .ref q5, .ref q6, .int num, .ref q7, .ref q8])), (q1, .inl (ta.1, 4, .inl (g))), (q2, .inl (ta.1, 160, .inl (w))), (q8, .inl (ta.2.1, 64, .inl (fun jx => sp_b (gt jx))))]) (lv2 := [(0, .ref q0)]) (pc2 := 38) (st2 := [.int (nI (mixN g 0)), .ref q8]) rfl ?_
      refine sw_zaldN (j := mixN g 0) (v := sp_b (gt (mixN g 0))) G 3 rfl (by omega) (by decide) (rfl) dXM_passesGate_38 ?_
      refine sw_if_eq (x := sp_b (gt (mixN g 0))) (tgt := 46) G dXM_passesGate_39 (by decide) (fun br39 => ?_) (fun br39 => ?_)
      · refine sw_iconst (v := nI 0) G dXM_passesGate_46 (by decide) ?_
        exact sr_zret (x := nI 0) G hr hlk (by rw [show gpass gt g = false by rw [gpass, (sp_b_ne _).mp br11, (sp_b_ne _).mp br25, (sp_b_eq _).mp br39] <;> rfl] <;> rfl) (rfl) dXM_passesGate_47
      · refine sw_iconst (v := nI 1) G dXM_passesGate_42 (by decide) ?_
        refine sw_goto (tgt := 47) G dXM_passesGate_43 (by decide) ?_
        exact sr_zret (x := nI 1) G hr hlk (by rw [show gpass gt g = true by rw [gpass, (sp_b_ne _).mp br11, (sp_b_ne _).mp br25, (sp_b_ne _).mp br39] <;> rfl] <;> rfl) (rfl) dXM_passesGate_47

set_option maxRecDepth 100000 in
set_option maxHeartbeats 4000000 in
theorem c_XM_isFile (l : Launch) (D : va_G) (ta : ClassId × ClassId × ClassId) (x : Int32)  : sr l yXM_isFile wsXM_isFile ({ frames := 0, cells := 0, slots := 0, locals := 0 }) D ta [.int x] [] (some (.int (sp_b (isf x)))) := by
  refine sr_ofW (y := yXM_isFile) (cc := cXM_isFile) (nL := 1) (ret := (some .boolean)) (by decide) (Nat.le_of_ble_eq_true rfl) (fun p e s m below meth c G hr hlk hnm => ?_)
  refine sw_eq (ws' := []) (lv2 := [(0, .int x)]) (pc2 := 0) (st2 := []) rfl ?_
  refine sw_iload_n G dXM_isFile_0 rfl 0 rfl ?_
  refine sw_if_lt (x := x) (tgt := 14) G dXM_isFile_1 (by decide) (fun br1 => ?_) (fun br1 => ?_)
  · refine sw_iconst (v := nI 0) G dXM_isFile_14 (by decide) ?_
    exact sr_zret (x := nI 0) G hr hlk (by rw [show isf x = false by rw [isf, decide_eq_true br1] <;> rfl] <;> rfl) (rfl) dXM_isFile_15
  · refine sw_iload_n G dXM_isFile_4 rfl 0 rfl ?_
    refine sw_bipush (v := nI 6) G dXM_isFile_5 (by decide) ?_
    refine sw_icmp_ge (x := x) (y := nI 6) (tgt := 14) G dXM_isFile_7 (by decide) (fun br7 => ?_) (fun br7 => ?_)
    · refine sw_iconst (v := nI 0) G dXM_isFile_14 (by decide) ?_
      exact sr_zret (x := nI 0) G hr hlk (by rw [show isf x = false by rw [isf, decide_eq_false br1, decide_eq_true br7] <;> rfl] <;> rfl) (rfl) dXM_isFile_15
    · refine sw_iconst (v := nI 1) G dXM_isFile_10 (by decide) ?_
      refine sw_goto (tgt := 15) G dXM_isFile_11 (by decide) ?_
      exact sr_zret (x := nI 1) G hr hlk (by rw [show isf x = true by rw [isf, decide_eq_false br1, decide_eq_false br7] <;> rfl] <;> rfl) (rfl) dXM_isFile_15
