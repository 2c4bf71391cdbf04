abbrev cXC_fingerprint : ByteArray := prog_2_method_2_code
abbrev yXC_fingerprint : MethodName := ⟨RXC, "fingerprint", "([II)I"⟩
abbrev wsXC_fingerprint : List Cond := .code yXC_fingerprint cXC_fingerprint 4 (some .int) :: sbT
theorem dXC_fingerprint_0 : decode cXC_fingerprint 0 = .ok (.bipush 17, 2) := by decide +kernel
theorem dXC_fingerprint_2 : decode cXC_fingerprint 2 = .ok (.istore_n 2, 1) := by decide +kernel
theorem dXC_fingerprint_3 : decode cXC_fingerprint 3 = .ok (.iconst 0, 1) := by decide +kernel
theorem dXC_fingerprint_4 : decode cXC_fingerprint 4 = .ok (.istore_n 3, 1) := by decide +kernel
theorem dXC_fingerprint_5 : decode cXC_fingerprint 5 = .ok (.iload_n 3, 1) := by decide +kernel
theorem dXC_fingerprint_6 : decode cXC_fingerprint 6 = .ok (.iconst 4, 1) := by decide +kernel
theorem dXC_fingerprint_7 : decode cXC_fingerprint 7 = .ok (.if_icmp .ge 27, 3) := by decide +kernel
theorem dXC_fingerprint_10 : decode cXC_fingerprint 10 = .ok (.iload_n 2, 1) := by decide +kernel
theorem dXC_fingerprint_11 : decode cXC_fingerprint 11 = .ok (.bipush 31, 2) := by decide +kernel
theorem dXC_fingerprint_13 : decode cXC_fingerprint 13 = .ok (.imul, 1) := by decide +kernel
theorem dXC_fingerprint_14 : decode cXC_fingerprint 14 = .ok (.aload_n 0, 1) := by decide +kernel
theorem dXC_fingerprint_15 : decode cXC_fingerprint 15 = .ok (.iload_n 1, 1) := by decide +kernel
theorem dXC_fingerprint_16 : decode cXC_fingerprint 16 = .ok (.iload_n 3, 1) := by decide +kernel
theorem dXC_fingerprint_17 : decode cXC_fingerprint 17 = .ok (.iadd, 1) := by decide +kernel
theorem dXC_fingerprint_18 : decode cXC_fingerprint 18 = .ok (.iaload, 1) := by decide +kernel
theorem dXC_fingerprint_19 : decode cXC_fingerprint 19 = .ok (.iadd, 1) := by decide +kernel
theorem dXC_fingerprint_20 : decode cXC_fingerprint 20 = .ok (.istore_n 2, 1) := by decide +kernel
theorem dXC_fingerprint_21 : decode cXC_fingerprint 21 = .ok (.iload_n 2, 1) := by decide +kernel
theorem dXC_fingerprint_22 : decode cXC_fingerprint 22 = .ok (.iload_n 2, 1) := by decide +kernel
theorem dXC_fingerprint_23 : decode cXC_fingerprint 23 = .ok (.bipush 15, 2) := by decide +kernel
theorem dXC_fingerprint_25 : decode cXC_fingerprint 25 = .ok (.iushr, 1) := by decide +kernel
theorem dXC_fingerprint_26 : decode cXC_fingerprint 26 = .ok (.ixor, 1) := by decide +kernel
theorem dXC_fingerprint_27 : decode cXC_fingerprint 27 = .ok (.istore_n 2, 1) := by decide +kernel
theorem dXC_fingerprint_28 : decode cXC_fingerprint 28 = .ok (.iinc 3 1, 3) := by decide +kernel
theorem dXC_fingerprint_31 : decode cXC_fingerprint 31 = .ok (.goto (-26), 3) := by decide +kernel
theorem dXC_fingerprint_34 : decode cXC_fingerprint 34 = .ok (.iload_n 2, 1) := by decide +kernel
theorem dXC_fingerprint_35 : decode cXC_fingerprint 35 = .ok (.sipush 255, 3) := by decide +kernel
theorem dXC_fingerprint_38 : decode cXC_fingerprint 38 = .ok (.iand, 1) := by decide +kernel
theorem dXC_fingerprint_39 : decode cXC_fingerprint 39 = .ok (.ireturn, 1) := by decide +kernel
abbrev cXC_bitsOfGate : ByteArray := prog_2_method_3_code
abbrev yXC_bitsOfGate : MethodName := ⟨RXC, "bitsOfGate", "([II)J"⟩
abbrev wsXC_bitsOfGate : List Cond := .code yXC_bitsOfGate cXC_bitsOfGate 4 (some .long) :: sbT
theorem dXC_bitsOfGate_0 : decode cXC_bitsOfGate 0 = .ok (.aload_n 0, 1) := by decide +kernel
theorem dXC_bitsOfGate_1 : decode cXC_bitsOfGate 1 = .ok (.iload_n 1, 1) := by decide +kernel
theorem dXC_bitsOfGate_2 : decode cXC_bitsOfGate 2 = .ok (.invokestatic 9, 3) := by decide +kernel
theorem dXC_bitsOfGate_5 : decode cXC_bitsOfGate 5 = .ok (.istore_n 2, 1) := by decide +kernel
theorem dXC_bitsOfGate_6 : decode cXC_bitsOfGate 6 = .ok (.aload_n 0, 1) := by decide +kernel
theorem dXC_bitsOfGate_7 : decode cXC_bitsOfGate 7 = .ok (.iload_n 1, 1) := by decide +kernel
theorem dXC_bitsOfGate_8 : decode cXC_bitsOfGate 8 = .ok (.iaload, 1) := by decide +kernel
theorem dXC_bitsOfGate_9 : decode cXC_bitsOfGate 9 = .ok (.aload_n 0, 1) := by decide +kernel
theorem dXC_bitsOfGate_10 : decode cXC_bitsOfGate 10 = .ok (.iload_n 1, 1) := by decide +kernel
theorem dXC_bitsOfGate_11 : decode cXC_bitsOfGate 11 = .ok (.iconst 1, 1) := by decide +kernel
theorem dXC_bitsOfGate_12 : decode cXC_bitsOfGate 12 = .ok (.iadd, 1) := by decide +kernel
theorem dXC_bitsOfGate_13 : decode cXC_bitsOfGate 13 = .ok (.iaload, 1) := by decide +kernel
theorem dXC_bitsOfGate_14 : decode cXC_bitsOfGate 14 = .ok (.ixor, 1) := by decide +kernel
theorem dXC_bitsOfGate_15 : decode cXC_bitsOfGate 15 = .ok (.aload_n 0, 1) := by decide +kernel
theorem dXC_bitsOfGate_16 : decode cXC_bitsOfGate 16 = .ok (.iload_n 1, 1) := by decide +kernel
theorem dXC_bitsOfGate_17 : decode cXC_bitsOfGate 17 = .ok (.iconst 2, 1) := by decide +kernel
theorem dXC_bitsOfGate_18 : decode cXC_bitsOfGate 18 = .ok (.iadd, 1) := by decide +kernel
theorem dXC_bitsOfGate_19 : decode cXC_bitsOfGate 19 = .ok (.iaload, 1) := by decide +kernel
theorem dXC_bitsOfGate_20 : decode cXC_bitsOfGate 20 = .ok (.ixor, 1) := by decide +kernel
theorem dXC_bitsOfGate_21 : decode cXC_bitsOfGate 21 = .ok (.aload_n 0, 1) := by decide +kernel
theorem dXC_bitsOfGate_22 : decode cXC_bitsOfGate 22 = .ok (.iload_n 1, 1) := by decide +kernel
theorem dXC_bitsOfGate_23 : decode cXC_bitsOfGate 23 = .ok (.iconst 3, 1) := by decide +kernel
theorem dXC_bitsOfGate_24 : decode cXC_bitsOfGate 24 = .ok (.iadd, 1) := by decide +kernel
theorem dXC_bitsOfGate_25 : decode cXC_bitsOfGate 25 = .ok (.iaload, 1) := by decide +kernel
theorem dXC_bitsOfGate_26 : decode cXC_bitsOfGate 26 = .ok (.ixor, 1) := by decide +kernel
theorem dXC_bitsOfGate_27 : decode cXC_bitsOfGate 27 = .ok (.istore_n 3, 1) := by decide +kernel
theorem dXC_bitsOfGate_28 : decode cXC_bitsOfGate 28 = .ok (.lconst 1, 1) := by decide +kernel
theorem dXC_bitsOfGate_29 : decode cXC_bitsOfGate 29 = .ok (.iload_n 2, 1) := by decide +kernel
theorem dXC_bitsOfGate_30 : decode cXC_bitsOfGate 30 = .ok (.bipush 63, 2) := by decide +kernel
theorem dXC_bitsOfGate_32 : decode cXC_bitsOfGate 32 = .ok (.iand, 1) := by decide +kernel
theorem dXC_bitsOfGate_33 : decode cXC_bitsOfGate 33 = .ok (.lshl, 1) := by decide +kernel
theorem dXC_bitsOfGate_34 : decode cXC_bitsOfGate 34 = .ok (.lconst 1, 1) := by decide +kernel
theorem dXC_bitsOfGate_35 : decode cXC_bitsOfGate 35 = .ok (.iload_n 2, 1) := by decide +kernel
theorem dXC_bitsOfGate_36 : decode cXC_bitsOfGate 36 = .ok (.iconst 2, 1) := by decide +kernel
theorem dXC_bitsOfGate_37 : decode cXC_bitsOfGate 37 = .ok (.ishr, 1) := by decide +kernel
theorem dXC_bitsOfGate_38 : decode cXC_bitsOfGate 38 = .ok (.lshl, 1) := by decide +kernel
theorem dXC_bitsOfGate_39 : decode cXC_bitsOfGate 39 = .ok (.lor, 1) := by decide +kernel
theorem dXC_bitsOfGate_40 : decode cXC_bitsOfGate 40 = .ok (.lconst 1, 1) := by decide +kernel
theorem dXC_bitsOfGate_41 : decode cXC_bitsOfGate 41 = .ok (.iload_n 3, 1) := by decide +kernel
theorem dXC_bitsOfGate_42 : decode cXC_bitsOfGate 42 = .ok (.bipush 63, 2) := by decide +kernel
theorem dXC_bitsOfGate_44 : decode cXC_bitsOfGate 44 = .ok (.iand, 1) := by decide +kernel
theorem dXC_bitsOfGate_45 : decode cXC_bitsOfGate 45 = .ok (.lshl, 1) := by decide +kernel
theorem dXC_bitsOfGate_46 : decode cXC_bitsOfGate 46 = .ok (.lor, 1) := by decide +kernel
theorem dXC_bitsOfGate_47 : decode cXC_bitsOfGate 47 = .ok (.lreturn, 1) := by decide +kernel
abbrev cXP_letsWrite : ByteArray := prog_5_method_2_code
abbrev yXP_letsWrite : MethodName := ⟨RXP, "letsWrite", "()Z"⟩
abbrev wsXP_letsWrite : List Cond := .code yXP_letsWrite cXP_letsWrite 1 (some .boolean) :: sbT
theorem dXP_letsWrite_0 : decode cXP_letsWrite 0 = .ok (.aload_n 0, 1) := by decide +kernel
theorem dXP_letsWrite_1 : decode cXP_letsWrite 1 = .ok (.getfield 9, 3) := by decide +kernel
theorem dXP_letsWrite_4 : decode cXP_letsWrite 4 = .ok (.ifCond .ne 10, 3) := by decide +kernel
theorem dXP_letsWrite_7 : decode cXP_letsWrite 7 = .ok (.aload_n 0, 1) := by decide +kernel
theorem dXP_letsWrite_8 : decode cXP_letsWrite 8 = .ok (.iconst 1, 1) := by decide +kernel
theorem dXP_letsWrite_9 : decode cXP_letsWrite 9 = .ok (.putfield 15, 3) := by decide +kernel
theorem dXP_letsWrite_12 : decode cXP_letsWrite 12 = .ok (.iconst 0, 1) := by decide +kernel
theorem dXP_letsWrite_13 : decode cXP_letsWrite 13 = .ok (.ireturn, 1) := by decide +kernel
theorem dXP_letsWrite_14 : decode cXP_letsWrite 14 = .ok (.aload_n 0, 1) := by decide +kernel
theorem dXP_letsWrite_15 : decode cXP_letsWrite 15 = .ok (.getfield 9, 3) := by decide +kernel
theorem dXP_letsWrite_18 : decode cXP_letsWrite 18 = .ok (.ifCond .le 13, 3) := by decide +kernel
theorem dXP_letsWrite_21 : decode cXP_letsWrite 21 = .ok (.aload_n 0, 1) := by decide +kernel
theorem dXP_letsWrite_22 : decode cXP_letsWrite 22 = .ok (.dup, 1) := by decide +kernel
theorem dXP_letsWrite_23 : decode cXP_letsWrite 23 = .ok (.getfield 9, 3) := by decide +kernel
theorem dXP_letsWrite_26 : decode cXP_letsWrite 26 = .ok (.iconst 1, 1) := by decide +kernel
theorem dXP_letsWrite_27 : decode cXP_letsWrite 27 = .ok (.isub, 1) := by decide +kernel
theorem dXP_letsWrite_28 : decode cXP_letsWrite 28 = .ok (.putfield 9, 3) := by decide +kernel
theorem dXP_letsWrite_31 : decode cXP_letsWrite 31 = .ok (.aload_n 0, 1) := by decide +kernel
theorem dXP_letsWrite_32 : decode cXP_letsWrite 32 = .ok (.dup, 1) := by decide +kernel
theorem dXP_letsWrite_33 : decode cXP_letsWrite 33 = .ok (.getfield 19, 3) := by decide +kernel
theorem dXP_letsWrite_36 : decode cXP_letsWrite 36 = .ok (.iconst 1, 1) := by decide +kernel
theorem dXP_letsWrite_37 : decode cXP_letsWrite 37 = .ok (.iadd, 1) := by decide +kernel
theorem dXP_letsWrite_38 : decode cXP_letsWrite 38 = .ok (.putfield 19, 3) := by decide +kernel
theorem dXP_letsWrite_41 : decode cXP_letsWrite 41 = .ok (.iconst 1, 1) := by decide +kernel
theorem dXP_letsWrite_42 : decode cXP_letsWrite 42 = .ok (.ireturn, 1) := by decide +kernel
abbrev cXP_failAfter : ByteArray := prog_5_method_3_code
abbrev yXP_failAfter : MethodName := ⟨RXP, "failAfter", "(I)V"⟩
abbrev wsXP_failAfter : List Cond := .code yXP_failAfter cXP_failAfter 2 none :: sbT
theorem dXP_failAfter_0 : decode cXP_failAfter 0 = .ok (.aload_n 0, 1) := by decide +kernel
theorem dXP_failAfter_1 : decode cXP_failAfter 1 = .ok (.iload_n 1, 1) := by decide +kernel
theorem dXP_failAfter_2 : decode cXP_failAfter 2 = .ok (.putfield 9, 3) := by decide +kernel
theorem dXP_failAfter_5 : decode cXP_failAfter 5 = .ok (.return_, 1) := by decide +kernel
abbrev cXP_comeBack : ByteArray := prog_5_method_4_code
abbrev yXP_comeBack : MethodName := ⟨RXP, "comeBack", "()V"⟩
abbrev wsXP_comeBack : List Cond := .code yXP_comeBack cXP_comeBack 1 none :: sbT
theorem dXP_comeBack_0 : decode cXP_comeBack 0 = .ok (.aload_n 0, 1) := by decide +kernel
theorem dXP_comeBack_1 : decode cXP_comeBack 1 = .ok (.iconst (-1), 1) := by decide +kernel
theorem dXP_comeBack_2 : decode cXP_comeBack 2 = .ok (.putfield 9, 3) := by decide +kernel
theorem dXP_comeBack_5 : decode cXP_comeBack 5 = .ok (.aload_n 0, 1) := by decide +kernel
theorem dXP_comeBack_6 : decode cXP_comeBack 6 = .ok (.iconst 0, 1) := by decide +kernel
theorem dXP_comeBack_7 : decode cXP_comeBack 7 = .ok (.putfield 15, 3) := by decide +kernel
theorem dXP_comeBack_10 : decode cXP_comeBack 10 = .ok (.return_, 1) := by decide +kernel
abbrev cXP_isOff : ByteArray := prog_5_method_5_code
abbrev yXP_isOff : MethodName := ⟨RXP, "isOff", "()Z"⟩
abbrev wsXP_isOff : List Cond := .code yXP_isOff cXP_isOff 1 (some .boolean) :: sbT
theorem dXP_isOff_0 : decode cXP_isOff 0 = .ok (.aload_n 0, 1) := by decide +kernel
theorem dXP_isOff_1 : decode cXP_isOff 1 = .ok (.getfield 15, 3) := by decide +kernel
theorem dXP_isOff_4 : decode cXP_isOff 4 = .ok (.ireturn, 1) := by decide +kernel
abbrev cXP_writesDone : ByteArray := prog_5_method_6_code
abbrev yXP_writesDone : MethodName := ⟨RXP, "writesDone", "()I"⟩
abbrev wsXP_writesDone : List Cond := .code yXP_writesDone cXP_writesDone 1 (some .int) :: sbT
theorem dXP_writesDone_0 : decode cXP_writesDone 0 = .ok (.aload_n 0, 1) := by decide +kernel
theorem dXP_writesDone_1 : decode cXP_writesDone 1 = .ok (.getfield 19, 3) := by decide +kernel
theorem dXP_writesDone_4 : decode cXP_writesDone 4 = .ok (.ireturn, 1) := by decide +kernel
abbrev cXR_length : ByteArray := prog_6_method_2_code
abbrev yXR_length : MethodName := ⟨RXR, "length", "(I)I"⟩
abbrev wsXR_length : List Cond := .code yXR_length cXR_length 2 (some .int) :: sbT
theorem dXR_length_0 : decode cXR_length 0 = .ok (.aload_n 0, 1) := by decide +kernel
theorem dXR_length_1 : decode cXR_length 1 = .ok (.getfield 9, 3) := by decide +kernel
theorem dXR_length_4 : decode cXR_length 4 = .ok (.iload_n 1, 1) := by decide +kernel
theorem dXR_length_5 : decode cXR_length 5 = .ok (.iaload, 1) := by decide +kernel
theorem dXR_length_6 : decode cXR_length 6 = .ok (.ireturn, 1) := by decide +kernel
abbrev cXR_entry : ByteArray := prog_6_method_3_code
abbrev yXR_entry : MethodName := ⟨RXR, "entry", "(II)I"⟩
abbrev wsXR_entry : List Cond := .code yXR_entry cXR_entry 3 (some .int) :: sbT
theorem dXR_entry_0 : decode cXR_entry 0 = .ok (.aload_n 0, 1) := by decide +kernel
theorem dXR_entry_1 : decode cXR_entry 1 = .ok (.getfield 15, 3) := by decide +kernel
theorem dXR_entry_4 : decode cXR_entry 4 = .ok (.iload_n 1, 1) := by decide +kernel
theorem dXR_entry_5 : decode cXR_entry 5 = .ok (.bipush 12, 2) := by decide +kernel
theorem dXR_entry_7 : decode cXR_entry 7 = .ok (.imul, 1) := by decide +kernel
theorem dXR_entry_8 : decode cXR_entry 8 = .ok (.iload_n 2, 1) := by decide +kernel
theorem dXR_entry_9 : decode cXR_entry 9 = .ok (.iadd, 1) := by decide +kernel
theorem dXR_entry_10 : decode cXR_entry 10 = .ok (.iaload, 1) := by decide +kernel
theorem dXR_entry_11 : decode cXR_entry 11 = .ok (.ireturn, 1) := by decide +kernel
abbrev cXR_have : ByteArray := prog_6_method_4_code
abbrev yXR_have : MethodName := ⟨RXR, "have", "(I)Z"⟩
abbrev wsXR_have : List Cond := .code yXR_have cXR_have 2 (some .boolean) :: sbT
theorem dXR_have_0 : decode cXR_have 0 = .ok (.aload_n 0, 1) := by decide +kernel
theorem dXR_have_1 : decode cXR_have 1 = .ok (.getfield 18, 3) := by decide +kernel
theorem dXR_have_4 : decode cXR_have 4 = .ok (.iload_n 1, 1) := by decide +kernel
theorem dXR_have_5 : decode cXR_have 5 = .ok (.iaload, 1) := by decide +kernel
theorem dXR_have_6 : decode cXR_have 6 = .ok (.ifCond .le 7, 3) := by decide +kernel
theorem dXR_have_9 : decode cXR_have 9 = .ok (.iconst 1, 1) := by decide +kernel
theorem dXR_have_10 : decode cXR_have 10 = .ok (.goto 4, 3) := by decide +kernel
theorem dXR_have_13 : decode cXR_have 13 = .ok (.iconst 0, 1) := by decide +kernel
theorem dXR_have_14 : decode cXR_have 14 = .ok (.ireturn, 1) := by decide +kernel
abbrev cXR_add : ByteArray := prog_6_method_5_code
abbrev yXR_add : MethodName := ⟨RXR, "add", "(II)V"⟩
abbrev wsXR_add : List Cond := .code yXR_add cXR_add 3 none :: sbT
theorem dXR_add_0 : decode cXR_add 0 = .ok (.aload_n 0, 1) := by decide +kernel
theorem dXR_add_1 : decode cXR_add 1 = .ok (.getfield 15, 3) := by decide +kernel
theorem dXR_add_4 : decode cXR_add 4 = .ok (.iload_n 1, 1) := by decide +kernel
theorem dXR_add_5 : decode cXR_add 5 = .ok (.bipush 12, 2) := by decide +kernel
theorem dXR_add_7 : decode cXR_add 7 = .ok (.imul, 1) := by decide +kernel
theorem dXR_add_8 : decode cXR_add 8 = .ok (.aload_n 0, 1) := by decide +kernel
theorem dXR_add_9 : decode cXR_add 9 = .ok (.getfield 9, 3) := by decide +kernel
theorem dXR_add_12 : decode cXR_add 12 = .ok (.iload_n 1, 1) := by decide +kernel
theorem dXR_add_13 : decode cXR_add 13 = .ok (.iaload, 1) := by decide +kernel
theorem dXR_add_14 : decode cXR_add 14 = .ok (.iadd, 1) := by decide +kernel
theorem dXR_add_15 : decode cXR_add 15 = .ok (.iload_n 2, 1) := by decide +kernel
theorem dXR_add_16 : decode cXR_add 16 = .ok (.iastore, 1) := by decide +kernel
theorem dXR_add_17 : decode cXR_add 17 = .ok (.aload_n 0, 1) := by decide +kernel
theorem dXR_add_18 : decode cXR_add 18 = .ok (.getfield 9, 3) := by decide +kernel
theorem dXR_add_21 : decode cXR_add 21 = .ok (.iload_n 1, 1) := by decide +kernel
theorem dXR_add_22 : decode cXR_add 22 = .ok (.dup2, 1) := by decide +kernel
theorem dXR_add_23 : decode cXR_add 23 = .ok (.iaload, 1) := by decide +kernel
theorem dXR_add_24 : decode cXR_add 24 = .ok (.iconst 1, 1) := by decide +kernel
theorem dXR_add_25 : decode cXR_add 25 = .ok (.iadd, 1) := by decide +kernel
theorem dXR_add_26 : decode cXR_add 26 = .ok (.iastore, 1) := by decide +kernel
theorem dXR_add_27 : decode cXR_add 27 = .ok (.aload_n 0, 1) := by decide +kernel
theorem dXR_add_28 : decode cXR_add 28 = .ok (.getfield 18, 3) := by decide +kernel
theorem dXR_add_31 : decode cXR_add 31 = .ok (.iload_n 2, 1) := by decide +kernel
theorem dXR_add_32 : decode cXR_add 32 = .ok (.dup2, 1) := by decide +kernel
theorem dXR_add_33 : decode cXR_add 33 = .ok (.iaload, 1) := by decide +kernel
theorem dXR_add_34 : decode cXR_add 34 = .ok (.iconst 1, 1) := by decide +kernel
theorem dXR_add_35 : decode cXR_add 35 = .ok (.iadd, 1) := by decide +kernel
theorem dXR_add_36 : decode cXR_add 36 = .ok (.iastore, 1) := by decide +kernel
theorem dXR_add_37 : decode cXR_add 37 = .ok (.return_, 1) := by decide +kernel
abbrev cXR_shorten : ByteArray := prog_6_method_6_code
abbrev yXR_shorten : MethodName := ⟨RXR, "shorten", "(II)V"⟩
abbrev wsXR_shorten : List Cond := .code yXR_shorten cXR_shorten 4 none :: sbT
theorem dXR_shorten_0 : decode cXR_shorten 0 = .ok (.iload_n 2, 1) := by decide +kernel
theorem dXR_shorten_1 : decode cXR_shorten 1 = .ok (.istore_n 3, 1) := by decide +kernel
theorem dXR_shorten_2 : decode cXR_shorten 2 = .ok (.iload_n 3, 1) := by decide +kernel
theorem dXR_shorten_3 : decode cXR_shorten 3 = .ok (.aload_n 0, 1) := by decide +kernel
theorem dXR_shorten_4 : decode cXR_shorten 4 = .ok (.getfield 9, 3) := by decide +kernel
theorem dXR_shorten_7 : decode cXR_shorten 7 = .ok (.iload_n 1, 1) := by decide +kernel
theorem dXR_shorten_8 : decode cXR_shorten 8 = .ok (.iaload, 1) := by decide +kernel
theorem dXR_shorten_9 : decode cXR_shorten 9 = .ok (.if_icmp .ge 24, 3) := by decide +kernel
theorem dXR_shorten_12 : decode cXR_shorten 12 = .ok (.aload_n 0, 1) := by decide +kernel
theorem dXR_shorten_13 : decode cXR_shorten 13 = .ok (.getfield 18, 3) := by decide +kernel
theorem dXR_shorten_16 : decode cXR_shorten 16 = .ok (.aload_n 0, 1) := by decide +kernel
theorem dXR_shorten_17 : decode cXR_shorten 17 = .ok (.iload_n 1, 1) := by decide +kernel
theorem dXR_shorten_18 : decode cXR_shorten 18 = .ok (.iload_n 3, 1) := by decide +kernel
theorem dXR_shorten_19 : decode cXR_shorten 19 = .ok (.invokevirtual 21, 3) := by decide +kernel
theorem dXR_shorten_22 : decode cXR_shorten 22 = .ok (.dup2, 1) := by decide +kernel
theorem dXR_shorten_23 : decode cXR_shorten 23 = .ok (.iaload, 1) := by decide +kernel
theorem dXR_shorten_24 : decode cXR_shorten 24 = .ok (.iconst 1, 1) := by decide +kernel
theorem dXR_shorten_25 : decode cXR_shorten 25 = .ok (.isub, 1) := by decide +kernel
theorem dXR_shorten_26 : decode cXR_shorten 26 = .ok (.iastore, 1) := by decide +kernel
theorem dXR_shorten_27 : decode cXR_shorten 27 = .ok (.iinc 3 1, 3) := by decide +kernel
theorem dXR_shorten_30 : decode cXR_shorten 30 = .ok (.goto (-28), 3) := by decide +kernel
theorem dXR_shorten_33 : decode cXR_shorten 33 = .ok (.aload_n 0, 1) := by decide +kernel
theorem dXR_shorten_34 : decode cXR_shorten 34 = .ok (.getfield 9, 3) := by decide +kernel
theorem dXR_shorten_37 : decode cXR_shorten 37 = .ok (.iload_n 1, 1) := by decide +kernel
theorem dXR_shorten_38 : decode cXR_shorten 38 = .ok (.iload_n 2, 1) := by decide +kernel
theorem dXR_shorten_39 : decode cXR_shorten 39 = .ok (.iastore, 1) := by decide +kernel
theorem dXR_shorten_40 : decode cXR_shorten 40 = .ok (.return_, 1) := by decide +kernel
abbrev cXS_rows : ByteArray := prog_7_method_2_code
abbrev yXS_rows : MethodName := ⟨RXS, "rows", "()LSharedBlockStore$Rows;"⟩
abbrev wsXS_rows : List Cond := .code yXS_rows cXS_rows 1 (some (.object "SharedBlockStore$Rows")) :: sbT
theorem dXS_rows_0 : decode cXS_rows 0 = .ok (.aload_n 0, 1) := by decide +kernel
theorem dXS_rows_1 : decode cXS_rows 1 = .ok (.getfield 10, 3) := by decide +kernel
theorem dXS_rows_4 : decode cXS_rows 4 = .ok (.areturn, 1) := by decide +kernel
abbrev cXS_number : ByteArray := prog_7_method_3_code
abbrev yXS_number : MethodName := ⟨RXS, "number", "()I"⟩
abbrev wsXS_number : List Cond := .code yXS_number cXS_number 1 (some .int) :: sbT
theorem dXS_number_0 : decode cXS_number 0 = .ok (.aload_n 0, 1) := by decide +kernel
theorem dXS_number_1 : decode cXS_number 1 = .ok (.getfield 16, 3) := by decide +kernel
theorem dXS_number_4 : decode cXS_number 4 = .ok (.ireturn, 1) := by decide +kernel
abbrev cXS_writeHead : ByteArray := prog_7_method_4_code
abbrev yXS_writeHead : MethodName := ⟨RXS, "writeHead", "(I)V"⟩
abbrev wsXS_writeHead : List Cond := .code yXS_writeHead cXS_writeHead 2 none :: sbT
theorem dXS_writeHead_0 : decode cXS_writeHead 0 = .ok (.aload_n 0, 1) := by decide +kernel
theorem dXS_writeHead_1 : decode cXS_writeHead 1 = .ok (.iload_n 1, 1) := by decide +kernel
theorem dXS_writeHead_2 : decode cXS_writeHead 2 = .ok (.putfield 16, 3) := by decide +kernel
theorem dXS_writeHead_5 : decode cXS_writeHead 5 = .ok (.return_, 1) := by decide +kernel
theorem wd_201 : Cond.methodLink RXC 9 yXC_fingerprint ∈ sbT := sb_in 201 (by decide +kernel) rfl
theorem wd_202 : Cond.static yXC_fingerprint ∈ sbT := sb_in 202 (by decide +kernel) rfl
theorem wd_14 : Cond.initialized RXC ∈ sbT := sb_in 14 (by decide +kernel) rfl
theorem wd_203 : Cond.code yXC_fingerprint cXC_fingerprint 4 (some .int) ∈ sbT := sb_in 203 (by decide +kernel) rfl
theorem wd_100 : Cond.fieldLink RXP 9 RXP "left" "I" ∈ sbT := sb_in 100 (by decide +kernel) rfl
theorem wd_99 : Cond.fieldLink RXP 19 RXP "done" "I" ∈ sbT := sb_in 99 (by decide +kernel) rfl
theorem wd_101 : Cond.fieldLink RXP 15 RXP "off" "Z" ∈ sbT := sb_in 101 (by decide +kernel) rfl
theorem wd_68 : Cond.fieldLink RXR 9 RXR "lengths" "[I" ∈ sbT := sb_in 68 (by decide +kernel) rfl
theorem wd_69 : Cond.fieldLink RXR 15 RXR "entries" "[I" ∈ sbT := sb_in 69 (by decide +kernel) rfl
theorem wd_70 : Cond.fieldLink RXR 18 RXR "timesHad" "[I" ∈ sbT := sb_in 70 (by decide +kernel) rfl
theorem wd_162 : Cond.methodLink RXR 21 yXR_entry ∈ sbT := sb_in 162 (by decide +kernel) rfl
theorem wd_163 : Cond.instanceMethod yXR_entry ∈ sbT := sb_in 163 (by decide +kernel) rfl
theorem wd_164 : Cond.selects RXR yXR_entry yXR_entry ∈ sbT := sb_in 164 (by decide +kernel) rfl
theorem wd_5 : Cond.initialized RXR ∈ sbT := sb_in 5 (by decide +kernel) rfl
theorem wd_165 : Cond.code yXR_entry cXR_entry 3 (some .int) ∈ sbT := sb_in 165 (by decide +kernel) rfl
theorem wd_86 : Cond.fieldLink RXS 10 RXS "rows" "LSharedBlockStore$Rows;" ∈ sbT := sb_in 86 (by decide +kernel) rfl
theorem wd_87 : Cond.fieldLink RXS 16 RXS "number" "I" ∈ sbT := sb_in 87 (by decide +kernel) rfl
set_option maxRecDepth 100000 in
set_option maxHeartbeats 4000000 in
theorem c_XC_fingerprint (l : Launch) (D : va_G) (ta : ClassId × ClassId × ClassId) (h0 : Nat) (nn : Nat) (w : Nat → Int32) (a : Nat) (hn : nn < 2 ^ 31) (ha : a + 4 ≤ nn) : sr l yXC_fingerprint wsXC_fingerprint ({ frames := 0, cells := 0, slots := 0, locals := 0 }) D ta [.ref h0, .int (nI a)] [(h0, .inl (ta.1, nn, .inl (w)))] (some (.int (nI (fpN w a)))) := by
  refine sr_ofW (y := yXC_fingerprint) (cc := cXC_fingerprint) (nL := 4) (ret := (some .int)) (by decide) (Nat.le_of_ble_eq_true rfl) (fun p e s m below meth c G hr hlk hnm => ?_)
  refine sw_eq (ws' := [(h0, .inl (ta.1, nn, .inl (w)))]) (lv2 := [(0, .ref h0), (1, .int (nI a))]) (pc2 := 0) (st2 := []) rfl ?_
  refine sw_bipush (v := nI 17) G dXC_fingerprint_0 (by decide) ?_
  refine sw_istore_n G dXC_fingerprint_2 rfl (by decide) (lv' := [(2, .int (nI 17)), (0, .ref h0), (1, .int (nI a))]) rfl ?_
  refine sw_iconst (v := nI 0) G dXC_fingerprint_3 (by decide) ?_
  refine sw_istore_n G dXC_fingerprint_4 rfl (by decide) (lv' := [(3, .int (nI 0)), (2, .int (nI 17)), (0, .ref h0), (1, .int (nI a))]) rfl ?_
  refine sw_iload_n G dXC_fingerprint_5 rfl 0 rfl ?_
  refine sw_iconst (v := nI 4) G dXC_fingerprint_6 (by decide) ?_
  refine sw_icmpN_ge (a := 0) (b := 4) (tgt := 34) G dXC_fingerprint_7 (by decide) (by omega) (by omega) (fun h7 => ?_) (fun h7 => ?_)
  · exact absurd h7 (by decide)
  · refine sw_iload_n G dXC_fingerprint_10 rfl 1 rfl ?_
    refine sw_bipush (v := nI 31) G dXC_fingerprint_11 (by decide) ?_
    refine sw_imul (x := nI 17) (y := nI 31) (v := (nI 17) * (nI 31)) G dXC_fingerprint_13 (rfl) ?_
    refine sw_aload_n G dXC_fingerprint_14 rfl 2 rfl ?_
    refine sw_iload_n G dXC_fingerprint_15 rfl 3 rfl ?_
    refine sw_iload_n G dXC_fingerprint_16 rfl 0 rfl ?_
    refine sw_iadd (x := nI a) (y := nI 0) (v := nI (a + 0)) G dXC_fingerprint_17 (sp_add _ _) ?_
    refine sw_ialdN (j := a + 0) (v := w (a + 0)) G 0 rfl (by omega) (by omega) (rfl) dXC_fingerprint_18 ?_
    refine sw_iadd (x := (nI 17) * (nI 31)) (y := w (a + 0)) (v := ((nI 17) * (nI 31)) + (w (a + 0))) G dXC_fingerprint_19 (rfl) ?_
    refine sw_istore_n G dXC_fingerprint_20 rfl (by decide) (lv' := [(2, .int (((nI 17) * (nI 31)) + (w (a + 0)))), (3, .int (nI 0)), (0, .ref h0), (1, .int (nI a))]) rfl ?_
    refine sw_iload_n G dXC_fingerprint_21 rfl 0 rfl ?_
    refine sw_iload_n G dXC_fingerprint_22 rfl 0 rfl ?_
    refine sw_bipush (v := nI 15) G dXC_fingerprint_23 (by decide) ?_
    refine sw_iushr (x := ((nI 17) * (nI 31)) + (w (a + 0))) (y := nI 15) (v := ((((nI 17) * (nI 31)) + (w (a + 0))).toUInt32 >>> ((nI 15).toUInt32 &&& Int32.toUInt32 31)).toInt32) G dXC_fingerprint_25 (rfl) ?_
    refine sw_ixor (x := ((nI 17) * (nI 31)) + (w (a + 0))) (y := ((((nI 17) * (nI 31)) + (w (a + 0))).toUInt32 >>> ((nI 15).toUInt32 &&& Int32.toUInt32 31)).toInt32) (v := fp_s (nI 17) (w (a + 0))) G dXC_fingerprint_26 (rfl) ?_
    refine sw_istore_n G dXC_fingerprint_27 rfl (by decide) (lv' := [(2, .int (fp_s (nI 17) (w (a + 0)))), (3, .int (nI 0)), (0, .ref h0), (1, .int (nI a))]) rfl ?_
    refine sw_iinc (x := nI 0) (v := nI 1) G dXC_fingerprint_28 (q := 1) rfl (by decide) (by decide) (lv' := [(3, .int (nI 1)), (2, .int (fp_s (nI 17) (w (a + 0)))), (0, .ref h0), (1, .int (nI a))]) rfl ?_
    refine sw_goto (tgt := 5) G dXC_fingerprint_31 (by decide) ?_
    refine sw_iload_n G dXC_fingerprint_5 rfl 0 rfl ?_
    refine sw_iconst (v := nI 4) G dXC_fingerprint_6 (by decide) ?_
    refine sw_icmpN_ge (a := 1) (b := 4) (tgt := 34) G dXC_fingerprint_7 (by decide) (by omega) (by omega) (fun h7_1 => ?_) (fun h7_1 => ?_)
    · exact absurd h7_1 (by decide)
    · refine sw_iload_n G dXC_fingerprint_10 rfl 1 rfl ?_
      refine sw_bipush (v := nI 31) G dXC_fingerprint_11 (by decide) ?_
      refine sw_imul (x := fp_s (nI 17) (w (a + 0))) (y := nI 31) (v := (fp_s (nI 17) (w (a + 0))) * (nI 31)) G dXC_fingerprint_13 (rfl) ?_
      refine sw_aload_n G dXC_fingerprint_14 rfl 2 rfl ?_
      refine sw_iload_n G dXC_fingerprint_15 rfl 3 rfl ?_
      refine sw_iload_n G dXC_fingerprint_16 rfl 0 rfl ?_
      refine sw_iadd (x := nI a) (y := nI 1) (v := nI (a + 1)) G dXC_fingerprint_17 (sp_add _ _) ?_
      refine sw_ialdN (j := a + 1) (v := w (a + 1)) G 0 rfl (by omega) (by omega) (rfl) dXC_fingerprint_18 ?_
      refine sw_iadd (x := (fp_s (nI 17) (w (a + 0))) * (nI 31)) (y := w (a + 1)) (v := ((fp_s (nI 17) (w (a + 0))) * (nI 31)) + (w (a + 1))) G dXC_fingerprint_19 (rfl) ?_
      refine sw_istore_n G dXC_fingerprint_20 rfl (by decide) (lv' := [(2, .int (((fp_s (nI 17) (w (a + 0))) * (nI 31)) + (w (a + 1)))), (3, .int (nI 1)), (0, .ref h0), (1, .int (nI a))]) rfl ?_
      refine sw_iload_n G dXC_fingerprint_21 rfl 0 rfl ?_
      refine sw_iload_n G dXC_fingerprint_22 rfl 0 rfl ?_
      refine sw_bipush (v := nI 15) G dXC_fingerprint_23 (by decide) ?_
      refine sw_iushr (x := ((fp_s (nI 17) (w (a + 0))) * (nI 31)) + (w (a + 1))) (y := nI 15) (v := ((((fp_s (nI 17) (w (a + 0))) * (nI 31)) + (w (a + 1))).toUInt32 >>> ((nI 15).toUInt32 &&& Int32.toUInt32 31)).toInt32) G dXC_fingerprint_25 (rfl) ?_
      refine sw_ixor (x := ((fp_s (nI 17) (w (a + 0))) * (nI 31)) + (w (a + 1))) (y := ((((fp_s (nI 17) (w (a + 0))) * (nI 31)) + (w (a + 1))).toUInt32 >>> ((nI 15).toUInt32 &&& Int32.toUInt32 31)).toInt32) (v := fp_s (fp_s (nI 17) (w (a + 0))) (w (a + 1))) G dXC_fingerprint_26 (rfl) ?_
      refine sw_istore_n G dXC_fingerprint_27 rfl (by decide) (lv' := [(2, .int (fp_s (fp_s (nI 17) (w (a + 0))) (w (a + 1)))), (3, .int (nI 1)), (0, .ref h0), (1, .int (nI a))]) rfl ?_
      refine sw_iinc (x := nI 1) (v := nI 2) G dXC_fingerprint_28 (q := 1) rfl (by decide) (by decide) (lv' := [(3, .int (nI 2)), (2, .int (fp_s (fp_s (nI 17) (w (a + 0))) (w (a + 1)))), (0, .ref h0), (1, .int (nI a))]) rfl ?_
      refine sw_goto (tgt := 5) G dXC_fingerprint_31 (by decide) ?_
      refine sw_iload_n G dXC_fingerprint_5 rfl 0 rfl ?_
      refine sw_iconst (v := nI 4) G dXC_fingerprint_6 (by decide) ?_
      refine sw_icmpN_ge (a := 2) (b := 4) (tgt := 34) G dXC_fingerprint_7 (by decide) (by omega) (by omega) (fun h7_2 => ?_) (fun h7_2 => ?_)
      · exact absurd h7_2 (by decide)
      · refine sw_iload_n G dXC_fingerprint_10 rfl 1 rfl ?_
        refine sw_bipush (v := nI 31) G dXC_fingerprint_11 (by decide) ?_
        refine sw_imul (x := fp_s (fp_s (nI 17) (w (a + 0))) (w (a + 1))) (y := nI 31) (v := (fp_s (fp_s (nI 17) (w (a + 0))) (w (a + 1))) * (nI 31)) G dXC_fingerprint_13 (rfl) ?_
        refine sw_aload_n G dXC_fingerprint_14 rfl 2 rfl ?_
        refine sw_iload_n G dXC_fingerprint_15 rfl 3 rfl ?_
        refine sw_iload_n G dXC_fingerprint_16 rfl 0 rfl ?_
        refine sw_iadd (x := nI a) (y := nI 2) (v := nI (a + 2)) G dXC_fingerprint_17 (sp_add _ _) ?_
        refine sw_ialdN (j := a + 2) (v := w (a + 2)) G 0 rfl (by omega) (by omega) (rfl) dXC_fingerprint_18 ?_
        refine sw_iadd (x := (fp_s (fp_s (nI 17) (w (a + 0))) (w (a + 1))) * (nI 31)) (y := w (a + 2)) (v := ((fp_s (fp_s (nI 17) (w (a + 0))) (w (a + 1))) * (nI 31)) + (w (a + 2))) G dXC_fingerprint_19 (rfl) ?_
        refine sw_istore_n G dXC_fingerprint_20 rfl (by decide) (lv' := [(2, .int (((fp_s (fp_s (nI 17) (w (a + 0))) (w (a + 1))) * (nI 31)) + (w (a + 2)))), (3, .int (nI 2)), (0, .ref h0), (1, .int (nI a))]) rfl ?_
        refine sw_iload_n G dXC_fingerprint_21 rfl 0 rfl ?_
        refine sw_iload_n G dXC_fingerprint_22 rfl 0 rfl ?_
        refine sw_bipush (v := nI 15) G dXC_fingerprint_23 (by decide) ?_
        refine sw_iushr (x := ((fp_s (fp_s (nI 17) (w (a + 0))) (w (a + 1))) * (nI 31)) + (w (a + 2))) (y := nI 15) (v := ((((fp_s (fp_s (nI 17) (w (a + 0))) (w (a + 1))) * (nI 31)) + (w (a + 2))).toUInt32 >>> ((nI 15).toUInt32 &&& Int32.toUInt32 31)).toInt32) G dXC_fingerprint_25 (rfl) ?_
        refine sw_ixor (x := ((fp_s (fp_s (nI 17) (w (a + 0))) (w (a + 1))) * (nI 31)) + (w (a + 2))) (y := ((((fp_s (fp_s (nI 17) (w (a + 0))) (w (a + 1))) * (nI 31)) + (w (a + 2))).toUInt32 >>> ((nI 15).toUInt32 &&& Int32.toUInt32 31)).toInt32) (v := fp_s (fp_s (fp_s (nI 17) (w (a + 0))) (w (a + 1))) (w (a + 2))) G dXC_fingerprint_26 (rfl) ?_
        refine sw_istore_n G dXC_fingerprint_27 rfl (by decide) (lv' := [(2, .int (fp_s (fp_s (fp_s (nI 17) (w (a + 0))) (w (a + 1))) (w (a + 2)))), (3, .int (nI 2)), (0, .ref h0), (1, .int (nI a))]) rfl ?_
        refine sw_iinc (x := nI 2) (v := nI 3) G dXC_fingerprint_28 (q := 1) rfl (by decide) (by decide) (lv' := [(3, .int (nI 3)), (2, .int (fp_s (fp_s (fp_s (nI 17) (w (a + 0))) (w (a + 1))) (w (a + 2)))), (0, .ref h0), (1, .int (nI a))]) rfl ?_
        refine sw_goto (tgt := 5) G dXC_fingerprint_31 (by decide) ?_
        refine sw_iload_n G dXC_fingerprint_5 rfl 0 rfl ?_
        refine sw_iconst (v := nI 4) G dXC_fingerprint_6 (by decide) ?_
        refine sw_icmpN_ge (a := 3) (b := 4) (tgt := 34) G dXC_fingerprint_7 (by decide) (by omega) (by omega) (fun h7_3 => ?_) (fun h7_3 => ?_)
        · exact absurd h7_3 (by decide)
        · refine sw_iload_n G dXC_fingerprint_10 rfl 1 rfl ?_
          refine sw_bipush (v := nI 31) G dXC_fingerprint_11 (by decide) ?_
          refine sw_imul (x := fp_s (fp_s (fp_s (nI 17) (w (a + 0))) (w (a + 1))) (w (a + 2))) (y := nI 31) (v := (fp_s (fp_s (fp_s (nI 17) (w (a + 0))) (w (a + 1))) (w (a + 2))) * (nI 31)) G dXC_fingerprint_13 (rfl) ?_
          refine sw_aload_n G dXC_fingerprint_14 rfl 2 rfl ?_
          refine sw_iload_n G dXC_fingerprint_15 rfl 3 rfl ?_
          refine sw_iload_n G dXC_fingerprint_16 rfl 0 rfl ?_
          refine sw_iadd (x := nI a) (y := nI 3) (v := nI (a + 3)) G dXC_fingerprint_17 (sp_add _ _) ?_
          refine sw_ialdN (j := a + 3) (v := w (a + 3)) G 0 rfl (by omega) (by omega) (rfl) dXC_fingerprint_18 ?_
          refine sw_iadd (x := (fp_s (fp_s (fp_s (nI 17) (w (a + 0))) (w (a + 1))) (w (a + 2))) * (nI 31)) (y := w (a + 3)) (v := ((fp_s (fp_s (fp_s (nI 17) (w (a + 0))) (w (a + 1))) (w (a + 2))) * (nI 31)) + (w (a + 3))) G dXC_fingerprint_19 (rfl) ?_
          refine sw_istore_n G dXC_fingerprint_20 rfl (by decide) (lv' := [(2, .int (((fp_s (fp_s (fp_s (nI 17) (w (a + 0))) (w (a + 1))) (w (a + 2))) * (nI 31)) + (w (a + 3)))), (3, .int (nI 3)), (0, .ref h0), (1, .int (nI a))]) rfl ?_
          refine sw_iload_n G dXC_fingerprint_21 rfl 0 rfl ?_
          refine sw_iload_n G dXC_fingerprint_22 rfl 0 rfl ?_
          refine sw_bipush (v := nI 15) G dXC_fingerprint_23 (by decide) ?_
          refine sw_iushr (x := ((fp_s (fp_s (fp_s (nI 17) (w (a + 0))) (w (a + 1))) (w (a + 2))) * (nI 31)) + (w (a + 3))) (y := nI 15) (v := ((((fp_s (fp_s (fp_s (nI 17) (w (a + 0))) (w (a + 1))) (w (a + 2))) * (nI 31)) + (w (a + 3))).toUInt32 >>> ((nI 15).toUInt32 &&& Int32.toUInt32 31)).toInt32) G dXC_fingerprint_25 (rfl) ?_
          refine sw_ixor (x := ((fp_s (fp_s (fp_s (nI 17) (w (a + 0))) (w (a + 1))) (w (a + 2))) * (nI 31)) + (w (a + 3))) (y := ((((fp_s (fp_s (fp_s (nI 17) (w (a + 0))) (w (a + 1))) (w (a + 2))) * (nI 31)) + (w (a + 3))).toUInt32 >>> ((nI 15).toUInt32 &&& Int32.toUInt32 31)).toInt32) (v := fp_s (fp_s (fp_s (fp_s (nI 17) (w (a + 0))) (w (a + 1))) (w (a + 2))) (w (a + 3))) G dXC_fingerprint_26 (rfl) ?_
          refine sw_istore_n G dXC_fingerprint_27 rfl (by decide) (lv' := [(2, .int (fp_s (fp_s (fp_s (fp_s (nI 17) (w (a + 0))) (w (a + 1))) (w (a + 2))) (w (a + 3)))), (3, .int (nI 3)), (0, .ref h0), (1, .int (nI a))]) rfl ?_
          refine sw_iinc (x := nI 3) (v := nI 4) G dXC_fingerprint_28 (q := 1) rfl (by decide) (by decide) (lv' := [(3, .int (nI 4)), (2, .int (fp_s (fp_s (fp_s (fp_s (nI 17) (w (a + 0))) (w (a + 1))) (w (a + 2))) (w (a + 3)))), (0, .ref h0), (1, .int (nI a))]) rfl ?_
          refine sw_goto (tgt := 5) G dXC_fingerprint_31 (by decide) ?_
          refine sw_iload_n G dXC_fingerprint_5 rfl 0 rfl ?_
          refine sw_iconst (v := nI 4) G dXC_fingerprint_6 (by decide) ?_
          refine sw_icmpN_ge (a := 4) (b := 4) (tgt := 34) G dXC_fingerprint_7 (by decide) (by omega) (by omega) (fun h7_4 => ?_) (fun h7_4 => ?_)
          · refine sw_iload_n G dXC_fingerprint_34 rfl 1 rfl ?_
            refine sw_sipush (v := nI 255) G dXC_fingerprint_35 (by decide) ?_
            refine sw_iand (x := fp_s (fp_s (fp_s (fp_s (nI 17) (w (a + 0))) (w (a + 1))) (w (a + 2))) (w (a + 3))) (y := nI 255) (v := nI (fpN w a)) G dXC_fingerprint_38 (fpN_eq w a) ?_
            exact sr_iret (x := nI (fpN w a)) G hr hlk (rfl) dXC_fingerprint_39
          · exact absurd h7_4 (by decide)

set_option maxRecDepth 100000 in
set_option maxHeartbeats 4000000 in
theorem c_XC_bitsOfGate (l : Launch) (D : va_G) (ta : ClassId × ClassId × ClassId) (h0 : Nat) (nn : Nat) (w : Nat → Int32) (a : Nat) (hn : nn < 2 ^ 31) (ha : a + 4 ≤ nn) : sr l yXC_bitsOfGate wsXC_bitsOfGate ({ frames := 1, cells := 0, slots := 0, locals := 23 }) D ta [.ref h0, .int (nI a)] [(h0, .inl (ta.1, nn, .inl (w)))] (some (.long (gb_x w a))) := by
  refine sr_ofW (y := yXC_bitsOfGate) (cc := cXC_bitsOfGate) (nL := 4) (ret := (some .long)) (by decide) (Nat.le_of_ble_eq_true rfl) (fun p e s m below meth c G hr hlk hnm => ?_)
  have hf := fpN_lt w a
  have hm := mixN_lt w a
  refine sw_eq (ws' := [(h0, .inl (ta.1, nn, .inl (w)))]) (lv2 := [(0, .ref h0), (1, .int (nI a))]) (pc2 := 0) (st2 := []) rfl ?_
  refine sw_aload_n G dXC_bitsOfGate_0 rfl 0 rfl ?_
  refine sw_iload_n G dXC_bitsOfGate_1 rfl 1 rfl ?_
  refine sw_readS (As := [.ref h0, .int (nI a)]) (rest := []) G (c_XC_fingerprint l D ta h0 nn w a (by omega) (by omega)) (va_cwS 2 G.2.2.2.2.1 (sb_goodS wd_201 wd_202 wd_14 wd_203) rfl rfl rfl (by decide +kernel) ⟨Nat.le_of_ble_eq_true rfl, Nat.le_of_ble_eq_true rfl⟩) rfl rfl (Nat.le_of_ble_eq_true rfl) dXC_bitsOfGate_2 ⟨Nat.le_of_ble_eq_true rfl, Nat.le_of_ble_eq_true rfl⟩ [0] rfl (by decide) ?_
  refine sw_eq (ws' := [(h0, .inl (ta.1, nn, .inl (w)))]) (lv2 := [(0, .ref h0), (1, .int (nI a))]) (pc2 := 5) (st2 := [.int (nI (fpN w a))]) rfl ?_
  refine sw_istore_n G dXC_bitsOfGate_5 rfl (by decide) (lv' := [(2, .int (nI (fpN w a))), (0, .ref h0), (1, .int (nI a))]) rfl ?_
  refine sw_aload_n G dXC_bitsOfGate_6 rfl 1 rfl ?_
  refine sw_iload_n G dXC_bitsOfGate_7 rfl 2 rfl ?_
  refine sw_ialdN (j := a) (v := w a) G 0 rfl (by omega) (by omega) (rfl) dXC_bitsOfGate_8 ?_
  refine sw_aload_n G dXC_bitsOfGate_9 rfl 1 rfl ?_
  refine sw_iload_n G dXC_bitsOfGate_10 rfl 2 rfl ?_
  refine sw_iconst (v := nI 1) G dXC_bitsOfGate_11 (by decide) ?_
  refine sw_iadd (x := nI a) (y := nI 1) (v := nI (a + 1)) G dXC_bitsOfGate_12 (sp_add _ _) ?_
  refine sw_ialdN (j := a + 1) (v := w (a + 1)) G 0 rfl (by omega) (by omega) (rfl) dXC_bitsOfGate_13 ?_
  refine sw_ixor (x := w a) (y := w (a + 1)) (v := (w a) ^^^ (w (a + 1))) G dXC_bitsOfGate_14 (rfl) ?_
  refine sw_aload_n G dXC_bitsOfGate_15 rfl 1 rfl ?_
  refine sw_iload_n G dXC_bitsOfGate_16 rfl 2 rfl ?_
  refine sw_iconst (v := nI 2) G dXC_bitsOfGate_17 (by decide) ?_
  refine sw_iadd (x := nI a) (y := nI 2) (v := nI (a + 2)) G dXC_bitsOfGate_18 (sp_add _ _) ?_
  refine sw_ialdN (j := a + 2) (v := w (a + 2)) G 0 rfl (by omega) (by omega) (rfl) dXC_bitsOfGate_19 ?_
  refine sw_ixor (x := (w a) ^^^ (w (a + 1))) (y := w (a + 2)) (v := ((w a) ^^^ (w (a + 1))) ^^^ (w (a + 2))) G dXC_bitsOfGate_20 (rfl) ?_
  refine sw_aload_n G dXC_bitsOfGate_21 rfl 1 rfl ?_
  refine sw_iload_n G dXC_bitsOfGate_22 rfl 2 rfl ?_
  refine sw_iconst (v := nI 3) G dXC_bitsOfGate_23 (by decide) ?_
  refine sw_iadd (x := nI a) (y := nI 3) (v := nI (a + 3)) G dXC_bitsOfGate_24 (sp_add _ _) ?_
  refine sw_ialdN (j := a + 3) (v := w (a + 3)) G 0 rfl (by omega) (by omega) (rfl) dXC_bitsOfGate_25 ?_
  refine sw_ixor (x := ((w a) ^^^ (w (a + 1))) ^^^ (w (a + 2))) (y := w (a + 3)) (v := fp_m w a) G dXC_bitsOfGate_26 (rfl) ?_
  refine sw_istore_n G dXC_bitsOfGate_27 rfl (by decide) (lv' := [(3, .int (fp_m w a)), (2, .int (nI (fpN w a))), (0, .ref h0), (1, .int (nI a))]) rfl ?_
  refine sw_lconst (v := 1) G dXC_bitsOfGate_28 (by decide) ?_
  refine sw_iload_n G dXC_bitsOfGate_29 rfl 1 rfl ?_
  refine sw_bipush (v := nI 63) G dXC_bitsOfGate_30 (by decide) ?_
  refine sw_iand (x := nI (fpN w a)) (y := nI 63) (v := nI ((fpN w a) % 64)) G dXC_bitsOfGate_32 (pk_andN (by omega) 6 (by decide)) ?_
  refine sw_lshl (x := 1) (y := nI ((fpN w a) % 64)) (v := gb_1 (fpN w a % 64)) G dXC_bitsOfGate_33 (rfl) ?_
  refine sw_lconst (v := 1) G dXC_bitsOfGate_34 (by decide) ?_
  refine sw_iload_n G dXC_bitsOfGate_35 rfl 1 rfl ?_
  refine sw_iconst (v := nI 2) G dXC_bitsOfGate_36 (by decide) ?_
  refine sw_ishr (x := nI (fpN w a)) (y := nI 2) (v := nI ((fpN w a) / 4)) G dXC_bitsOfGate_37 (pk_shrN (by omega) _ 2 (by decide)) ?_
  refine sw_lshl (x := 1) (y := nI ((fpN w a) / 4)) (v := gb_1 (fpN w a / 4)) G dXC_bitsOfGate_38 (rfl) ?_
  refine sw_lor (x := gb_1 (fpN w a % 64)) (y := gb_1 (fpN w a / 4)) (v := (gb_1 (fpN w a % 64)) ||| (gb_1 (fpN w a / 4))) G dXC_bitsOfGate_39 (rfl) ?_
  refine sw_lconst (v := 1) G dXC_bitsOfGate_40 (by decide) ?_
  refine sw_iload_n G dXC_bitsOfGate_41 rfl 0 rfl ?_
  refine sw_bipush (v := nI 63) G dXC_bitsOfGate_42 (by decide) ?_
  refine sw_iand (x := fp_m w a) (y := nI 63) (v := nI (mixN w a)) G dXC_bitsOfGate_44 (mixN_eq w a) ?_
  refine sw_lshl (x := 1) (y := nI (mixN w a)) (v := gb_1 (mixN w a)) G dXC_bitsOfGate_45 (rfl) ?_
  refine sw_lor (x := (gb_1 (fpN w a % 64)) ||| (gb_1 (fpN w a / 4))) (y := gb_1 (mixN w a)) (v := ((gb_1 (fpN w a % 64)) ||| (gb_1 (fpN w a / 4))) ||| (gb_1 (mixN w a))) G dXC_bitsOfGate_46 (rfl) ?_
  exact sr_lret (x := ((gb_1 (fpN w a % 64)) ||| (gb_1 (fpN w a / 4))) ||| (gb_1 (mixN w a))) G hr hlk (rfl) dXC_bitsOfGate_47

set_option maxRecDepth 100000 in
set_option maxHeartbeats 4000000 in
theorem c_XP_letsWrite (l : Launch) (D : va_G) (ta : ClassId × ClassId × ClassId) (h0 : Nat) (done : Int32) (left : Int32) (off : Bool)  : sm (S := Unit) l yXP_letsWrite wsXP_letsWrite ({ frames := 0, cells := 0, slots := 0, locals := 0 }) D ta [.ref h0] [(h0, .inr (2, [.int done, .int left, .int (sp_b off)]))] (fun _ => True) (fun _ => some (.int (sp_b (pw_ok left)))) (fun _ => [(h0, .inr (2, [.int (pw_w left done), .int (pw_l left), .int (sp_b (pw_d left off))]))]) := by
  refine sm_ofW (y := yXP_letsWrite) (cc := cXP_letsWrite) (nL := 1) (ret := (some .boolean)) (by decide) (Nat.le_of_ble_eq_true rfl) (fun p e s m below meth c G hr hlk hnm => ?_)
  refine sw_eq (ws' := [(h0, .inr (2, [.int done, .int left, .int (sp_b off)]))]) (lv2 := [(0, .ref h0)]) (pc2 := 0) (st2 := []) rfl ?_
  refine sw_aload_n G dXP_letsWrite_0 rfl 0 rfl ?_
  refine sw_get (C := RXP) (T := TXP) (ref := RXP) (N := 3) G inXP 0 rfl rfl 1 (by decide) wd_100 rfl rfl dXP_letsWrite_1 ?_
  refine sw_if_ne (x := left) (tgt := 14) G dXP_letsWrite_4 (by decide) (fun h4 => ?_) (fun h4 => ?_)
  · refine sw_aload_n G dXP_letsWrite_14 rfl 0 rfl ?_
    refine sw_get (C := RXP) (T := TXP) (ref := RXP) (N := 3) G inXP 0 rfl rfl 1 (by decide) wd_100 rfl rfl dXP_letsWrite_15 ?_
    refine sw_if_le (x := left) (tgt := 31) G dXP_letsWrite_18 (by decide) (fun h18 => ?_) (fun h18 => ?_)
    · refine sw_aload_n G dXP_letsWrite_31 rfl 0 rfl ?_
      refine sw_dup G dXP_letsWrite_32 rfl ?_
      refine sw_get (C := RXP) (T := TXP) (ref := RXP) (N := 3) G inXP 0 rfl rfl 0 (by decide) wd_99 rfl rfl dXP_letsWrite_33 ?_
      refine sw_iconst (v := nI 1) G dXP_letsWrite_36 (by decide) ?_
      refine sw_iadd (x := done) (y := nI 1) (v := done + (nI 1)) G dXP_letsWrite_37 (rfl) ?_
      refine sw_put (ty := .int) (v := .int (done + (nI 1))) (C := RXP) (T := TXP) (ref := RXP) (N := 3) G inXP tyXP tyXP_ok nmXP 0 rfl rfl 0 (by decide) wd_99 rfl rfl (by decide +kernel) (rfl) (rfl) (Nat.le_of_ble_eq_true rfl) dXP_letsWrite_38 (fs' := [.int (done + (nI 1)), .int left, .int (sp_b off)]) rfl (ws' := [(h0, .inr (2, [.int (done + (nI 1)), .int left, .int (sp_b off)]))]) rfl ?_
      refine sw_iconst (v := nI 1) G dXP_letsWrite_41 (by decide) ?_
      obtain ⟨e1, e2, e3, e4⟩ := pw_n h4 h18
      refine sw_sub [0] (by decide) (ws' := [(h0, .inr (2, [.int (done + (nI 1)), .int left, .int (sp_b off)]))]) rfl rfl ?_
      refine sw_eq (ws' := [(h0, .inr (2, [.int (pw_w left done), .int (pw_l left), .int (sp_b (pw_d left off))]))]) (lv2 := [(0, .ref h0)]) (pc2 := 42) (st2 := [.int (nI 1)]) (by rw [e2, e3, e4] <;> rfl) ?_
      exact sw_zret (x := nI 1) G hr hlk () trivial (by show some (Value.int (sp_b (pw_ok left))) = _; rw [e1]; rfl) (rfl) [0] (by decide) rfl rfl dXP_letsWrite_42
    · refine sw_aload_n G dXP_letsWrite_21 rfl 0 rfl ?_
      refine sw_dup G dXP_letsWrite_22 rfl ?_
      refine sw_get (C := RXP) (T := TXP) (ref := RXP) (N := 3) G inXP 0 rfl rfl 1 (by decide) wd_100 rfl rfl dXP_letsWrite_23 ?_
      refine sw_iconst (v := nI 1) G dXP_letsWrite_26 (by decide) ?_
      refine sw_isub (x := left) (y := nI 1) (v := left - (nI 1)) G dXP_letsWrite_27 (rfl) ?_
      refine sw_put (ty := .int) (v := .int (left - (nI 1))) (C := RXP) (T := TXP) (ref := RXP) (N := 3) G inXP tyXP tyXP_ok nmXP 0 rfl rfl 1 (by decide) wd_100 rfl rfl (by decide +kernel) (rfl) (rfl) (Nat.le_of_ble_eq_true rfl) dXP_letsWrite_28 (fs' := [.int done, .int (left - (nI 1)), .int (sp_b off)]) rfl (ws' := [(h0, .inr (2, [.int done, .int (left - (nI 1)), .int (sp_b off)]))]) rfl ?_
      refine sw_aload_n G dXP_letsWrite_31 rfl 0 rfl ?_
      refine sw_dup G dXP_letsWrite_32 rfl ?_
      refine sw_get (C := RXP) (T := TXP) (ref := RXP) (N := 3) G inXP 0 rfl rfl 0 (by decide) wd_99 rfl rfl dXP_letsWrite_33 ?_
      refine sw_iconst (v := nI 1) G dXP_letsWrite_36 (by decide) ?_
      refine sw_iadd (x := done) (y := nI 1) (v := done + (nI 1)) G dXP_letsWrite_37 (rfl) ?_
      refine sw_put (ty := .int) (v := .int (done + (nI 1))) (C := RXP) (T := TXP) (ref := RXP) (N := 3) G inXP tyXP tyXP_ok nmXP 0 rfl rfl 0 (by decide) wd_99 rfl rfl (by decide +kernel) (rfl) (rfl) (Nat.le_of_ble_eq_true rfl) dXP_letsWrite_38 (fs' := [.int (done + (nI 1)), .int (left - (nI 1)), .int (sp_b off)]) rfl (ws' := [(h0, .inr (2, [.int (done + (nI 1)), .int (left - (nI 1)), .int (sp_b off)]))]) rfl ?_
      refine sw_iconst (v := nI 1) G dXP_letsWrite_41 (by decide) ?_
      obtain ⟨e1, e2, e3, e4⟩ := pw_p h4 h18
      refine sw_sub [0] (by decide) (ws' := [(h0, .inr (2, [.int (done + (nI 1)), .int (left - (nI 1)), .int (sp_b off)]))]) rfl rfl ?_
      refine sw_eq (ws' := [(h0, .inr (2, [.int (pw_w left done), .int (pw_l left), .int (sp_b (pw_d left off))]))]) (lv2 := [(0, .ref h0)]) (pc2 := 42) (st2 := [.int (nI 1)]) (by rw [e2, e3, e4] <;> rfl) ?_
      exact sw_zret (x := nI 1) G hr hlk () trivial (by show some (Value.int (sp_b (pw_ok left))) = _; rw [e1]; rfl) (rfl) [0] (by decide) rfl rfl dXP_letsWrite_42
  · refine sw_aload_n G dXP_letsWrite_7 rfl 0 rfl ?_
    refine sw_iconst (v := nI 1) G dXP_letsWrite_8 (by decide) ?_
    refine sw_put (ty := .boolean) (v := .int (nI 1)) (C := RXP) (T := TXP) (ref := RXP) (N := 3) G inXP tyXP tyXP_ok nmXP 0 rfl rfl 2 (by decide) wd_101 rfl rfl (by decide +kernel) (rfl) (rfl) (Nat.le_of_ble_eq_true rfl) dXP_letsWrite_9 (fs' := [.int done, .int left, .int (nI 1)]) rfl (ws' := [(h0, .inr (2, [.int done, .int left, .int (nI 1)]))]) rfl ?_
    refine sw_iconst (v := nI 0) G dXP_letsWrite_12 (by decide) ?_
    obtain ⟨e1, e2, e3, e4⟩ := pw_z h4
    refine sw_sub [0] (by decide) (ws' := [(h0, .inr (2, [.int done, .int left, .int (nI 1)]))]) rfl rfl ?_
    refine sw_eq (ws' := [(h0, .inr (2, [.int (pw_w left done), .int (pw_l left), .int (sp_b (pw_d left off))]))]) (lv2 := [(0, .ref h0)]) (pc2 := 13) (st2 := [.int (nI 0)]) (by rw [e2, e3, e4] <;> rfl) ?_
    exact sw_zret (x := nI 0) G hr hlk () trivial (by show some (Value.int (sp_b (pw_ok left))) = _; rw [e1]; rfl) (rfl) [0] (by decide) rfl rfl dXP_letsWrite_13

set_option maxRecDepth 100000 in
set_option maxHeartbeats 4000000 in
theorem c_XP_failAfter (l : Launch) (D : va_G) (ta : ClassId × ClassId × ClassId) (h0 : Nat) (done : Int32) (left : Int32) (off : Bool) (x : Int32)  : sm (S := Unit) l yXP_failAfter wsXP_failAfter ({ frames := 0, cells := 0, slots := 0, locals := 0 }) D ta [.ref h0, .int x] [(h0, .inr (2, [.int done, .int left, .int (sp_b off)]))] (fun _ => True) (fun _ => none) (fun _ => [(h0, .inr (2, [.int done, .int x, .int (sp_b off)]))]) := by
  refine sm_ofW (y := yXP_failAfter) (cc := cXP_failAfter) (nL := 2) (ret := none) (by decide) (Nat.le_of_ble_eq_true rfl) (fun p e s m below meth c G hr hlk hnm => ?_)
  refine sw_eq (ws' := [(h0, .inr (2, [.int done, .int left, .int (sp_b off)]))]) (lv2 := [(0, .ref h0), (1, .int x)]) (pc2 := 0) (st2 := []) rfl ?_
  refine sw_aload_n G dXP_failAfter_0 rfl 0 rfl ?_
  refine sw_iload_n G dXP_failAfter_1 rfl 1 rfl ?_
  refine sw_put (ty := .int) (v := .int x) (C := RXP) (T := TXP) (ref := RXP) (N := 3) G inXP tyXP tyXP_ok nmXP 0 rfl rfl 1 (by decide) wd_100 rfl rfl (by decide +kernel) (rfl) (rfl) (Nat.le_of_ble_eq_true rfl) dXP_failAfter_2 (fs' := [.int done, .int x, .int (sp_b off)]) rfl (ws' := [(h0, .inr (2, [.int done, .int x, .int (sp_b off)]))]) rfl ?_
  exact sw_vret G hr hlk () trivial (rfl) [0] (by decide) rfl rfl dXP_failAfter_5

set_option maxRecDepth 100000 in
set_option maxHeartbeats 4000000 in
theorem c_XP_comeBack (l : Launch) (D : va_G) (ta : ClassId × ClassId × ClassId) (h0 : Nat) (done : Int32) (left : Int32) (off : Bool)  : sm (S := Unit) l yXP_comeBack wsXP_comeBack ({ frames := 0, cells := 0, slots := 0, locals := 0 }) D ta [.ref h0] [(h0, .inr (2, [.int done, .int left, .int (sp_b off)]))] (fun _ => True) (fun _ => none) (fun _ => [(h0, .inr (2, [.int done, .int (-1), .int (sp_b false)]))]) := by
  refine sm_ofW (y := yXP_comeBack) (cc := cXP_comeBack) (nL := 1) (ret := none) (by decide) (Nat.le_of_ble_eq_true rfl) (fun p e s m below meth c G hr hlk hnm => ?_)
  refine sw_eq (ws' := [(h0, .inr (2, [.int done, .int left, .int (sp_b off)]))]) (lv2 := [(0, .ref h0)]) (pc2 := 0) (st2 := []) rfl ?_
  refine sw_aload_n G dXP_comeBack_0 rfl 0 rfl ?_
  refine sw_iconst (v := -1) G dXP_comeBack_1 (by decide) ?_
  refine sw_put (ty := .int) (v := .int (-1)) (C := RXP) (T := TXP) (ref := RXP) (N := 3) G inXP tyXP tyXP_ok nmXP 0 rfl rfl 1 (by decide) wd_100 rfl rfl (by decide +kernel) (rfl) (rfl) (Nat.le_of_ble_eq_true rfl) dXP_comeBack_2 (fs' := [.int done, .int (-1), .int (sp_b off)]) rfl (ws' := [(h0, .inr (2, [.int done, .int (-1), .int (sp_b off)]))]) rfl ?_
  refine sw_aload_n G dXP_comeBack_5 rfl 0 rfl ?_
  refine sw_iconst (v := nI 0) G dXP_comeBack_6 (by decide) ?_
  refine sw_put (ty := .boolean) (v := .int (nI 0)) (C := RXP) (T := TXP) (ref := RXP) (N := 3) G inXP tyXP tyXP_ok nmXP 0 rfl rfl 2 (by decide) wd_101 rfl rfl (by decide +kernel) (rfl) (rfl) (Nat.le_of_ble_eq_true rfl) dXP_comeBack_7 (fs' := [.int done, .int (-1), .int (nI 0)]) rfl (ws' := [(h0, .inr (2, [.int done, .int (-1), .int (nI 0)]))]) rfl ?_
  exact sw_vret G hr hlk () trivial (rfl) [0] (by decide) rfl rfl dXP_comeBack_10

set_option maxRecDepth 100000 in
set_option maxHeartbeats 4000000 in
theorem c_XP_isOff (l : Launch) (D : va_G) (ta : ClassId × ClassId × ClassId) (h0 : Nat) (done : Int32) (left : Int32) (off : Bool)  : sr l yXP_isOff wsXP_isOff ({ frames := 0, cells := 0, slots := 0, locals := 0 }) D ta [.ref h0] [(h0, .inr (2, [.int done, .int left, .int (sp_b off)]))] (some (.int (sp_b off))) := by
  refine sr_ofW (y := yXP_isOff) (cc := cXP_isOff) (nL := 1) (ret := (some .boolean)) (by decide) (Nat.le_of_ble_eq_true rfl) (fun p e s m below meth c G hr hlk hnm => ?_)
  refine sw_eq (ws' := [(h0, .inr (2, [.int done, .int left, .int (sp_b off)]))]) (lv2 := [(0, .ref h0)]) (pc2 := 0) (st2 := []) rfl ?_
  refine sw_aload_n G dXP_isOff_0 rfl 0 rfl ?_
  refine sw_get (C := RXP) (T := TXP) (ref := RXP) (N := 3) G inXP 0 rfl rfl 2 (by decide) wd_101 rfl rfl dXP_isOff_1 ?_
  exact sr_zret (x := sp_b off) G hr hlk (rfl) (sp_b_nar off) dXP_isOff_4

set_option maxRecDepth 100000 in
set_option maxHeartbeats 4000000 in
theorem c_XP_writesDone (l : Launch) (D : va_G) (ta : ClassId × ClassId × ClassId) (h0 : Nat) (done : Int32) (left : Int32) (off : Bool)  : sr l yXP_writesDone wsXP_writesDone ({ frames := 0, cells := 0, slots := 0, locals := 0 }) D ta [.ref h0] [(h0, .inr (2, [.int done, .int left, .int (sp_b off)]))] (some (.int done)) := by
  refine sr_ofW (y := yXP_writesDone) (cc := cXP_writesDone) (nL := 1) (ret := (some .int)) (by decide) (Nat.le_of_ble_eq_true rfl) (fun p e s m below meth c G hr hlk hnm => ?_)
  refine sw_eq (ws' := [(h0, .inr (2, [.int done, .int left, .int (sp_b off)]))]) (lv2 := [(0, .ref h0)]) (pc2 := 0) (st2 := []) rfl ?_
  refine sw_aload_n G dXP_writesDone_0 rfl 0 rfl ?_
  refine sw_get (C := RXP) (T := TXP) (ref := RXP) (N := 3) G inXP 0 rfl rfl 0 (by decide) wd_99 rfl rfl dXP_writesDone_1 ?_
  exact sr_iret (x := done) G hr hlk (rfl) dXP_writesDone_4

set_option maxRecDepth 100000 in
set_option maxHeartbeats 4000000 in
theorem c_XR_length (l : Launch) (D : va_G) (ta : ClassId × ClassId × ClassId) (h0 : Nat) (h1 : Nat) (h2 : Nat) (h3 : Nat) (len : Nat → Nat) (ent : Nat → Nat) (cnt : Nat → Int32) (k : Nat) (hk : k < 6) : sr l yXR_length wsXR_length ({ frames := 0, cells := 0, slots := 0, locals := 0 }) D ta [.ref h0, .int (nI k)] [(h0, .inr (3, [.ref h1, .ref h2, .ref h3])), (h1, .inl (ta.1, 6, .inl (fun jx => nI (len jx)))), (h2, .inl (ta.1, 72, .inl (fun jx => nI (ent jx)))), (h3, .inl (ta.1, 40, .inl (cnt)))] (some (.int (nI (len k)))) := by
  refine sr_ofW (y := yXR_length) (cc := cXR_length) (nL := 2) (ret := (some .int)) (by decide) (Nat.le_of_ble_eq_true rfl) (fun p e s m below meth c G hr hlk hnm => ?_)
  refine sw_eq (ws' := [(h0, .inr (3, [.ref h1, .ref h2, .ref h3])), (h1, .inl (ta.1, 6, .inl (fun jx => nI (len jx)))), (h2, .inl (ta.1, 72, .inl (fun jx => nI (ent jx)))), (h3, .inl (ta.1, 40, .inl (cnt)))]) (lv2 := [(0, .ref h0), (1, .int (nI k))]) (pc2 := 0) (st2 := []) rfl ?_
  refine sw_aload_n G dXR_length_0 rfl 0 rfl ?_
  refine sw_get (C := RXR) (T := TXR) (ref := RXR) (N := 3) G inXR 0 rfl rfl 0 (by decide) wd_68 rfl rfl dXR_length_1 ?_
  refine sw_iload_n G dXR_length_4 rfl 1 rfl ?_
  refine sw_ialdN (j := k) (v := nI (len k)) G 1 rfl (by omega) (by decide) (rfl) dXR_length_5 ?_
  exact sr_iret (x := nI (len k)) G hr hlk (rfl) dXR_length_6

set_option maxRecDepth 100000 in
set_option maxHeartbeats 4000000 in
theorem c_XR_entry (l : Launch) (D : va_G) (ta : ClassId × ClassId × ClassId) (h0 : Nat) (h1 : Nat) (h2 : Nat) (h3 : Nat) (len : Nat → Nat) (ent : Nat → Nat) (cnt : Nat → Int32) (k : Nat) (b : Nat) (hk : k < 6) (hb : b < 12) : sr l yXR_entry wsXR_entry ({ frames := 0, cells := 0, slots := 0, locals := 0 }) D ta [.ref h0, .int (nI k), .int (nI b)] [(h0, .inr (3, [.ref h1, .ref h2, .ref h3])), (h1, .inl (ta.1, 6, .inl (fun jx => nI (len jx)))), (h2, .inl (ta.1, 72, .inl (fun jx => nI (ent jx)))), (h3, .inl (ta.1, 40, .inl (cnt)))] (some (.int (nI (ent (k * 12 + b))))) := by
  refine sr_ofW (y := yXR_entry) (cc := cXR_entry) (nL := 3) (ret := (some .int)) (by decide) (Nat.le_of_ble_eq_true rfl) (fun p e s m below meth c G hr hlk hnm => ?_)
  refine sw_eq (ws' := [(h0, .inr (3, [.ref h1, .ref h2, .ref h3])), (h1, .inl (ta.1, 6, .inl (fun jx => nI (len jx)))), (h2, .inl (ta.1, 72, .inl (fun jx => nI (ent jx)))), (h3, .inl (ta.1, 40, .inl (cnt)))]) (lv2 := [(0, .ref h0), (1, .int (nI k)), (2, .int (nI b))]) (pc2 := 0) (st2 := []) rfl ?_
  refine sw_aload_n G dXR_entry_0 rfl 0 rfl ?_
  refine sw_get (C := RXR) (T := TXR) (ref := RXR) (N := 3) G inXR 0 rfl rfl 1 (by decide) wd_69 rfl rfl dXR_entry_1 ?_
  refine sw_iload_n G dXR_entry_4 rfl 1 rfl ?_
  refine sw_bipush (v := nI 12) G dXR_entry_5 (by decide) ?_
  refine sw_imul (x := nI k) (y := nI 12) (v := nI (k * 12)) G dXR_entry_7 (pk_mul _ _) ?_
  refine sw_iload_n G dXR_entry_8 rfl 2 rfl ?_
  refine sw_iadd (x := nI (k * 12)) (y := nI b) (v := nI ((k * 12) + b)) G dXR_entry_9 (sp_add _ _) ?_
  refine sw_ialdN (j := (k * 12) + b) (v := nI (ent ((k * 12) + b))) G 2 rfl (by omega) (by decide) (rfl) dXR_entry_10 ?_
  exact sr_iret (x := nI (ent ((k * 12) + b))) G hr hlk (rfl) dXR_entry_11

set_option maxRecDepth 100000 in
set_option maxHeartbeats 4000000 in
theorem c_XR_have (l : Launch) (D : va_G) (ta : ClassId × ClassId × ClassId) (h0 : Nat) (h1 : Nat) (h2 : Nat) (h3 : Nat) (len : Nat → Nat) (ent : Nat → Nat) (cnt : Nat → Int32) (b : Nat) (hb : b < 40) : sr l yXR_have wsXR_have ({ frames := 0, cells := 0, slots := 0, locals := 0 }) D ta [.ref h0, .int (nI b)] [(h0, .inr (3, [.ref h1, .ref h2, .ref h3])), (h1, .inl (ta.1, 6, .inl (fun jx => nI (len jx)))), (h2, .inl (ta.1, 72, .inl (fun jx => nI (ent jx)))), (h3, .inl (ta.1, 40, .inl (cnt)))] (some (.int (sp_b (decide (0 < cnt b))))) := by
  refine sr_ofW (y := yXR_have) (cc := cXR_have) (nL := 2) (ret := (some .boolean)) (by decide) (Nat.le_of_ble_eq_true rfl) (fun p e s m below meth c G hr hlk hnm => ?_)
  refine sw_eq (ws' := [(h0, .inr (3, [.ref h1, .ref h2, .ref h3])), (h1, .inl (ta.1, 6, .inl (fun jx => nI (len jx)))), (h2, .inl (ta.1, 72, .inl (fun jx => nI (ent jx)))), (h3, .inl (ta.1, 40, .inl (cnt)))]) (lv2 := [(0, .ref h0), (1, .int (nI b))]) (pc2 := 0) (st2 := []) rfl ?_
  refine sw_aload_n G dXR_have_0 rfl 0 rfl ?_
  refine sw_get (C := RXR) (T := TXR) (ref := RXR) (N := 3) G inXR 0 rfl rfl 2 (by decide) wd_70 rfl rfl dXR_have_1 ?_
  refine sw_iload_n G dXR_have_4 rfl 1 rfl ?_
  refine sw_ialdN (j := b) (v := cnt b) G 3 rfl (by omega) (by decide) (rfl) dXR_have_5 ?_
  refine sw_if_le (x := cnt b) (tgt := 13) G dXR_have_6 (by decide) (fun h6 => ?_) (fun h6 => ?_)
  · refine sw_iconst (v := nI 0) G dXR_have_13 (by decide) ?_
    exact sr_zret (x := nI 0) G hr hlk (by rw [decide_eq_false (Int32.not_lt.mpr h6)]; rfl) (rfl) dXR_have_14
  · refine sw_iconst (v := nI 1) G dXR_have_9 (by decide) ?_
    refine sw_goto (tgt := 14) G dXR_have_10 (by decide) ?_
    exact sr_zret (x := nI 1) G hr hlk (by rw [decide_eq_true (Int32.not_le.mp h6)]; rfl) (rfl) dXR_have_14

set_option maxRecDepth 100000 in
set_option maxHeartbeats 4000000 in
theorem c_XR_add (l : Launch) (D : va_G) (ta : ClassId × ClassId × ClassId) (h0 : Nat) (h1 : Nat) (h2 : Nat) (h3 : Nat) (len : Nat → Nat) (ent : Nat → Nat) (cnt : Nat → Int32) (k : Nat) (b : Nat) (hk : k < 6) (hl : len k < 12) (hb : b < 40) : sm (S := Unit) l yXR_add wsXR_add ({ frames := 0, cells := 0, slots := 0, locals := 0 }) D ta [.ref h0, .int (nI k), .int (nI b)] [(h0, .inr (3, [.ref h1, .ref h2, .ref h3])), (h1, .inl (ta.1, 6, .inl (fun jx => nI (len jx)))), (h2, .inl (ta.1, 72, .inl (fun jx => nI (ent jx)))), (h3, .inl (ta.1, 40, .inl (cnt)))] (fun _ => True) (fun _ => none) (fun _ => [(h0, .inr (3, [.ref h1, .ref h2, .ref h3])), (h1, .inl (ta.1, 6, .inl (fun jx => nI ((va_up len k ((len k) + 1)) jx)))), (h2, .inl (ta.1, 72, .inl (fun jx => nI ((va_up ent ((k * 12) + (len k)) b) jx)))), (h3, .inl (ta.1, 40, .inl ((upd cnt b ((cnt b) + (nI 1))))))]) := by
  refine sm_ofW (y := yXR_add) (cc := cXR_add) (nL := 3) (ret := none) (by decide) (Nat.le_of_ble_eq_true rfl) (fun p e s m below meth c G hr hlk hnm => ?_)
  refine sw_eq (ws' := [(h0, .inr (3, [.ref h1, .ref h2, .ref h3])), (h1, .inl (ta.1, 6, .inl (fun jx => nI (len jx)))), (h2, .inl (ta.1, 72, .inl (fun jx => nI (ent jx)))), (h3, .inl (ta.1, 40, .inl (cnt)))]) (lv2 := [(0, .ref h0), (1, .int (nI k)), (2, .int (nI b))]) (pc2 := 0) (st2 := []) rfl ?_
  refine sw_aload_n G dXR_add_0 rfl 0 rfl ?_
  refine sw_get (C := RXR) (T := TXR) (ref := RXR) (N := 3) G inXR 0 rfl rfl 1 (by decide) wd_69 rfl rfl dXR_add_1 ?_
  refine sw_iload_n G dXR_add_4 rfl 1 rfl ?_
  refine sw_bipush (v := nI 12) G dXR_add_5 (by decide) ?_
  refine sw_imul (x := nI k) (y := nI 12) (v := nI (k * 12)) G dXR_add_7 (pk_mul _ _) ?_
  refine sw_aload_n G dXR_add_8 rfl 0 rfl ?_
  refine sw_get (C := RXR) (T := TXR) (ref := RXR) (N := 3) G inXR 0 rfl rfl 0 (by decide) wd_68 rfl rfl dXR_add_9 ?_
  refine sw_iload_n G dXR_add_12 rfl 1 rfl ?_
  refine sw_ialdN (j := k) (v := nI (len k)) G 1 rfl (by omega) (by decide) (rfl) dXR_add_13 ?_
  refine sw_iadd (x := nI (k * 12)) (y := nI (len k)) (v := nI ((k * 12) + (len k))) G dXR_add_14 (sp_add _ _) ?_
  refine sw_iload_n G dXR_add_15 rfl 2 rfl ?_
  refine sw_iastN (j := (k * 12) + (len k)) (x := nI b) G 2 rfl (by omega) (by decide) dXR_add_16 (f' := fun jx => nI ((va_up ent ((k * 12) + (len k)) b) jx)) (sp_upN _ _ _) (ws' := [(h0, .inr (3, [.ref h1, .ref h2, .ref h3])), (h1, .inl (ta.1, 6, .inl (fun jx => nI (len jx)))), (h2, .inl (ta.1, 72, .inl (fun jx => nI ((va_up ent ((k * 12) + (len k)) b) jx)))), (h3, .inl (ta.1, 40, .inl (cnt)))]) rfl ?_
  refine sw_aload_n G dXR_add_17 rfl 0 rfl ?_
  refine sw_get (C := RXR) (T := TXR) (ref := RXR) (N := 3) G inXR 0 rfl rfl 0 (by decide) wd_68 rfl rfl dXR_add_18 ?_
  refine sw_iload_n G dXR_add_21 rfl 1 rfl ?_
  refine sw_dup2 G dXR_add_22 rfl rfl ?_
  refine sw_ialdN (j := k) (v := nI (len k)) G 1 rfl (by omega) (by decide) (rfl) dXR_add_23 ?_
  refine sw_iconst (v := nI 1) G dXR_add_24 (by decide) ?_
  refine sw_iadd (x := nI (len k)) (y := nI 1) (v := nI ((len k) + 1)) G dXR_add_25 (sp_add _ _) ?_
  refine sw_iastN (j := k) (x := nI ((len k) + 1)) G 1 rfl (by omega) (by decide) dXR_add_26 (f' := fun jx => nI ((va_up len k ((len k) + 1)) jx)) (sp_upN _ _ _) (ws' := [(h0, .inr (3, [.ref h1, .ref h2, .ref h3])), (h1, .inl (ta.1, 6, .inl (fun jx => nI ((va_up len k ((len k) + 1)) jx)))), (h2, .inl (ta.1, 72, .inl (fun jx => nI ((va_up ent ((k * 12) + (len k)) b) jx)))), (h3, .inl (ta.1, 40, .inl (cnt)))]) rfl ?_
  refine sw_aload_n G dXR_add_27 rfl 0 rfl ?_
  refine sw_get (C := RXR) (T := TXR) (ref := RXR) (N := 3) G inXR 0 rfl rfl 2 (by decide) wd_70 rfl rfl dXR_add_28 ?_
  refine sw_iload_n G dXR_add_31 rfl 2 rfl ?_
  refine sw_dup2 G dXR_add_32 rfl rfl ?_
  refine sw_ialdN (j := b) (v := cnt b) G 3 rfl (by omega) (by decide) (rfl) dXR_add_33 ?_
  refine sw_iconst (v := nI 1) G dXR_add_34 (by decide) ?_
  refine sw_iadd (x := cnt b) (y := nI 1) (v := (cnt b) + (nI 1)) G dXR_add_35 (rfl) ?_
  refine sw_iastN (j := b) (x := (cnt b) + (nI 1)) G 3 rfl (by omega) (by decide) dXR_add_36 (f' := (upd cnt b ((cnt b) + (nI 1)))) (rfl) (ws' := [(h0, .inr (3, [.ref h1, .ref h2, .ref h3])), (h1, .inl (ta.1, 6, .inl (fun jx => nI ((va_up len k ((len k) + 1)) jx)))), (h2, .inl (ta.1, 72, .inl (fun jx => nI ((va_up ent ((k * 12) + (len k)) b) jx)))), (h3, .inl (ta.1, 40, .inl ((upd cnt b ((cnt b) + (nI 1))))))]) rfl ?_
  exact sw_vret G hr hlk () trivial (rfl) [0, 1, 2, 3] (by decide) rfl rfl dXR_add_37

set_option maxRecDepth 100000 in
set_option maxHeartbeats 4000000 in
theorem c_XR_shorten (l : Launch) (D : va_G) (ta : ClassId × ClassId × ClassId) (h0 : Nat) (h1 : Nat) (h2 : Nat) (h3 : Nat) (len : Nat → Nat) (ent : Nat → Nat) (cnt : Nat → Int32) (k : Nat) (n : Nat) (hk : k < 6) (hn : n ≤ len k) (hl : len k ≤ 12) (he : ∀ b, n ≤ b → b < len k → ent (k * 12 + b) < 40) : sm (S := Unit) l yXR_shorten wsXR_shorten ({ frames := 1, cells := 0, slots := 0, locals := 22 }) D ta [.ref h0, .int (nI k), .int (nI n)] [(h0, .inr (3, [.ref h1, .ref h2, .ref h3])), (h1, .inl (ta.1, 6, .inl (fun jx => nI (len jx)))), (h2, .inl (ta.1, 72, .inl (fun jx => nI (ent jx)))), (h3, .inl (ta.1, 40, .inl (cnt)))] (fun _ => True) (fun _ => none) (fun _ => [(h0, .inr (3, [.ref h1, .ref h2, .ref h3])), (h1, .inl (ta.1, 6, .inl (fun jx => nI ((va_up len k n) jx)))), (h2, .inl (ta.1, 72, .inl (fun jx => nI (ent jx)))), (h3, .inl (ta.1, 40, .inl ((rw_dec cnt ent k n (len k - n)))))]) := by
  refine sm_ofW (y := yXR_shorten) (cc := cXR_shorten) (nL := 4) (ret := none) (by decide) (Nat.le_of_ble_eq_true rfl) (fun p e s m below meth c G hr hlk hnm => ?_)
  refine sw_eq (ws' := [(h0, .inr (3, [.ref h1, .ref h2, .ref h3])), (h1, .inl (ta.1, 6, .inl (fun jx => nI (len jx)))), (h2, .inl (ta.1, 72, .inl (fun jx => nI (ent jx)))), (h3, .inl (ta.1, 40, .inl (cnt)))]) (lv2 := [(0, .ref h0), (1, .int (nI k)), (2, .int (nI n))]) (pc2 := 0) (st2 := []) rfl ?_
  refine sw_iload_n G dXR_shorten_0 rfl 2 rfl ?_
  refine sw_istore_n G dXR_shorten_1 rfl (by decide) (lv' := [(3, .int (nI n)), (0, .ref h0), (1, .int (nI k)), (2, .int (nI n))]) rfl ?_
  refine sw_z ?_
  refine sw_lv [1, 2, 3, 0] (lv' := [(0, .ref h0), (1, .int (nI k)), (2, .int (nI n)), (3, .int (nI n))]) rfl ?_
  have L2 : ∀ (NN : Nat) (j : Nat), len k - (n + j) < NN → (n + j ≤ len k) → sw p l e ({ frames := 1, cells := 0, slots := 0, locals := 22 }) s m ([.ref h0, .int (nI k), .int (nI n)]).toArray below meth c 4 D (va_A [(h0, .inr (3, [.ref h1, .ref h2, .ref h3])), (h1, .inl (ta.1, 6, .inl (fun jx => nI (len jx)))), (h2, .inl (ta.1, 72, .inl (fun jx => nI (ent jx)))), (h3, .inl (ta.1, 40, .inl (cnt)))] s.heap.size) (MQ below (sb_Q D ta [(h0, .inr (3, [.ref h1, .ref h2, .ref h3])), (h1, .inl (ta.1, 6, .inl (fun jx => nI (len jx)))), (h2, .inl (ta.1, 72, .inl (fun jx => nI (ent jx)))), (h3, .inl (ta.1, 40, .inl (cnt)))] s.heap.size (fun _ : Unit => True) (fun _ => none) (fun _ => [(h0, .inr (3, [.ref h1, .ref h2, .ref h3])), (h1, .inl (ta.1, 6, .inl (fun jx => nI ((va_up len k n) jx)))), (h2, .inl (ta.1, 72, .inl (fun jx => nI (ent jx)))), (h3, .inl (ta.1, 40, .inl ((rw_dec cnt ent k n (len k - n)))))])) ([.ref h0, .int (nI k), .int (nI n)]).toArray s 0 0 (va_A [(h0, .inr (3, [.ref h1, .ref h2, .ref h3])), (h1, .inl (ta.1, 6, .inl (fun jx => nI (len jx)))), (h2, .inl (ta.1, 72, .inl (fun jx => nI (ent jx)))), (h3, .inl (ta.1, 40, .inl (cnt)))] s.heap.size)) false 0 0 [(h0, .inr (3, [.ref h1, .ref h2, .ref h3])), (h1, .inl (ta.1, 6, .inl (fun jx => nI (len jx)))), (h2, .inl (ta.1, 72, .inl (fun jx => nI (ent jx)))), (h3, .inl (ta.1, 40, .inl ((rw_dec cnt ent k n j))))] [(0, .ref h0), (1, .int (nI k)), (2, .int (nI n)), (3, .int (nI (n + j)))] 2 [] := by
    intro NN
    induction NN with
    | zero => intro j hNN; exact absurd hNN (Nat.not_lt_zero _)
    | succ NN ih2 =>
      intro j hNN hj
      refine sw_iload_n G dXR_shorten_2 rfl 3 rfl ?_
      refine sw_aload_n G dXR_shorten_3 rfl 0 rfl ?_
      refine sw_get (C := RXR) (T := TXR) (ref := RXR) (N := 3) G inXR 0 rfl rfl 0 (by decide) wd_68 rfl rfl dXR_shorten_4 ?_
      refine sw_iload_n G dXR_shorten_7 rfl 1 rfl ?_
      refine sw_ialdN (j := k) (v := nI (len k)) G 1 rfl (by omega) (by decide) (rfl) dXR_shorten_8 ?_
      refine sw_icmpN_ge (a := n + j) (b := len k) (tgt := 33) G dXR_shorten_9 (by decide) (by omega) (by omega) (fun h9 => ?_) (fun h9 => ?_)
      · refine sw_aload_n G dXR_shorten_33 rfl 0 rfl ?_
        refine sw_get (C := RXR) (T := TXR) (ref := RXR) (N := 3) G inXR 0 rfl rfl 0 (by decide) wd_68 rfl rfl dXR_shorten_34 ?_
        refine sw_iload_n G dXR_shorten_37 rfl 1 rfl ?_
        refine sw_iload_n G dXR_shorten_38 rfl 2 rfl ?_
        refine sw_iastN (j := k) (x := nI n) G 1 rfl (by omega) (by decide) dXR_shorten_39 (f' := fun jx => nI ((va_up len k n) jx)) (sp_upN _ _ _) (ws' := [(h0, .inr (3, [.ref h1, .ref h2, .ref h3])), (h1, .inl (ta.1, 6, .inl (fun jx => nI ((va_up len k n) jx)))), (h2, .inl (ta.1, 72, .inl (fun jx => nI (ent jx)))), (h3, .inl (ta.1, 40, .inl ((rw_dec cnt ent k n j))))]) rfl ?_
        refine sw_sub [0, 1, 2, 3] (by decide) (ws' := [(h0, .inr (3, [.ref h1, .ref h2, .ref h3])), (h1, .inl (ta.1, 6, .inl (fun jx => nI ((va_up len k n) jx)))), (h2, .inl (ta.1, 72, .inl (fun jx => nI (ent jx)))), (h3, .inl (ta.1, 40, .inl ((rw_dec cnt ent k n j))))]) rfl rfl ?_
        refine sw_eq (ws' := [(h0, .inr (3, [.ref h1, .ref h2, .ref h3])), (h1, .inl (ta.1, 6, .inl (fun jx => nI ((va_up len k n) jx)))), (h2, .inl (ta.1, 72, .inl (fun jx => nI (ent jx)))), (h3, .inl (ta.1, 40, .inl ((rw_dec cnt ent k n (len k - n)))))]) (lv2 := [(0, .ref h0), (1, .int (nI k)), (2, .int (nI n)), (3, .int (nI (n + j)))]) (pc2 := 40) (st2 := []) (by rw [show j = len k - n by omega]) ?_
        exact sw_vret G hr hlk () trivial (rfl) [0, 1, 2, 3] (by decide) rfl rfl dXR_shorten_40
      · refine sw_aload_n G dXR_shorten_12 rfl 0 rfl ?_
        refine sw_get (C := RXR) (T := TXR) (ref := RXR) (N := 3) G inXR 0 rfl rfl 2 (by decide) wd_70 rfl rfl dXR_shorten_13 ?_
        refine sw_aload_n G dXR_shorten_16 rfl 0 rfl ?_
        refine sw_iload_n G dXR_shorten_17 rfl 1 rfl ?_
        refine sw_iload_n G dXR_shorten_18 rfl 3 rfl ?_
        refine sw_readV (As := [.int (nI k), .int (nI (n + j))]) (rest := [.ref h3]) G (c_XR_entry l D ta h0 h1 h2 h3 len ent (rw_dec cnt ent k n j) k (n + j) (by omega) (by omega)) (cwV 2 G.2.2.2.2.1 (sb_goodV wd_162 wd_163 wd_164 wd_5 wd_165) rfl rfl rfl (by decide +kernel) ⟨Nat.le_of_ble_eq_true rfl, Nat.le_of_ble_eq_true rfl⟩) 0 3 rfl rfl rfl rfl (Nat.le_of_ble_eq_true rfl) dXR_shorten_19 ⟨Nat.le_of_ble_eq_true rfl, Nat.le_of_ble_eq_true rfl⟩ [0, 1, 2, 3] rfl (by decide) ?_
        refine sw_eq (ws' := [(h0, .inr (3, [.ref h1, .ref h2, .ref h3])), (h1, .inl (ta.1, 6, .inl (fun jx => nI (len jx)))), (h2, .inl (ta.1, 72, .inl (fun jx => nI (ent jx)))), (h3, .inl (ta.1, 40, .inl ((rw_dec cnt ent k n j))))]) (lv2 := [(0, .ref h0), (1, .int (nI k)), (2, .int (nI n)), (3, .int (nI (n + j)))]) (pc2 := 22) (st2 := [.int (nI (ent (k * 12 + (n + j)))), .ref h3]) rfl ?_
        refine sw_dup2 G dXR_shorten_22 rfl rfl ?_
        refine sw_ialdN (j := ent (k * 12 + (n + j))) (v := (rw_dec cnt ent k n j) (ent (k * 12 + (n + j)))) G 3 rfl (he (n + j) (by omega) h9) (by decide) (rfl) dXR_shorten_23 ?_
        refine sw_iconst (v := nI 1) G dXR_shorten_24 (by decide) ?_
        refine sw_isub (x := (rw_dec cnt ent k n j) (ent (k * 12 + (n + j)))) (y := nI 1) (v := ((rw_dec cnt ent k n j) (ent (k * 12 + (n + j)))) - (nI 1)) G dXR_shorten_25 (rfl) ?_
        refine sw_iastN (j := ent (k * 12 + (n + j))) (x := ((rw_dec cnt ent k n j) (ent (k * 12 + (n + j)))) - (nI 1)) G 3 rfl (he (n + j) (by omega) h9) (by decide) dXR_shorten_26 (f' := (upd (rw_dec cnt ent k n j) (ent (k * 12 + (n + j))) (((rw_dec cnt ent k n j) (ent (k * 12 + (n + j)))) - (nI 1)))) (rfl) (ws' := [(h0, .inr (3, [.ref h1, .ref h2, .ref h3])), (h1, .inl (ta.1, 6, .inl (fun jx => nI (len jx)))), (h2, .inl (ta.1, 72, .inl (fun jx => nI (ent jx)))), (h3, .inl (ta.1, 40, .inl ((upd (rw_dec cnt ent k n j) (ent (k * 12 + (n + j))) (((rw_dec cnt ent k n j) (ent (k * 12 + (n + j)))) - (nI 1))))))]) rfl ?_
        refine sw_iinc (x := nI (n + j)) (v := nI ((n + j) + 1)) G dXR_shorten_27 (q := 3) rfl (sp_inc _) (by decide) (lv' := [(3, .int (nI ((n + j) + 1))), (0, .ref h0), (1, .int (nI k)), (2, .int (nI n))]) rfl ?_
        refine sw_goto (tgt := 2) G dXR_shorten_30 (by decide) ?_
        refine sw_lv [1, 2, 3, 0] (lv' := [(0, .ref h0), (1, .int (nI k)), (2, .int (nI n)), (3, .int (nI ((n + j) + 1)))]) rfl ?_
        refine sw_eq (ws' := [(h0, .inr (3, [.ref h1, .ref h2, .ref h3])), (h1, .inl (ta.1, 6, .inl (fun jx => nI (len jx)))), (h2, .inl (ta.1, 72, .inl (fun jx => nI (ent jx)))), (h3, .inl (ta.1, 40, .inl ((rw_dec cnt ent k n (j + 1)))))]) (lv2 := [(0, .ref h0), (1, .int (nI k)), (2, .int (nI n)), (3, .int (nI (n + (j + 1))))]) (pc2 := 2) (st2 := []) (rfl) ?_
        exact ih2 (j + 1) (by omega) (by omega)
  exact L2 _ 0 (Nat.lt_succ_self _) (by omega)

set_option maxRecDepth 100000 in
set_option maxHeartbeats 4000000 in
theorem c_XS_rows (l : Launch) (D : va_G) (ta : ClassId × ClassId × ClassId) (h0 : Nat) (h1 : Nat) (x : Int32)  : sr l yXS_rows wsXS_rows ({ frames := 0, cells := 0, slots := 0, locals := 0 }) D ta [.ref h0] [(h0, .inr (4, [.ref h1, .int x]))] (some (.ref h1)) := by
  refine sr_ofW (y := yXS_rows) (cc := cXS_rows) (nL := 1) (ret := (some (.object "SharedBlockStore$Rows"))) (by decide) (Nat.le_of_ble_eq_true rfl) (fun p e s m below meth c G hr hlk hnm => ?_)
  refine sw_eq (ws' := [(h0, .inr (4, [.ref h1, .int x]))]) (lv2 := [(0, .ref h0)]) (pc2 := 0) (st2 := []) rfl ?_
  refine sw_aload_n G dXS_rows_0 rfl 0 rfl ?_
  refine sw_get (C := RXS) (T := TXS) (ref := RXS) (N := 2) G inXS 0 rfl rfl 0 (by decide) wd_86 rfl rfl dXS_rows_1 ?_
  exact sr_aret (x := h1) G hr hlk (Or.inl ⟨_, rfl⟩) (rfl) dXS_rows_4

set_option maxRecDepth 100000 in
set_option maxHeartbeats 4000000 in
theorem c_XS_number (l : Launch) (D : va_G) (ta : ClassId × ClassId × ClassId) (h0 : Nat) (h1 : Nat) (x : Int32)  : sr l yXS_number wsXS_number ({ frames := 0, cells := 0, slots := 0, locals := 0 }) D ta [.ref h0] [(h0, .inr (4, [.ref h1, .int x]))] (some (.int x)) := by
  refine sr_ofW (y := yXS_number) (cc := cXS_number) (nL := 1) (ret := (some .int)) (by decide) (Nat.le_of_ble_eq_true rfl) (fun p e s m below meth c G hr hlk hnm => ?_)
  refine sw_eq (ws' := [(h0, .inr (4, [.ref h1, .int x]))]) (lv2 := [(0, .ref h0)]) (pc2 := 0) (st2 := []) rfl ?_
  refine sw_aload_n G dXS_number_0 rfl 0 rfl ?_
  refine sw_get (C := RXS) (T := TXS) (ref := RXS) (N := 2) G inXS 0 rfl rfl 1 (by decide) wd_87 rfl rfl dXS_number_1 ?_
  exact sr_iret (x := x) G hr hlk (rfl) dXS_number_4

set_option maxRecDepth 100000 in
set_option maxHeartbeats 4000000 in
theorem c_XS_writeHead (l : Launch) (D : va_G) (ta : ClassId × ClassId × ClassId) (h0 : Nat) (h1 : Nat) (x : Int32) (v : Int32)  : sm (S := Unit) l yXS_writeHead wsXS_writeHead ({ frames := 0, cells := 0, slots := 0, locals := 0 }) D ta [.ref h0, .int v] [(h0, .inr (4, [.ref h1, .int x]))] (fun _ => True) (fun _ => none) (fun _ => [(h0, .inr (4, [.ref h1, .int v]))]) := by
  refine sm_ofW (y := yXS_writeHead) (cc := cXS_writeHead) (nL := 2) (ret := none) (by decide) (Nat.le_of_ble_eq_true rfl) (fun p e s m below meth c G hr hlk hnm => ?_)
  refine sw_eq (ws' := [(h0, .inr (4, [.ref h1, .int x]))]) (lv2 := [(0, .ref h0), (1, .int v)]) (pc2 := 0) (st2 := []) rfl ?_
  refine sw_aload_n G dXS_writeHead_0 rfl 0 rfl ?_
  refine sw_iload_n G dXS_writeHead_1 rfl 1 rfl ?_
  refine sw_put (ty := .int) (v := .int v) (C := RXS) (T := TXS) (ref := RXS) (N := 2) G inXS tyXS tyXS_ok nmXS 0 rfl rfl 1 (by decide) wd_87 rfl rfl (by decide +kernel) (rfl) (rfl) (Nat.le_of_ble_eq_true rfl) dXS_writeHead_2 (fs' := [.ref h1, .int v]) rfl (ws' := [(h0, .inr (4, [.ref h1, .int v]))]) rfl ?_
  exact sw_vret G hr hlk () trivial (rfl) [0] (by decide) rfl rfl dXS_writeHead_5
