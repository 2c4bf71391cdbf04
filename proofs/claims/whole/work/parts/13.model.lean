abbrev cXM_thrown : ByteArray := prog_9_method_2_code
abbrev yXM_thrown : MethodName := ⟨RXM, "thrown", "()I"⟩
abbrev wsXM_thrown : List Cond := .code yXM_thrown cXM_thrown 1 (some .int) :: sbT
theorem dXM_thrown_0 : decode cXM_thrown 0 = .ok (.aload_n 0, 1) := by decide +kernel
theorem dXM_thrown_1 : decode cXM_thrown 1 = .ok (.getfield 39, 3) := by decide +kernel
theorem dXM_thrown_4 : decode cXM_thrown 4 = .ok (.ireturn, 1) := by decide +kernel
abbrev cXM_refused : ByteArray := prog_9_method_3_code
abbrev yXM_refused : MethodName := ⟨RXM, "refused", "(I)Z"⟩
abbrev wsXM_refused : List Cond := .code yXM_refused cXM_refused 2 (some .boolean) :: sbT
theorem dXM_refused_0 : decode cXM_refused 0 = .ok (.aload_n 0, 1) := by decide +kernel
theorem dXM_refused_1 : decode cXM_refused 1 = .ok (.aload_n 0, 1) := by decide +kernel
theorem dXM_refused_2 : decode cXM_refused 2 = .ok (.getfield 42, 3) := by decide +kernel
theorem dXM_refused_5 : decode cXM_refused 5 = .ok (.ifCond .eq 7, 3) := by decide +kernel
theorem dXM_refused_8 : decode cXM_refused 8 = .ok (.iconst 1, 1) := by decide +kernel
theorem dXM_refused_9 : decode cXM_refused 9 = .ok (.goto 4, 3) := by decide +kernel
theorem dXM_refused_12 : decode cXM_refused 12 = .ok (.iload_n 1, 1) := by decide +kernel
theorem dXM_refused_13 : decode cXM_refused 13 = .ok (.putfield 39, 3) := by decide +kernel
theorem dXM_refused_16 : decode cXM_refused 16 = .ok (.aload_n 0, 1) := by decide +kernel
theorem dXM_refused_17 : decode cXM_refused 17 = .ok (.getfield 39, 3) := by decide +kernel
theorem dXM_refused_20 : decode cXM_refused 20 = .ok (.ifCond .le 7, 3) := by decide +kernel
theorem dXM_refused_23 : decode cXM_refused 23 = .ok (.iconst 1, 1) := by decide +kernel
theorem dXM_refused_24 : decode cXM_refused 24 = .ok (.goto 4, 3) := by decide +kernel
theorem dXM_refused_27 : decode cXM_refused 27 = .ok (.iconst 0, 1) := by decide +kernel
theorem dXM_refused_28 : decode cXM_refused 28 = .ok (.ireturn, 1) := by decide +kernel
abbrev cXM_isHeld : ByteArray := prog_9_method_4_code
abbrev yXM_isHeld : MethodName := ⟨RXM, "isHeld", "(I)Z"⟩
abbrev wsXM_isHeld : List Cond := .code yXM_isHeld cXM_isHeld 5 (some .boolean) :: sbT
theorem dXM_isHeld_0 : decode cXM_isHeld 0 = .ok (.iconst 0, 1) := by decide +kernel
theorem dXM_isHeld_1 : decode cXM_isHeld 1 = .ok (.istore_n 2, 1) := by decide +kernel
theorem dXM_isHeld_2 : decode cXM_isHeld 2 = .ok (.iconst 0, 1) := by decide +kernel
theorem dXM_isHeld_3 : decode cXM_isHeld 3 = .ok (.istore_n 3, 1) := by decide +kernel
theorem dXM_isHeld_4 : decode cXM_isHeld 4 = .ok (.iload_n 3, 1) := by decide +kernel
theorem dXM_isHeld_5 : decode cXM_isHeld 5 = .ok (.bipush 6, 2) := by decide +kernel
theorem dXM_isHeld_7 : decode cXM_isHeld 7 = .ok (.if_icmp .ge 55, 3) := by decide +kernel
theorem dXM_isHeld_10 : decode cXM_isHeld 10 = .ok (.iconst 0, 1) := by decide +kernel
theorem dXM_isHeld_11 : decode cXM_isHeld 11 = .ok (.istore 4, 2) := by decide +kernel
theorem dXM_isHeld_13 : decode cXM_isHeld 13 = .ok (.iload 4, 2) := by decide +kernel
theorem dXM_isHeld_15 : decode cXM_isHeld 15 = .ok (.aload_n 0, 1) := by decide +kernel
theorem dXM_isHeld_16 : decode cXM_isHeld 16 = .ok (.getfield 23, 3) := by decide +kernel
theorem dXM_isHeld_19 : decode cXM_isHeld 19 = .ok (.iload_n 3, 1) := by decide +kernel
theorem dXM_isHeld_20 : decode cXM_isHeld 20 = .ok (.iaload, 1) := by decide +kernel
theorem dXM_isHeld_21 : decode cXM_isHeld 21 = .ok (.if_icmp .ge 35, 3) := by decide +kernel
theorem dXM_isHeld_24 : decode cXM_isHeld 24 = .ok (.iload_n 2, 1) := by decide +kernel
theorem dXM_isHeld_25 : decode cXM_isHeld 25 = .ok (.ifCond .ne 19, 3) := by decide +kernel
theorem dXM_isHeld_28 : decode cXM_isHeld 28 = .ok (.aload_n 0, 1) := by decide +kernel
theorem dXM_isHeld_29 : decode cXM_isHeld 29 = .ok (.getfield 20, 3) := by decide +kernel
theorem dXM_isHeld_32 : decode cXM_isHeld 32 = .ok (.bipush 12, 2) := by decide +kernel
theorem dXM_isHeld_34 : decode cXM_isHeld 34 = .ok (.iload_n 3, 1) := by decide +kernel
theorem dXM_isHeld_35 : decode cXM_isHeld 35 = .ok (.imul, 1) := by decide +kernel
theorem dXM_isHeld_36 : decode cXM_isHeld 36 = .ok (.iload 4, 2) := by decide +kernel
theorem dXM_isHeld_38 : decode cXM_isHeld 38 = .ok (.iadd, 1) := by decide +kernel
theorem dXM_isHeld_39 : decode cXM_isHeld 39 = .ok (.iaload, 1) := by decide +kernel
theorem dXM_isHeld_40 : decode cXM_isHeld 40 = .ok (.iload_n 1, 1) := by decide +kernel
theorem dXM_isHeld_41 : decode cXM_isHeld 41 = .ok (.if_icmp .ne 7, 3) := by decide +kernel
theorem dXM_isHeld_44 : decode cXM_isHeld 44 = .ok (.iconst 1, 1) := by decide +kernel
theorem dXM_isHeld_45 : decode cXM_isHeld 45 = .ok (.goto 4, 3) := by decide +kernel
theorem dXM_isHeld_48 : decode cXM_isHeld 48 = .ok (.iconst 0, 1) := by decide +kernel
theorem dXM_isHeld_49 : decode cXM_isHeld 49 = .ok (.istore_n 2, 1) := by decide +kernel
theorem dXM_isHeld_50 : decode cXM_isHeld 50 = .ok (.iinc 4 1, 3) := by decide +kernel
theorem dXM_isHeld_53 : decode cXM_isHeld 53 = .ok (.goto (-40), 3) := by decide +kernel
theorem dXM_isHeld_56 : decode cXM_isHeld 56 = .ok (.iinc 3 1, 3) := by decide +kernel
theorem dXM_isHeld_59 : decode cXM_isHeld 59 = .ok (.goto (-55), 3) := by decide +kernel
theorem dXM_isHeld_62 : decode cXM_isHeld 62 = .ok (.iload_n 2, 1) := by decide +kernel
theorem dXM_isHeld_63 : decode cXM_isHeld 63 = .ok (.ireturn, 1) := by decide +kernel
abbrev cXM_isUsed : ByteArray := prog_9_method_5_code
abbrev yXM_isUsed : MethodName := ⟨RXM, "isUsed", "(I)Z"⟩
abbrev wsXM_isUsed : List Cond := .code yXM_isUsed cXM_isUsed 5 (some .boolean) :: sbT
theorem dXM_isUsed_0 : decode cXM_isUsed 0 = .ok (.aload_n 0, 1) := by decide +kernel
theorem dXM_isUsed_1 : decode cXM_isUsed 1 = .ok (.iload_n 1, 1) := by decide +kernel
theorem dXM_isUsed_2 : decode cXM_isUsed 2 = .ok (.invokevirtual 46, 3) := by decide +kernel
theorem dXM_isUsed_5 : decode cXM_isUsed 5 = .ok (.istore_n 2, 1) := by decide +kernel
theorem dXM_isUsed_6 : decode cXM_isUsed 6 = .ok (.iconst 0, 1) := by decide +kernel
theorem dXM_isUsed_7 : decode cXM_isUsed 7 = .ok (.istore_n 3, 1) := by decide +kernel
theorem dXM_isUsed_8 : decode cXM_isUsed 8 = .ok (.iload_n 3, 1) := by decide +kernel
theorem dXM_isUsed_9 : decode cXM_isUsed 9 = .ok (.bipush 6, 2) := by decide +kernel
theorem dXM_isUsed_11 : decode cXM_isUsed 11 = .ok (.if_icmp .ge 55, 3) := by decide +kernel
theorem dXM_isUsed_14 : decode cXM_isUsed 14 = .ok (.iconst 0, 1) := by decide +kernel
theorem dXM_isUsed_15 : decode cXM_isUsed 15 = .ok (.istore 4, 2) := by decide +kernel
theorem dXM_isUsed_17 : decode cXM_isUsed 17 = .ok (.iload 4, 2) := by decide +kernel
theorem dXM_isUsed_19 : decode cXM_isUsed 19 = .ok (.aload_n 0, 1) := by decide +kernel
theorem dXM_isUsed_20 : decode cXM_isUsed 20 = .ok (.getfield 29, 3) := by decide +kernel
theorem dXM_isUsed_23 : decode cXM_isUsed 23 = .ok (.iload_n 3, 1) := by decide +kernel
theorem dXM_isUsed_24 : decode cXM_isUsed 24 = .ok (.iaload, 1) := by decide +kernel
theorem dXM_isUsed_25 : decode cXM_isUsed 25 = .ok (.if_icmp .ge 35, 3) := by decide +kernel
theorem dXM_isUsed_28 : decode cXM_isUsed 28 = .ok (.iload_n 2, 1) := by decide +kernel
theorem dXM_isUsed_29 : decode cXM_isUsed 29 = .ok (.ifCond .ne 19, 3) := by decide +kernel
theorem dXM_isUsed_32 : decode cXM_isUsed 32 = .ok (.aload_n 0, 1) := by decide +kernel
theorem dXM_isUsed_33 : decode cXM_isUsed 33 = .ok (.getfield 26, 3) := by decide +kernel
theorem dXM_isUsed_36 : decode cXM_isUsed 36 = .ok (.bipush 12, 2) := by decide +kernel
theorem dXM_isUsed_38 : decode cXM_isUsed 38 = .ok (.iload_n 3, 1) := by decide +kernel
theorem dXM_isUsed_39 : decode cXM_isUsed 39 = .ok (.imul, 1) := by decide +kernel
theorem dXM_isUsed_40 : decode cXM_isUsed 40 = .ok (.iload 4, 2) := by decide +kernel
theorem dXM_isUsed_42 : decode cXM_isUsed 42 = .ok (.iadd, 1) := by decide +kernel
theorem dXM_isUsed_43 : decode cXM_isUsed 43 = .ok (.iaload, 1) := by decide +kernel
theorem dXM_isUsed_44 : decode cXM_isUsed 44 = .ok (.iload_n 1, 1) := by decide +kernel
theorem dXM_isUsed_45 : decode cXM_isUsed 45 = .ok (.if_icmp .ne 7, 3) := by decide +kernel
theorem dXM_isUsed_48 : decode cXM_isUsed 48 = .ok (.iconst 1, 1) := by decide +kernel
theorem dXM_isUsed_49 : decode cXM_isUsed 49 = .ok (.goto 4, 3) := by decide +kernel
theorem dXM_isUsed_52 : decode cXM_isUsed 52 = .ok (.iconst 0, 1) := by decide +kernel
theorem dXM_isUsed_53 : decode cXM_isUsed 53 = .ok (.istore_n 2, 1) := by decide +kernel
theorem dXM_isUsed_54 : decode cXM_isUsed 54 = .ok (.iinc 4 1, 3) := by decide +kernel
theorem dXM_isUsed_57 : decode cXM_isUsed 57 = .ok (.goto (-40), 3) := by decide +kernel
theorem dXM_isUsed_60 : decode cXM_isUsed 60 = .ok (.iinc 3 1, 3) := by decide +kernel
theorem dXM_isUsed_63 : decode cXM_isUsed 63 = .ok (.goto (-55), 3) := by decide +kernel
theorem dXM_isUsed_66 : decode cXM_isUsed 66 = .ok (.iload_n 2, 1) := by decide +kernel
theorem dXM_isUsed_67 : decode cXM_isUsed 67 = .ok (.ireturn, 1) := by decide +kernel
abbrev cXM_wordOf : ByteArray := prog_9_method_6_code
abbrev yXM_wordOf : MethodName := ⟨RXM, "wordOf", "(II)I"⟩
abbrev wsXM_wordOf : List Cond := .code yXM_wordOf cXM_wordOf 3 (some .int) :: sbT
theorem dXM_wordOf_0 : decode cXM_wordOf 0 = .ok (.iload_n 1, 1) := by decide +kernel
theorem dXM_wordOf_1 : decode cXM_wordOf 1 = .ok (.ifCond .ge 12, 3) := by decide +kernel
theorem dXM_wordOf_4 : decode cXM_wordOf 4 = .ok (.aload_n 0, 1) := by decide +kernel
theorem dXM_wordOf_5 : decode cXM_wordOf 5 = .ok (.getfield 13, 3) := by decide +kernel
theorem dXM_wordOf_8 : decode cXM_wordOf 8 = .ok (.iload_n 2, 1) := by decide +kernel
theorem dXM_wordOf_9 : decode cXM_wordOf 9 = .ok (.iaload, 1) := by decide +kernel
theorem dXM_wordOf_10 : decode cXM_wordOf 10 = .ok (.goto 13, 3) := by decide +kernel
theorem dXM_wordOf_13 : decode cXM_wordOf 13 = .ok (.aload_n 0, 1) := by decide +kernel
theorem dXM_wordOf_14 : decode cXM_wordOf 14 = .ok (.getfield 17, 3) := by decide +kernel
theorem dXM_wordOf_17 : decode cXM_wordOf 17 = .ok (.iconst 4, 1) := by decide +kernel
theorem dXM_wordOf_18 : decode cXM_wordOf 18 = .ok (.iload_n 1, 1) := by decide +kernel
theorem dXM_wordOf_19 : decode cXM_wordOf 19 = .ok (.imul, 1) := by decide +kernel
theorem dXM_wordOf_20 : decode cXM_wordOf 20 = .ok (.iload_n 2, 1) := by decide +kernel
theorem dXM_wordOf_21 : decode cXM_wordOf 21 = .ok (.iadd, 1) := by decide +kernel
theorem dXM_wordOf_22 : decode cXM_wordOf 22 = .ok (.iaload, 1) := by decide +kernel
theorem dXM_wordOf_23 : decode cXM_wordOf 23 = .ok (.ireturn, 1) := by decide +kernel
abbrev cXM_print : ByteArray := prog_9_method_7_code
abbrev yXM_print : MethodName := ⟨RXM, "print", "(I)I"⟩
abbrev wsXM_print : List Cond := .code yXM_print cXM_print 4 (some .int) :: sbT
theorem dXM_print_0 : decode cXM_print 0 = .ok (.bipush 17, 2) := by decide +kernel
theorem dXM_print_2 : decode cXM_print 2 = .ok (.istore_n 2, 1) := by decide +kernel
theorem dXM_print_3 : decode cXM_print 3 = .ok (.iconst 0, 1) := by decide +kernel
theorem dXM_print_4 : decode cXM_print 4 = .ok (.istore_n 3, 1) := by decide +kernel
theorem dXM_print_5 : decode cXM_print 5 = .ok (.iload_n 3, 1) := by decide +kernel
theorem dXM_print_6 : decode cXM_print 6 = .ok (.iconst 4, 1) := by decide +kernel
theorem dXM_print_7 : decode cXM_print 7 = .ok (.if_icmp .ge 28, 3) := by decide +kernel
theorem dXM_print_10 : decode cXM_print 10 = .ok (.iload_n 2, 1) := by decide +kernel
theorem dXM_print_11 : decode cXM_print 11 = .ok (.bipush 31, 2) := by decide +kernel
theorem dXM_print_13 : decode cXM_print 13 = .ok (.imul, 1) := by decide +kernel
theorem dXM_print_14 : decode cXM_print 14 = .ok (.aload_n 0, 1) := by decide +kernel
theorem dXM_print_15 : decode cXM_print 15 = .ok (.iload_n 1, 1) := by decide +kernel
theorem dXM_print_16 : decode cXM_print 16 = .ok (.iload_n 3, 1) := by decide +kernel
theorem dXM_print_17 : decode cXM_print 17 = .ok (.invokevirtual 50, 3) := by decide +kernel
theorem dXM_print_20 : decode cXM_print 20 = .ok (.iadd, 1) := by decide +kernel
theorem dXM_print_21 : decode cXM_print 21 = .ok (.istore_n 2, 1) := by decide +kernel
theorem dXM_print_22 : decode cXM_print 22 = .ok (.iload_n 2, 1) := by decide +kernel
theorem dXM_print_23 : decode cXM_print 23 = .ok (.iload_n 2, 1) := by decide +kernel
theorem dXM_print_24 : decode cXM_print 24 = .ok (.bipush 15, 2) := by decide +kernel
theorem dXM_print_26 : decode cXM_print 26 = .ok (.iushr, 1) := by decide +kernel
theorem dXM_print_27 : decode cXM_print 27 = .ok (.ixor, 1) := by decide +kernel
theorem dXM_print_28 : decode cXM_print 28 = .ok (.istore_n 2, 1) := by decide +kernel
theorem dXM_print_29 : decode cXM_print 29 = .ok (.iinc 3 1, 3) := by decide +kernel
theorem dXM_print_32 : decode cXM_print 32 = .ok (.goto (-27), 3) := by decide +kernel
theorem dXM_print_35 : decode cXM_print 35 = .ok (.iload_n 2, 1) := by decide +kernel
theorem dXM_print_36 : decode cXM_print 36 = .ok (.sipush 255, 3) := by decide +kernel
theorem dXM_print_39 : decode cXM_print 39 = .ok (.iand, 1) := by decide +kernel
theorem dXM_print_40 : decode cXM_print 40 = .ok (.ireturn, 1) := by decide +kernel
abbrev cXM_gateBit : ByteArray := prog_9_method_8_code
abbrev yXM_gateBit : MethodName := ⟨RXM, "gateBit", "(II)I"⟩
abbrev wsXM_gateBit : List Cond := .code yXM_gateBit cXM_gateBit 5 (some .int) :: sbT
theorem dXM_gateBit_0 : decode cXM_gateBit 0 = .ok (.aload_n 0, 1) := by decide +kernel
theorem dXM_gateBit_1 : decode cXM_gateBit 1 = .ok (.iload_n 1, 1) := by decide +kernel
theorem dXM_gateBit_2 : decode cXM_gateBit 2 = .ok (.invokevirtual 54, 3) := by decide +kernel
theorem dXM_gateBit_5 : decode cXM_gateBit 5 = .ok (.istore_n 3, 1) := by decide +kernel
theorem dXM_gateBit_6 : decode cXM_gateBit 6 = .ok (.aload_n 0, 1) := by decide +kernel
theorem dXM_gateBit_7 : decode cXM_gateBit 7 = .ok (.iload_n 1, 1) := by decide +kernel
theorem dXM_gateBit_8 : decode cXM_gateBit 8 = .ok (.iconst 0, 1) := by decide +kernel
theorem dXM_gateBit_9 : decode cXM_gateBit 9 = .ok (.invokevirtual 50, 3) := by decide +kernel
theorem dXM_gateBit_12 : decode cXM_gateBit 12 = .ok (.aload_n 0, 1) := by decide +kernel
theorem dXM_gateBit_13 : decode cXM_gateBit 13 = .ok (.iload_n 1, 1) := by decide +kernel
theorem dXM_gateBit_14 : decode cXM_gateBit 14 = .ok (.iconst 1, 1) := by decide +kernel
theorem dXM_gateBit_15 : decode cXM_gateBit 15 = .ok (.invokevirtual 50, 3) := by decide +kernel
theorem dXM_gateBit_18 : decode cXM_gateBit 18 = .ok (.ixor, 1) := by decide +kernel
theorem dXM_gateBit_19 : decode cXM_gateBit 19 = .ok (.aload_n 0, 1) := by decide +kernel
theorem dXM_gateBit_20 : decode cXM_gateBit 20 = .ok (.iload_n 1, 1) := by decide +kernel
theorem dXM_gateBit_21 : decode cXM_gateBit 21 = .ok (.iconst 2, 1) := by decide +kernel
theorem dXM_gateBit_22 : decode cXM_gateBit 22 = .ok (.invokevirtual 50, 3) := by decide +kernel
theorem dXM_gateBit_25 : decode cXM_gateBit 25 = .ok (.ixor, 1) := by decide +kernel
theorem dXM_gateBit_26 : decode cXM_gateBit 26 = .ok (.aload_n 0, 1) := by decide +kernel
theorem dXM_gateBit_27 : decode cXM_gateBit 27 = .ok (.iload_n 1, 1) := by decide +kernel
theorem dXM_gateBit_28 : decode cXM_gateBit 28 = .ok (.iconst 3, 1) := by decide +kernel
theorem dXM_gateBit_29 : decode cXM_gateBit 29 = .ok (.invokevirtual 50, 3) := by decide +kernel
theorem dXM_gateBit_32 : decode cXM_gateBit 32 = .ok (.ixor, 1) := by decide +kernel
theorem dXM_gateBit_33 : decode cXM_gateBit 33 = .ok (.istore 4, 2) := by decide +kernel
theorem dXM_gateBit_35 : decode cXM_gateBit 35 = .ok (.iload_n 2, 1) := by decide +kernel
theorem dXM_gateBit_36 : decode cXM_gateBit 36 = .ok (.ifCond .ne 10, 3) := by decide +kernel
theorem dXM_gateBit_39 : decode cXM_gateBit 39 = .ok (.iload_n 3, 1) := by decide +kernel
theorem dXM_gateBit_40 : decode cXM_gateBit 40 = .ok (.bipush 63, 2) := by decide +kernel
theorem dXM_gateBit_42 : decode cXM_gateBit 42 = .ok (.iand, 1) := by decide +kernel
theorem dXM_gateBit_43 : decode cXM_gateBit 43 = .ok (.goto 19, 3) := by decide +kernel
theorem dXM_gateBit_46 : decode cXM_gateBit 46 = .ok (.iload_n 2, 1) := by decide +kernel
theorem dXM_gateBit_47 : decode cXM_gateBit 47 = .ok (.iconst 1, 1) := by decide +kernel
theorem dXM_gateBit_48 : decode cXM_gateBit 48 = .ok (.if_icmp .ne 9, 3) := by decide +kernel
theorem dXM_gateBit_51 : decode cXM_gateBit 51 = .ok (.iload_n 3, 1) := by decide +kernel
theorem dXM_gateBit_52 : decode cXM_gateBit 52 = .ok (.iconst 2, 1) := by decide +kernel
theorem dXM_gateBit_53 : decode cXM_gateBit 53 = .ok (.ishr, 1) := by decide +kernel
theorem dXM_gateBit_54 : decode cXM_gateBit 54 = .ok (.goto 8, 3) := by decide +kernel
theorem dXM_gateBit_57 : decode cXM_gateBit 57 = .ok (.iload 4, 2) := by decide +kernel
theorem dXM_gateBit_59 : decode cXM_gateBit 59 = .ok (.bipush 63, 2) := by decide +kernel
theorem dXM_gateBit_61 : decode cXM_gateBit 61 = .ok (.iand, 1) := by decide +kernel
theorem dXM_gateBit_62 : decode cXM_gateBit 62 = .ok (.ireturn, 1) := by decide +kernel
abbrev cXM_isSame : ByteArray := prog_9_method_9_code
abbrev yXM_isSame : MethodName := ⟨RXM, "isSame", "(I)Z"⟩
abbrev wsXM_isSame : List Cond := .code yXM_isSame cXM_isSame 4 (some .boolean) :: sbT
theorem dXM_isSame_0 : decode cXM_isSame 0 = .ok (.iconst 1, 1) := by decide +kernel
theorem dXM_isSame_1 : decode cXM_isSame 1 = .ok (.istore_n 2, 1) := by decide +kernel
theorem dXM_isSame_2 : decode cXM_isSame 2 = .ok (.iconst 0, 1) := by decide +kernel
theorem dXM_isSame_3 : decode cXM_isSame 3 = .ok (.istore_n 3, 1) := by decide +kernel
theorem dXM_isSame_4 : decode cXM_isSame 4 = .ok (.iload_n 3, 1) := by decide +kernel
theorem dXM_isSame_5 : decode cXM_isSame 5 = .ok (.iconst 4, 1) := by decide +kernel
theorem dXM_isSame_6 : decode cXM_isSame 6 = .ok (.if_icmp .ge 38, 3) := by decide +kernel
theorem dXM_isSame_9 : decode cXM_isSame 9 = .ok (.iload_n 2, 1) := by decide +kernel
theorem dXM_isSame_10 : decode cXM_isSame 10 = .ok (.ifCond .eq 26, 3) := by decide +kernel
theorem dXM_isSame_13 : decode cXM_isSame 13 = .ok (.aload_n 0, 1) := by decide +kernel
theorem dXM_isSame_14 : decode cXM_isSame 14 = .ok (.getfield 13, 3) := by decide +kernel
theorem dXM_isSame_17 : decode cXM_isSame 17 = .ok (.iload_n 3, 1) := by decide +kernel
theorem dXM_isSame_18 : decode cXM_isSame 18 = .ok (.iaload, 1) := by decide +kernel
theorem dXM_isSame_19 : decode cXM_isSame 19 = .ok (.aload_n 0, 1) := by decide +kernel
theorem dXM_isSame_20 : decode cXM_isSame 20 = .ok (.getfield 17, 3) := by decide +kernel
theorem dXM_isSame_23 : decode cXM_isSame 23 = .ok (.iconst 4, 1) := by decide +kernel
theorem dXM_isSame_24 : decode cXM_isSame 24 = .ok (.iload_n 1, 1) := by decide +kernel
theorem dXM_isSame_25 : decode cXM_isSame 25 = .ok (.imul, 1) := by decide +kernel
theorem dXM_isSame_26 : decode cXM_isSame 26 = .ok (.iload_n 3, 1) := by decide +kernel
theorem dXM_isSame_27 : decode cXM_isSame 27 = .ok (.iadd, 1) := by decide +kernel
theorem dXM_isSame_28 : decode cXM_isSame 28 = .ok (.iaload, 1) := by decide +kernel
theorem dXM_isSame_29 : decode cXM_isSame 29 = .ok (.if_icmp .ne 7, 3) := by decide +kernel
theorem dXM_isSame_32 : decode cXM_isSame 32 = .ok (.iconst 1, 1) := by decide +kernel
theorem dXM_isSame_33 : decode cXM_isSame 33 = .ok (.goto 4, 3) := by decide +kernel
theorem dXM_isSame_36 : decode cXM_isSame 36 = .ok (.iconst 0, 1) := by decide +kernel
theorem dXM_isSame_37 : decode cXM_isSame 37 = .ok (.istore_n 2, 1) := by decide +kernel
theorem dXM_isSame_38 : decode cXM_isSame 38 = .ok (.iinc 3 1, 3) := by decide +kernel
theorem dXM_isSame_41 : decode cXM_isSame 41 = .ok (.goto (-37), 3) := by decide +kernel
theorem dXM_isSame_44 : decode cXM_isSame 44 = .ok (.iload_n 2, 1) := by decide +kernel
theorem dXM_isSame_45 : decode cXM_isSame 45 = .ok (.ireturn, 1) := by decide +kernel
abbrev cXM_lookUp : ByteArray := prog_9_method_10_code
abbrev yXM_lookUp : MethodName := ⟨RXM, "lookUp", "()I"⟩
abbrev wsXM_lookUp : List Cond := .code yXM_lookUp cXM_lookUp 2 (some .int) :: sbT
theorem dXM_lookUp_0 : decode cXM_lookUp 0 = .ok (.aload_n 0, 1) := by decide +kernel
theorem dXM_lookUp_1 : decode cXM_lookUp 1 = .ok (.iconst (-1), 1) := by decide +kernel
theorem dXM_lookUp_2 : decode cXM_lookUp 2 = .ok (.invokevirtual 54, 3) := by decide +kernel
theorem dXM_lookUp_5 : decode cXM_lookUp 5 = .ok (.bipush 63, 2) := by decide +kernel
theorem dXM_lookUp_7 : decode cXM_lookUp 7 = .ok (.iand, 1) := by decide +kernel
theorem dXM_lookUp_8 : decode cXM_lookUp 8 = .ok (.istore_n 1, 1) := by decide +kernel
theorem dXM_lookUp_9 : decode cXM_lookUp 9 = .ok (.aload_n 0, 1) := by decide +kernel
theorem dXM_lookUp_10 : decode cXM_lookUp 10 = .ok (.dup, 1) := by decide +kernel
theorem dXM_lookUp_11 : decode cXM_lookUp 11 = .ok (.getfield 58, 3) := by decide +kernel
theorem dXM_lookUp_14 : decode cXM_lookUp 14 = .ok (.iconst 1, 1) := by decide +kernel
theorem dXM_lookUp_15 : decode cXM_lookUp 15 = .ok (.iadd, 1) := by decide +kernel
theorem dXM_lookUp_16 : decode cXM_lookUp 16 = .ok (.putfield 58, 3) := by decide +kernel
theorem dXM_lookUp_19 : decode cXM_lookUp 19 = .ok (.aload_n 0, 1) := by decide +kernel
theorem dXM_lookUp_20 : decode cXM_lookUp 20 = .ok (.getfield 32, 3) := by decide +kernel
theorem dXM_lookUp_23 : decode cXM_lookUp 23 = .ok (.iload_n 1, 1) := by decide +kernel
theorem dXM_lookUp_24 : decode cXM_lookUp 24 = .ok (.iaload, 1) := by decide +kernel
theorem dXM_lookUp_25 : decode cXM_lookUp 25 = .ok (.ifCond .lt 36, 3) := by decide +kernel
theorem dXM_lookUp_28 : decode cXM_lookUp 28 = .ok (.aload_n 0, 1) := by decide +kernel
theorem dXM_lookUp_29 : decode cXM_lookUp 29 = .ok (.aload_n 0, 1) := by decide +kernel
theorem dXM_lookUp_30 : decode cXM_lookUp 30 = .ok (.getfield 32, 3) := by decide +kernel
theorem dXM_lookUp_33 : decode cXM_lookUp 33 = .ok (.iload_n 1, 1) := by decide +kernel
theorem dXM_lookUp_34 : decode cXM_lookUp 34 = .ok (.iaload, 1) := by decide +kernel
theorem dXM_lookUp_35 : decode cXM_lookUp 35 = .ok (.invokevirtual 61, 3) := by decide +kernel
theorem dXM_lookUp_38 : decode cXM_lookUp 38 = .ok (.ifCond .ne 23, 3) := by decide +kernel
theorem dXM_lookUp_41 : decode cXM_lookUp 41 = .ok (.iload_n 1, 1) := by decide +kernel
theorem dXM_lookUp_42 : decode cXM_lookUp 42 = .ok (.iconst 1, 1) := by decide +kernel
theorem dXM_lookUp_43 : decode cXM_lookUp 43 = .ok (.iadd, 1) := by decide +kernel
theorem dXM_lookUp_44 : decode cXM_lookUp 44 = .ok (.bipush 64, 2) := by decide +kernel
theorem dXM_lookUp_46 : decode cXM_lookUp 46 = .ok (.irem, 1) := by decide +kernel
theorem dXM_lookUp_47 : decode cXM_lookUp 47 = .ok (.istore_n 1, 1) := by decide +kernel
theorem dXM_lookUp_48 : decode cXM_lookUp 48 = .ok (.aload_n 0, 1) := by decide +kernel
theorem dXM_lookUp_49 : decode cXM_lookUp 49 = .ok (.dup, 1) := by decide +kernel
theorem dXM_lookUp_50 : decode cXM_lookUp 50 = .ok (.getfield 58, 3) := by decide +kernel
theorem dXM_lookUp_53 : decode cXM_lookUp 53 = .ok (.iconst 1, 1) := by decide +kernel
theorem dXM_lookUp_54 : decode cXM_lookUp 54 = .ok (.iadd, 1) := by decide +kernel
theorem dXM_lookUp_55 : decode cXM_lookUp 55 = .ok (.putfield 58, 3) := by decide +kernel
theorem dXM_lookUp_58 : decode cXM_lookUp 58 = .ok (.goto (-39), 3) := by decide +kernel
theorem dXM_lookUp_61 : decode cXM_lookUp 61 = .ok (.aload_n 0, 1) := by decide +kernel
theorem dXM_lookUp_62 : decode cXM_lookUp 62 = .ok (.getfield 32, 3) := by decide +kernel
theorem dXM_lookUp_65 : decode cXM_lookUp 65 = .ok (.iload_n 1, 1) := by decide +kernel
theorem dXM_lookUp_66 : decode cXM_lookUp 66 = .ok (.iaload, 1) := by decide +kernel
theorem dXM_lookUp_67 : decode cXM_lookUp 67 = .ok (.ireturn, 1) := by decide +kernel
abbrev cXM_place : ByteArray := prog_9_method_11_code
abbrev yXM_place : MethodName := ⟨RXM, "place", "(I)V"⟩
abbrev wsXM_place : List Cond := .code yXM_place cXM_place 3 none :: sbT
theorem dXM_place_0 : decode cXM_place 0 = .ok (.aload_n 0, 1) := by decide +kernel
theorem dXM_place_1 : decode cXM_place 1 = .ok (.iload_n 1, 1) := by decide +kernel
theorem dXM_place_2 : decode cXM_place 2 = .ok (.invokevirtual 54, 3) := by decide +kernel
theorem dXM_place_5 : decode cXM_place 5 = .ok (.bipush 63, 2) := by decide +kernel
theorem dXM_place_7 : decode cXM_place 7 = .ok (.iand, 1) := by decide +kernel
theorem dXM_place_8 : decode cXM_place 8 = .ok (.istore_n 2, 1) := by decide +kernel
theorem dXM_place_9 : decode cXM_place 9 = .ok (.aload_n 0, 1) := by decide +kernel
theorem dXM_place_10 : decode cXM_place 10 = .ok (.getfield 32, 3) := by decide +kernel
theorem dXM_place_13 : decode cXM_place 13 = .ok (.iload_n 2, 1) := by decide +kernel
theorem dXM_place_14 : decode cXM_place 14 = .ok (.iaload, 1) := by decide +kernel
theorem dXM_place_15 : decode cXM_place 15 = .ok (.ifCond .lt 13, 3) := by decide +kernel
theorem dXM_place_18 : decode cXM_place 18 = .ok (.iload_n 2, 1) := by decide +kernel
theorem dXM_place_19 : decode cXM_place 19 = .ok (.iconst 1, 1) := by decide +kernel
theorem dXM_place_20 : decode cXM_place 20 = .ok (.iadd, 1) := by decide +kernel
theorem dXM_place_21 : decode cXM_place 21 = .ok (.bipush 64, 2) := by decide +kernel
theorem dXM_place_23 : decode cXM_place 23 = .ok (.irem, 1) := by decide +kernel
theorem dXM_place_24 : decode cXM_place 24 = .ok (.istore_n 2, 1) := by decide +kernel
theorem dXM_place_25 : decode cXM_place 25 = .ok (.goto (-16), 3) := by decide +kernel
theorem dXM_place_28 : decode cXM_place 28 = .ok (.aload_n 0, 1) := by decide +kernel
theorem dXM_place_29 : decode cXM_place 29 = .ok (.getfield 32, 3) := by decide +kernel
theorem dXM_place_32 : decode cXM_place 32 = .ok (.iload_n 2, 1) := by decide +kernel
theorem dXM_place_33 : decode cXM_place 33 = .ok (.iload_n 1, 1) := by decide +kernel
theorem dXM_place_34 : decode cXM_place 34 = .ok (.iastore, 1) := by decide +kernel
theorem dXM_place_35 : decode cXM_place 35 = .ok (.return_, 1) := by decide +kernel
abbrev cXM_putIn : ByteArray := prog_9_method_12_code
abbrev yXM_putIn : MethodName := ⟨RXM, "putIn", "(I)V"⟩
abbrev wsXM_putIn : List Cond := .code yXM_putIn cXM_putIn 3 none :: sbT
theorem dXM_putIn_0 : decode cXM_putIn 0 = .ok (.aload_n 0, 1) := by decide +kernel
theorem dXM_putIn_1 : decode cXM_putIn 1 = .ok (.iload_n 1, 1) := by decide +kernel
theorem dXM_putIn_2 : decode cXM_putIn 2 = .ok (.invokevirtual 64, 3) := by decide +kernel
theorem dXM_putIn_5 : decode cXM_putIn 5 = .ok (.iconst 0, 1) := by decide +kernel
theorem dXM_putIn_6 : decode cXM_putIn 6 = .ok (.istore_n 2, 1) := by decide +kernel
theorem dXM_putIn_7 : decode cXM_putIn 7 = .ok (.iload_n 2, 1) := by decide +kernel
theorem dXM_putIn_8 : decode cXM_putIn 8 = .ok (.iconst 3, 1) := by decide +kernel
theorem dXM_putIn_9 : decode cXM_putIn 9 = .ok (.if_icmp .ge 21, 3) := by decide +kernel
theorem dXM_putIn_12 : decode cXM_putIn 12 = .ok (.aload_n 0, 1) := by decide +kernel
theorem dXM_putIn_13 : decode cXM_putIn 13 = .ok (.getfield 35, 3) := by decide +kernel
theorem dXM_putIn_16 : decode cXM_putIn 16 = .ok (.aload_n 0, 1) := by decide +kernel
theorem dXM_putIn_17 : decode cXM_putIn 17 = .ok (.iload_n 1, 1) := by decide +kernel
theorem dXM_putIn_18 : decode cXM_putIn 18 = .ok (.iload_n 2, 1) := by decide +kernel
theorem dXM_putIn_19 : decode cXM_putIn 19 = .ok (.invokevirtual 68, 3) := by decide +kernel
theorem dXM_putIn_22 : decode cXM_putIn 22 = .ok (.iconst 1, 1) := by decide +kernel
theorem dXM_putIn_23 : decode cXM_putIn 23 = .ok (.bastore, 1) := by decide +kernel
theorem dXM_putIn_24 : decode cXM_putIn 24 = .ok (.iinc 2 1, 3) := by decide +kernel
theorem dXM_putIn_27 : decode cXM_putIn 27 = .ok (.goto (-20), 3) := by decide +kernel
theorem dXM_putIn_30 : decode cXM_putIn 30 = .ok (.return_, 1) := by decide +kernel
theorem wd_552 : Cond.fieldLink RXM 39 RXM "fault" "I" ∈ sbT := sb_in 552 (by decide +kernel) rfl
theorem wd_553 : Cond.fieldLink RXM 42 RXM "isDown" "Z" ∈ sbT := sb_in 553 (by decide +kernel) rfl
theorem wd_561 : Cond.fieldLink RXM 23 RXM "rows" "[I" ∈ sbT := sb_in 561 (by decide +kernel) rfl
theorem wd_560 : Cond.fieldLink RXM 20 RXM "row" "[I" ∈ sbT := sb_in 560 (by decide +kernel) rfl
theorem wd_654 : Cond.methodLink RXM 46 yXM_isHeld ∈ sbT := sb_in 654 (by decide +kernel) rfl
theorem wd_656 : Cond.instanceMethod yXM_isHeld ∈ sbT := sb_in 656 (by decide +kernel) rfl
theorem ws_XM_isHeld : Cond.selects RXM yXM_isHeld yXM_isHeld ∈ sbT := sb_sel (q := (yXM_isHeld, 15)) 22 (by decide +kernel)
theorem wd_8 : Cond.initialized RXM ∈ sbT := sb_in 8 (by decide +kernel) rfl
theorem wd_657 : Cond.code yXM_isHeld cXM_isHeld 5 (some .boolean) ∈ sbT := sb_in 657 (by decide +kernel) rfl
theorem wd_563 : Cond.fieldLink RXM 29 RXM "savedRows" "[I" ∈ sbT := sb_in 563 (by decide +kernel) rfl
theorem wd_562 : Cond.fieldLink RXM 26 RXM "savedRow" "[I" ∈ sbT := sb_in 562 (by decide +kernel) rfl
theorem wd_558 : Cond.fieldLink RXM 13 RXM "stage" "[I" ∈ sbT := sb_in 558 (by decide +kernel) rfl
theorem wd_559 : Cond.fieldLink RXM 17 RXM "content" "[I" ∈ sbT := sb_in 559 (by decide +kernel) rfl
theorem wd_638 : Cond.methodLink RXM 50 yXM_wordOf ∈ sbT := sb_in 638 (by decide +kernel) rfl
theorem wd_640 : Cond.instanceMethod yXM_wordOf ∈ sbT := sb_in 640 (by decide +kernel) rfl
theorem ws_XM_wordOf : Cond.selects RXM yXM_wordOf yXM_wordOf ∈ sbT := sb_sel (q := (yXM_wordOf, 15)) 18 (by decide +kernel)
theorem wd_641 : Cond.code yXM_wordOf cXM_wordOf 3 (some .int) ∈ sbT := sb_in 641 (by decide +kernel) rfl
theorem wd_634 : Cond.methodLink RXM 54 yXM_print ∈ sbT := sb_in 634 (by decide +kernel) rfl
theorem wd_636 : Cond.instanceMethod yXM_print ∈ sbT := sb_in 636 (by decide +kernel) rfl
theorem ws_XM_print : Cond.selects RXM yXM_print yXM_print ∈ sbT := sb_sel (q := (yXM_print, 15)) 17 (by decide +kernel)
theorem wd_637 : Cond.code yXM_print cXM_print 4 (some .int) ∈ sbT := sb_in 637 (by decide +kernel) rfl
theorem wd_556 : Cond.fieldLink RXM 58 RXM "probes" "I" ∈ sbT := sb_in 556 (by decide +kernel) rfl
theorem wd_565 : Cond.fieldLink RXM 32 RXM "cells" "[I" ∈ sbT := sb_in 565 (by decide +kernel) rfl
theorem wd_646 : Cond.methodLink RXM 61 yXM_isSame ∈ sbT := sb_in 646 (by decide +kernel) rfl
theorem wd_648 : Cond.instanceMethod yXM_isSame ∈ sbT := sb_in 648 (by decide +kernel) rfl
theorem ws_XM_isSame : Cond.selects RXM yXM_isSame yXM_isSame ∈ sbT := sb_sel (q := (yXM_isSame, 15)) 20 (by decide +kernel)
theorem wd_649 : Cond.code yXM_isSame cXM_isSame 4 (some .boolean) ∈ sbT := sb_in 649 (by decide +kernel) rfl
theorem wd_666 : Cond.methodLink RXM 64 yXM_place ∈ sbT := sb_in 666 (by decide +kernel) rfl
theorem wd_668 : Cond.instanceMethod yXM_place ∈ sbT := sb_in 668 (by decide +kernel) rfl
theorem ws_XM_place : Cond.selects RXM yXM_place yXM_place ∈ sbT := sb_sel (q := (yXM_place, 15)) 25 (by decide +kernel)
theorem wd_669 : Cond.code yXM_place cXM_place 3 none ∈ sbT := sb_in 669 (by decide +kernel) rfl
theorem wd_566 : Cond.fieldLink RXM 35 RXM "gate" "[Z" ∈ sbT := sb_in 566 (by decide +kernel) rfl
theorem wd_630 : Cond.methodLink RXM 68 yXM_gateBit ∈ sbT := sb_in 630 (by decide +kernel) rfl
theorem wd_632 : Cond.instanceMethod yXM_gateBit ∈ sbT := sb_in 632 (by decide +kernel) rfl
theorem ws_XM_gateBit : Cond.selects RXM yXM_gateBit yXM_gateBit ∈ sbT := sb_sel (q := (yXM_gateBit, 15)) 16 (by decide +kernel)
theorem wd_633 : Cond.code yXM_gateBit cXM_gateBit 5 (some .int) ∈ sbT := sb_in 633 (by decide +kernel) rfl
set_option maxRecDepth 100000 in
set_option maxHeartbeats 4000000 in
theorem c_XM_thrown (l : Launch) (D : va_G) (ta : ClassId × ClassId × ClassId) (q0 : Nat) (q1 : Nat) (q2 : Nat) (q3 : Nat) (q4 : Nat) (q5 : Nat) (q6 : Nat) (q7 : Nat) (q8 : Nat) (flt : Int32) (dn : Bool) (left : Int32) (wr : Int32) (pr : Int32) (sg : Nat) (num : Int32)  : sr l yXM_thrown wsXM_thrown ({ frames := 0, cells := 0, slots := 0, locals := 0 }) D ta [.ref q0] [(q0, .inr (6, [.int flt, .int (sp_b dn), .int left, .int wr, .int pr, .int (nI sg), .ref q1, .ref q2, .ref q3, .ref q4, .ref q5, .ref q6, .int num, .ref q7, .ref q8]))] (some (.int flt)) := by
  refine sr_ofW (y := yXM_thrown) (cc := cXM_thrown) (nL := 1) (ret := (some .int)) (by decide) (Nat.le_of_ble_eq_true rfl) (fun p e s m below meth c G hr hlk hnm => ?_)
  refine sw_eq (ws' := [(q0, .inr (6, [.int flt, .int (sp_b dn), .int left, .int wr, .int pr, .int (nI sg), .ref q1, .ref q2, .ref q3, .ref q4, .ref q5, .ref q6, .int num, .ref q7, .ref q8]))]) (lv2 := [(0, .ref q0)]) (pc2 := 0) (st2 := []) rfl ?_
  refine sw_aload_n G dXM_thrown_0 rfl 0 rfl ?_
  refine sw_get (C := RXM) (T := TXM) (ref := RXM) (N := 15) G inXM 0 rfl rfl 0 (by decide) wd_552 rfl rfl dXM_thrown_1 ?_
  exact sr_iret (x := flt) G hr hlk (rfl) dXM_thrown_4

set_option maxRecDepth 100000 in
set_option maxHeartbeats 4000000 in
theorem c_XM_refusedD (l : Launch) (D : va_G) (ta : ClassId × ClassId × ClassId) (q0 : Nat) (q1 : Nat) (q2 : Nat) (q3 : Nat) (q4 : Nat) (q5 : Nat) (q6 : Nat) (q7 : Nat) (q8 : Nat) (flt : Int32) (dn : Bool) (left : Int32) (wr : Int32) (pr : Int32) (sg : Nat) (num : Int32) (xx : Int32) (hd : dn = true) : sm (S := Unit) l yXM_refused wsXM_refused ({ frames := 0, cells := 0, slots := 0, locals := 0 }) D ta [.ref q0, .int xx] [(q0, .inr (6, [.int flt, .int (sp_b dn), .int left, .int wr, .int pr, .int (nI sg), .ref q1, .ref q2, .ref q3, .ref q4, .ref q5, .ref q6, .int num, .ref q7, .ref q8]))] (fun _ => True) (fun _ => some (.int (nI 1))) (fun _ => [(q0, .inr (6, [.int (nI 1), .int (sp_b dn), .int left, .int wr, .int pr, .int (nI sg), .ref q1, .ref q2, .ref q3, .ref q4, .ref q5, .ref q6, .int num, .ref q7, .ref q8]))]) := by
  refine sm_ofW (y := yXM_refused) (cc := cXM_refused) (nL := 2) (ret := (some .boolean)) (by decide) (Nat.le_of_ble_eq_true rfl) (fun p e s m below meth c G hr hlk hnm => ?_)
  refine sw_eq (ws' := [(q0, .inr (6, [.int flt, .int (sp_b dn), .int left, .int wr, .int pr, .int (nI sg), .ref q1, .ref q2, .ref q3, .ref q4, .ref q5, .ref q6, .int num, .ref q7, .ref q8]))]) (lv2 := [(0, .ref q0), (1, .int xx)]) (pc2 := 0) (st2 := []) rfl ?_
  refine sw_aload_n G dXM_refused_0 rfl 0 rfl ?_
  refine sw_aload_n G dXM_refused_1 rfl 0 rfl ?_
  refine sw_get (C := RXM) (T := TXM) (ref := RXM) (N := 15) G inXM 0 rfl rfl 1 (by decide) wd_553 rfl rfl dXM_refused_2 ?_
  refine sw_if_eq (x := sp_b dn) (tgt := 12) G dXM_refused_5 (by decide) (fun br5 => ?_) (fun br5 => ?_)
  · rw [hd] at br5; exact absurd br5 (by decide)
  · refine sw_iconst (v := nI 1) G dXM_refused_8 (by decide) ?_
    refine sw_goto (tgt := 13) G dXM_refused_9 (by decide) ?_
    refine sw_put (ty := .int) (v := .int (nI 1)) (C := RXM) (T := TXM) (ref := RXM) (N := 15) G inXM tyXM tyXM_ok nmXM 0 rfl rfl 0 (by decide) wd_552 rfl rfl (by decide +kernel) (rfl) (rfl) (Nat.le_of_ble_eq_true rfl) dXM_refused_13 (fs' := [.int (nI 1), .int (sp_b dn), .int left, .int wr, .int pr, .int (nI sg), .ref q1, .ref q2, .ref q3, .ref q4, .ref q5, .ref q6, .int num, .ref q7, .ref q8]) rfl (ws' := [(q0, .inr (6, [.int (nI 1), .int (sp_b dn), .int left, .int wr, .int pr, .int (nI sg), .ref q1, .ref q2, .ref q3, .ref q4, .ref q5, .ref q6, .int num, .ref q7, .ref q8]))]) rfl ?_
    refine sw_aload_n G dXM_refused_16 rfl 0 rfl ?_
    refine sw_get (C := RXM) (T := TXM) (ref := RXM) (N := 15) G inXM 0 rfl rfl 0 (by decide) wd_552 rfl rfl dXM_refused_17 ?_
    refine sw_if_le (x := nI 1) (tgt := 27) G dXM_refused_20 (by decide) (fun br20 => ?_) (fun br20 => ?_)
    · exact absurd br20 (by decide)
    · refine sw_iconst (v := nI 1) G dXM_refused_23 (by decide) ?_
      refine sw_goto (tgt := 28) G dXM_refused_24 (by decide) ?_
      exact sw_zret (x := nI 1) G hr hlk () trivial (rfl) (rfl) [0] (by decide) rfl rfl dXM_refused_28

set_option maxRecDepth 100000 in
set_option maxHeartbeats 4000000 in
theorem c_XM_refused0 (l : Launch) (D : va_G) (ta : ClassId × ClassId × ClassId) (q0 : Nat) (q1 : Nat) (q2 : Nat) (q3 : Nat) (q4 : Nat) (q5 : Nat) (q6 : Nat) (q7 : Nat) (q8 : Nat) (flt : Int32) (dn : Bool) (left : Int32) (wr : Int32) (pr : Int32) (sg : Nat) (num : Int32) (hd : dn = false) : sm (S := Unit) l yXM_refused wsXM_refused ({ frames := 0, cells := 0, slots := 0, locals := 0 }) D ta [.ref q0, .int (nI 0)] [(q0, .inr (6, [.int flt, .int (sp_b dn), .int left, .int wr, .int pr, .int (nI sg), .ref q1, .ref q2, .ref q3, .ref q4, .ref q5, .ref q6, .int num, .ref q7, .ref q8]))] (fun _ => True) (fun _ => some (.int (nI 0))) (fun _ => [(q0, .inr (6, [.int (nI 0), .int (sp_b dn), .int left, .int wr, .int pr, .int (nI sg), .ref q1, .ref q2, .ref q3, .ref q4, .ref q5, .ref q6, .int num, .ref q7, .ref q8]))]) := by
  refine sm_ofW (y := yXM_refused) (cc := cXM_refused) (nL := 2) (ret := (some .boolean)) (by decide) (Nat.le_of_ble_eq_true rfl) (fun p e s m below meth c G hr hlk hnm => ?_)
  refine sw_eq (ws' := [(q0, .inr (6, [.int flt, .int (sp_b dn), .int left, .int wr, .int pr, .int (nI sg), .ref q1, .ref q2, .ref q3, .ref q4, .ref q5, .ref q6, .int num, .ref q7, .ref q8]))]) (lv2 := [(0, .ref q0), (1, .int (nI 0))]) (pc2 := 0) (st2 := []) rfl ?_
  refine sw_aload_n G dXM_refused_0 rfl 0 rfl ?_
  refine sw_aload_n G dXM_refused_1 rfl 0 rfl ?_
  refine sw_get (C := RXM) (T := TXM) (ref := RXM) (N := 15) G inXM 0 rfl rfl 1 (by decide) wd_553 rfl rfl dXM_refused_2 ?_
  refine sw_if_eq (x := sp_b dn) (tgt := 12) G dXM_refused_5 (by decide) (fun br5 => ?_) (fun br5 => ?_)
  · refine sw_iload_n G dXM_refused_12 rfl 1 rfl ?_
    refine sw_put (ty := .int) (v := .int (nI 0)) (C := RXM) (T := TXM) (ref := RXM) (N := 15) G inXM tyXM tyXM_ok nmXM 0 rfl rfl 0 (by decide) wd_552 rfl rfl (by decide +kernel) (rfl) (rfl) (Nat.le_of_ble_eq_true rfl) dXM_refused_13 (fs' := [.int (nI 0), .int (sp_b dn), .int left, .int wr, .int pr, .int (nI sg), .ref q1, .ref q2, .ref q3, .ref q4, .ref q5, .ref q6, .int num, .ref q7, .ref q8]) rfl (ws' := [(q0, .inr (6, [.int (nI 0), .int (sp_b dn), .int left, .int wr, .int pr, .int (nI sg), .ref q1, .ref q2, .ref q3, .ref q4, .ref q5, .ref q6, .int num, .ref q7, .ref q8]))]) rfl ?_
    refine sw_aload_n G dXM_refused_16 rfl 0 rfl ?_
    refine sw_get (C := RXM) (T := TXM) (ref := RXM) (N := 15) G inXM 0 rfl rfl 0 (by decide) wd_552 rfl rfl dXM_refused_17 ?_
    refine sw_if_le (x := nI 0) (tgt := 27) G dXM_refused_20 (by decide) (fun br20 => ?_) (fun br20 => ?_)
    · refine sw_iconst (v := nI 0) G dXM_refused_27 (by decide) ?_
      exact sw_zret (x := nI 0) G hr hlk () trivial (rfl) (rfl) [0] (by decide) rfl rfl dXM_refused_28
    · exact absurd (by decide) br20
  · rw [hd] at br5; exact absurd (by decide) br5

set_option maxRecDepth 100000 in
set_option maxHeartbeats 4000000 in
theorem c_XM_refusedX (l : Launch) (D : va_G) (ta : ClassId × ClassId × ClassId) (q0 : Nat) (q1 : Nat) (q2 : Nat) (q3 : Nat) (q4 : Nat) (q5 : Nat) (q6 : Nat) (q7 : Nat) (q8 : Nat) (flt : Int32) (dn : Bool) (left : Int32) (wr : Int32) (pr : Int32) (sg : Nat) (num : Int32) (xx : Nat) (hd : dn = false) (hx : 0 < xx) (hx2 : xx < 2 ^ 31) : sm (S := Unit) l yXM_refused wsXM_refused ({ frames := 0, cells := 0, slots := 0, locals := 0 }) D ta [.ref q0, .int (nI xx)] [(q0, .inr (6, [.int flt, .int (sp_b dn), .int left, .int wr, .int pr, .int (nI sg), .ref q1, .ref q2, .ref q3, .ref q4, .ref q5, .ref q6, .int num, .ref q7, .ref q8]))] (fun _ => True) (fun _ => some (.int (nI 1))) (fun _ => [(q0, .inr (6, [.int (nI xx), .int (sp_b dn), .int left, .int wr, .int pr, .int (nI sg), .ref q1, .ref q2, .ref q3, .ref q4, .ref q5, .ref q6, .int num, .ref q7, .ref q8]))]) := by
  refine sm_ofW (y := yXM_refused) (cc := cXM_refused) (nL := 2) (ret := (some .boolean)) (by decide) (Nat.le_of_ble_eq_true rfl) (fun p e s m below meth c G hr hlk hnm => ?_)
  refine sw_eq (ws' := [(q0, .inr (6, [.int flt, .int (sp_b dn), .int left, .int wr, .int pr, .int (nI sg), .ref q1, .ref q2, .ref q3, .ref q4, .ref q5, .ref q6, .int num, .ref q7, .ref q8]))]) (lv2 := [(0, .ref q0), (1, .int (nI xx))]) (pc2 := 0) (st2 := []) rfl ?_
  refine sw_aload_n G dXM_refused_0 rfl 0 rfl ?_
  refine sw_aload_n G dXM_refused_1 rfl 0 rfl ?_
  refine sw_get (C := RXM) (T := TXM) (ref := RXM) (N := 15) G inXM 0 rfl rfl 1 (by decide) wd_553 rfl rfl dXM_refused_2 ?_
  refine sw_if_eq (x := sp_b dn) (tgt := 12) G dXM_refused_5 (by decide) (fun br5 => ?_) (fun br5 => ?_)
  · refine sw_iload_n G dXM_refused_12 rfl 1 rfl ?_
    refine sw_put (ty := .int) (v := .int (nI xx)) (C := RXM) (T := TXM) (ref := RXM) (N := 15) G inXM tyXM tyXM_ok nmXM 0 rfl rfl 0 (by decide) wd_552 rfl rfl (by decide +kernel) (rfl) (rfl) (Nat.le_of_ble_eq_true rfl) dXM_refused_13 (fs' := [.int (nI xx), .int (sp_b dn), .int left, .int wr, .int pr, .int (nI sg), .ref q1, .ref q2, .ref q3, .ref q4, .ref q5, .ref q6, .int num, .ref q7, .ref q8]) rfl (ws' := [(q0, .inr (6, [.int (nI xx), .int (sp_b dn), .int left, .int wr, .int pr, .int (nI sg), .ref q1, .ref q2, .ref q3, .ref q4, .ref q5, .ref q6, .int num, .ref q7, .ref q8]))]) rfl ?_
    refine sw_aload_n G dXM_refused_16 rfl 0 rfl ?_
    refine sw_get (C := RXM) (T := TXM) (ref := RXM) (N := 15) G inXM 0 rfl rfl 0 (by decide) wd_552 rfl rfl dXM_refused_17 ?_
    refine sw_if_le (x := nI xx) (tgt := 27) G dXM_refused_20 (by decide) (fun br20 => ?_) (fun br20 => ?_)
    · exact absurd br20 (nI_nle hx hx2)
    · refine sw_iconst (v := nI 1) G dXM_refused_23 (by decide) ?_
      refine sw_goto (tgt := 28) G dXM_refused_24 (by decide) ?_
      exact sw_zret (x := nI 1) G hr hlk () trivial (rfl) (rfl) [0] (by decide) rfl rfl dXM_refused_28
  · rw [hd] at br5; exact absurd (by decide) br5

set_option maxRecDepth 100000 in
set_option maxHeartbeats 4000000 in
theorem c_XM_isHeld (l : Launch) (D : va_G) (ta : ClassId × ClassId × ClassId) (q0 : Nat) (q1 : Nat) (q2 : Nat) (q3 : Nat) (q4 : Nat) (q5 : Nat) (q6 : Nat) (q7 : Nat) (q8 : Nat) (flt : Int32) (dn : Bool) (left : Int32) (wr : Int32) (pr : Int32) (sg : Nat) (ent : Nat → Nat) (len : Nat → Nat) (num : Int32) (b : Nat) (hb : b < 40) (hl : ∀ f, f < 6 → len f ≤ 12) (he : ∀ f, f < 6 → ∀ k, k < len f → ent (12 * f + k) < 40) : sr l yXM_isHeld wsXM_isHeld ({ frames := 0, cells := 0, slots := 0, locals := 0 }) D ta [.ref q0, .int (nI b)] [(q0, .inr (6, [.int flt, .int (sp_b dn), .int left, .int wr, .int pr, .int (nI sg), .ref q1, .ref q2, .ref q3, .ref q4, .ref q5, .ref q6, .int num, .ref q7, .ref q8])), (q3, .inl (ta.1, 72, .inl (fun jx => nI (ent jx)))), (q4, .inl (ta.1, 6, .inl (fun jx => nI (len jx))))] (some (.int (sp_b (mh_b len ent b)))) := by
  refine sr_ofW (y := yXM_isHeld) (cc := cXM_isHeld) (nL := 5) (ret := (some .boolean)) (by decide) (Nat.le_of_ble_eq_true rfl) (fun p e s m below meth c G hr hlk hnm => ?_)
  refine sw_eq (ws' := [(q0, .inr (6, [.int flt, .int (sp_b dn), .int left, .int wr, .int pr, .int (nI sg), .ref q1, .ref q2, .ref q3, .ref q4, .ref q5, .ref q6, .int num, .ref q7, .ref q8])), (q3, .inl (ta.1, 72, .inl (fun jx => nI (ent jx)))), (q4, .inl (ta.1, 6, .inl (fun jx => nI (len jx))))]) (lv2 := [(0, .ref q0), (1, .int (nI b))]) (pc2 := 0) (st2 := []) rfl ?_
  refine sw_iconst (v := nI 0) G dXM_isHeld_0 (by decide) ?_
  refine sw_istore_n G dXM_isHeld_1 rfl (by decide) (lv' := [(2, .int (nI 0)), (0, .ref q0), (1, .int (nI b))]) rfl ?_
  refine sw_iconst (v := nI 0) G dXM_isHeld_2 (by decide) ?_
  refine sw_istore_n G dXM_isHeld_3 rfl (by decide) (lv' := [(3, .int (nI 0)), (2, .int (nI 0)), (0, .ref q0), (1, .int (nI b))]) rfl ?_
  refine sw_lv [2, 3, 1, 0] (lv' := [(0, .ref q0), (1, .int (nI b)), (2, .int (nI 0)), (3, .int (nI 0))]) rfl ?_
  have L4 : ∀ (NN : Nat) (f : Nat), 6 - f < NN → (f ≤ 6) → sw p l e ({ frames := 0, cells := 0, slots := 0, locals := 0 }) s m ([.ref q0, .int (nI b)]).toArray below meth c 5 D (va_A [(q0, .inr (6, [.int flt, .int (sp_b dn), .int left, .int wr, .int pr, .int (nI sg), .ref q1, .ref q2, .ref q3, .ref q4, .ref q5, .ref q6, .int num, .ref q7, .ref q8])), (q3, .inl (ta.1, 72, .inl (fun jx => nI (ent jx)))), (q4, .inl (ta.1, 6, .inl (fun jx => nI (len jx))))] s.heap.size) (MQ below (fun _ st_ oc_ t_ => oc_ = .returned (some (.int (sp_b (mh_b len ent b)))) ∧ t_.heap = st_.heap) ([.ref q0, .int (nI b)]).toArray s 0 0 (fun _ => False)) true 0 0 [(q0, .inr (6, [.int flt, .int (sp_b dn), .int left, .int wr, .int pr, .int (nI sg), .ref q1, .ref q2, .ref q3, .ref q4, .ref q5, .ref q6, .int num, .ref q7, .ref q8])), (q3, .inl (ta.1, 72, .inl (fun jx => nI (ent jx)))), (q4, .inl (ta.1, 6, .inl (fun jx => nI (len jx))))] [(0, .ref q0), (1, .int (nI b)), (2, .int (sp_b (hdf len ent b false f))), (3, .int (nI f))] 4 [] := by
    intro NN
    induction NN with
    | zero => intro f hNN; exact absurd hNN (Nat.not_lt_zero _)
    | succ NN ih4 =>
      intro f hNN hf
      refine sw_iload_n G dXM_isHeld_4 rfl 3 rfl ?_
      refine sw_bipush (v := nI 6) G dXM_isHeld_5 (by decide) ?_
      refine sw_icmpN_ge (a := f) (b := 6) (tgt := 62) G dXM_isHeld_7 (by decide) (by omega) (by omega) (fun br7 => ?_) (fun br7 => ?_)
      · refine sw_iload_n G dXM_isHeld_62 rfl 2 rfl ?_
        exact sr_zret (x := sp_b (hdf len ent b false f)) G hr hlk (by rw [show f = 6 by omega] <;> rfl) (sp_b_nar _) dXM_isHeld_63
      · refine sw_iconst (v := nI 0) G dXM_isHeld_10 (by decide) ?_
        refine sw_istore G dXM_isHeld_11 (by decide) (lv' := [(4, .int (nI 0)), (0, .ref q0), (1, .int (nI b)), (2, .int (sp_b (hdf len ent b false f))), (3, .int (nI f))]) rfl ?_
        refine sw_lv [1, 2, 3, 4, 0] (lv' := [(0, .ref q0), (1, .int (nI b)), (2, .int (sp_b (hdf len ent b false f))), (3, .int (nI f)), (4, .int (nI 0))]) rfl ?_
        have L13 : ∀ (NN : Nat) (k : Nat), len f - k < NN → (k ≤ len f) → sw p l e ({ frames := 0, cells := 0, slots := 0, locals := 0 }) s m ([.ref q0, .int (nI b)]).toArray below meth c 5 D (va_A [(q0, .inr (6, [.int flt, .int (sp_b dn), .int left, .int wr, .int pr, .int (nI sg), .ref q1, .ref q2, .ref q3, .ref q4, .ref q5, .ref q6, .int num, .ref q7, .ref q8])), (q3, .inl (ta.1, 72, .inl (fun jx => nI (ent jx)))), (q4, .inl (ta.1, 6, .inl (fun jx => nI (len jx))))] s.heap.size) (MQ below (fun _ st_ oc_ t_ => oc_ = .returned (some (.int (sp_b (mh_b len ent b)))) ∧ t_.heap = st_.heap) ([.ref q0, .int (nI b)]).toArray s 0 0 (fun _ => False)) true 0 0 [(q0, .inr (6, [.int flt, .int (sp_b dn), .int left, .int wr, .int pr, .int (nI sg), .ref q1, .ref q2, .ref q3, .ref q4, .ref q5, .ref q6, .int num, .ref q7, .ref q8])), (q3, .inl (ta.1, 72, .inl (fun jx => nI (ent jx)))), (q4, .inl (ta.1, 6, .inl (fun jx => nI (len jx))))] [(0, .ref q0), (1, .int (nI b)), (2, .int (sp_b (hd1 ent b f (hdf len ent b false f) k))), (3, .int (nI f)), (4, .int (nI k))] 13 [] := by
          intro NN
          induction NN with
          | zero => intro k hNN; exact absurd hNN (Nat.not_lt_zero _)
          | succ NN ih13 =>
            intro k hNN hk
            have hlf := hl f br7
            refine sw_iload G dXM_isHeld_13 4 rfl ?_
            refine sw_aload_n G dXM_isHeld_15 rfl 0 rfl ?_
            refine sw_get (C := RXM) (T := TXM) (ref := RXM) (N := 15) G inXM 0 rfl rfl 9 (by decide) wd_561 rfl rfl dXM_isHeld_16 ?_
            refine sw_iload_n G dXM_isHeld_19 rfl 3 rfl ?_
            refine sw_ialdN (j := f) (v := nI (len f)) G 2 rfl (by omega) (by decide) (rfl) dXM_isHeld_20 ?_
            refine sw_icmpN_ge (a := k) (b := len f) (tgt := 56) G dXM_isHeld_21 (by decide) (by omega) (by omega) (fun br21 => ?_) (fun br21 => ?_)
            · refine sw_iinc (x := nI f) (v := nI (f + 1)) G dXM_isHeld_56 (q := 3) rfl (sp_inc _) (by decide) (lv' := [(3, .int (nI (f + 1))), (0, .ref q0), (1, .int (nI b)), (2, .int (sp_b (hd1 ent b f (hdf len ent b false f) k))), (4, .int (nI k))]) rfl ?_
              refine sw_goto (tgt := 4) G dXM_isHeld_59 (by decide) ?_
              refine sw_lv [1, 2, 3, 0] (lv' := [(0, .ref q0), (1, .int (nI b)), (2, .int (sp_b (hd1 ent b f (hdf len ent b false f) k))), (3, .int (nI (f + 1)))]) rfl ?_
              refine sw_eq (ws' := [(q0, .inr (6, [.int flt, .int (sp_b dn), .int left, .int wr, .int pr, .int (nI sg), .ref q1, .ref q2, .ref q3, .ref q4, .ref q5, .ref q6, .int num, .ref q7, .ref q8])), (q3, .inl (ta.1, 72, .inl (fun jx => nI (ent jx)))), (q4, .inl (ta.1, 6, .inl (fun jx => nI (len jx))))]) (lv2 := [(0, .ref q0), (1, .int (nI b)), (2, .int (sp_b (hdf len ent b false (f + 1)))), (3, .int (nI (f + 1)))]) (pc2 := 4) (st2 := []) (by rw [show k = len f by omega] <;> rfl) ?_
              exact ih4 (f + 1) (by omega) (by omega)
            · refine sw_iload_n G dXM_isHeld_24 rfl 2 rfl ?_
              refine sw_if_ne (x := sp_b (hd1 ent b f (hdf len ent b false f) k)) (tgt := 44) G dXM_isHeld_25 (by decide) (fun br25 => ?_) (fun br25 => ?_)
              · refine sw_iconst (v := nI 1) G dXM_isHeld_44 (by decide) ?_
                refine sw_goto (tgt := 49) G dXM_isHeld_45 (by decide) ?_
                refine sw_istore_n G dXM_isHeld_49 rfl (by decide) (lv' := [(2, .int (nI 1)), (0, .ref q0), (1, .int (nI b)), (3, .int (nI f)), (4, .int (nI k))]) rfl ?_
                refine sw_iinc (x := nI k) (v := nI (k + 1)) G dXM_isHeld_50 (q := 4) rfl (sp_inc _) (by decide) (lv' := [(4, .int (nI (k + 1))), (2, .int (nI 1)), (0, .ref q0), (1, .int (nI b)), (3, .int (nI f))]) rfl ?_
                refine sw_goto (tgt := 13) G dXM_isHeld_53 (by decide) ?_
                refine sw_lv [2, 3, 1, 4, 0] (lv' := [(0, .ref q0), (1, .int (nI b)), (2, .int (nI 1)), (3, .int (nI f)), (4, .int (nI (k + 1)))]) rfl ?_
                refine sw_eq (ws' := [(q0, .inr (6, [.int flt, .int (sp_b dn), .int left, .int wr, .int pr, .int (nI sg), .ref q1, .ref q2, .ref q3, .ref q4, .ref q5, .ref q6, .int num, .ref q7, .ref q8])), (q3, .inl (ta.1, 72, .inl (fun jx => nI (ent jx)))), (q4, .inl (ta.1, 6, .inl (fun jx => nI (len jx))))]) (lv2 := [(0, .ref q0), (1, .int (nI b)), (2, .int (sp_b (hd1 ent b f (hdf len ent b false f) (k + 1)))), (3, .int (nI f)), (4, .int (nI (k + 1)))]) (pc2 := 13) (st2 := []) (by rw [hd1_t ((sp_b_ne _).mp br25)] <;> rfl) ?_
                exact ih13 (k + 1) (by omega) (by omega)
              · have hek := he f br7 k br21
                refine sw_aload_n G dXM_isHeld_28 rfl 0 rfl ?_
                refine sw_get (C := RXM) (T := TXM) (ref := RXM) (N := 15) G inXM 0 rfl rfl 8 (by decide) wd_560 rfl rfl dXM_isHeld_29 ?_
                refine sw_bipush (v := nI 12) G dXM_isHeld_32 (by decide) ?_
                refine sw_iload_n G dXM_isHeld_34 rfl 3 rfl ?_
                refine sw_imul (x := nI 12) (y := nI f) (v := nI (12 * f)) G dXM_isHeld_35 (pk_mul _ _) ?_
                refine sw_iload G dXM_isHeld_36 4 rfl ?_
                refine sw_iadd (x := nI (12 * f)) (y := nI k) (v := nI ((12 * f) + k)) G dXM_isHeld_38 (sp_add _ _) ?_
                refine sw_ialdN (j := (12 * f) + k) (v := nI (ent ((12 * f) + k))) G 1 rfl (by omega) (by decide) (rfl) dXM_isHeld_39 ?_
                refine sw_iload_n G dXM_isHeld_40 rfl 1 rfl ?_
                refine sw_icmpN_ne (a := ent ((12 * f) + k)) (b := b) (tgt := 48) G dXM_isHeld_41 (by decide) (by omega) (by omega) (fun br41 => ?_) (fun br41 => ?_)
                · refine sw_iconst (v := nI 0) G dXM_isHeld_48 (by decide) ?_
                  refine sw_istore_n G dXM_isHeld_49 rfl (by decide) (lv' := [(2, .int (nI 0)), (0, .ref q0), (1, .int (nI b)), (3, .int (nI f)), (4, .int (nI k))]) rfl ?_
                  refine sw_iinc (x := nI k) (v := nI (k + 1)) G dXM_isHeld_50 (q := 4) rfl (sp_inc _) (by decide) (lv' := [(4, .int (nI (k + 1))), (2, .int (nI 0)), (0, .ref q0), (1, .int (nI b)), (3, .int (nI f))]) rfl ?_
                  refine sw_goto (tgt := 13) G dXM_isHeld_53 (by decide) ?_
                  refine sw_lv [2, 3, 1, 4, 0] (lv' := [(0, .ref q0), (1, .int (nI b)), (2, .int (nI 0)), (3, .int (nI f)), (4, .int (nI (k + 1)))]) rfl ?_
                  refine sw_eq (ws' := [(q0, .inr (6, [.int flt, .int (sp_b dn), .int left, .int wr, .int pr, .int (nI sg), .ref q1, .ref q2, .ref q3, .ref q4, .ref q5, .ref q6, .int num, .ref q7, .ref q8])), (q3, .inl (ta.1, 72, .inl (fun jx => nI (ent jx)))), (q4, .inl (ta.1, 6, .inl (fun jx => nI (len jx))))]) (lv2 := [(0, .ref q0), (1, .int (nI b)), (2, .int (sp_b (hd1 ent b f (hdf len ent b false f) (k + 1)))), (3, .int (nI f)), (4, .int (nI (k + 1)))]) (pc2 := 13) (st2 := []) (by rw [hd1_f ((sp_b_eq _).mp br25) br41] <;> rfl) ?_
                  exact ih13 (k + 1) (by omega) (by omega)
                · refine sw_iconst (v := nI 1) G dXM_isHeld_44 (by decide) ?_
                  refine sw_goto (tgt := 49) G dXM_isHeld_45 (by decide) ?_
                  refine sw_istore_n G dXM_isHeld_49 rfl (by decide) (lv' := [(2, .int (nI 1)), (0, .ref q0), (1, .int (nI b)), (3, .int (nI f)), (4, .int (nI k))]) rfl ?_
                  refine sw_iinc (x := nI k) (v := nI (k + 1)) G dXM_isHeld_50 (q := 4) rfl (sp_inc _) (by decide) (lv' := [(4, .int (nI (k + 1))), (2, .int (nI 1)), (0, .ref q0), (1, .int (nI b)), (3, .int (nI f))]) rfl ?_
                  refine sw_goto (tgt := 13) G dXM_isHeld_53 (by decide) ?_
                  refine sw_lv [2, 3, 1, 4, 0] (lv' := [(0, .ref q0), (1, .int (nI b)), (2, .int (nI 1)), (3, .int (nI f)), (4, .int (nI (k + 1)))]) rfl ?_
                  refine sw_eq (ws' := [(q0, .inr (6, [.int flt, .int (sp_b dn), .int left, .int wr, .int pr, .int (nI sg), .ref q1, .ref q2, .ref q3, .ref q4, .ref q5, .ref q6, .int num, .ref q7, .ref q8])), (q3, .inl (ta.1, 72, .inl (fun jx => nI (ent jx)))), (q4, .inl (ta.1, 6, .inl (fun jx => nI (len jx))))]) (lv2 := [(0, .ref q0), (1, .int (nI b)), (2, .int (sp_b (hd1 ent b f (hdf len ent b false f) (k + 1)))), (3, .int (nI f)), (4, .int (nI (k + 1)))]) (pc2 := 13) (st2 := []) (by rw [hd1_e br41] <;> rfl) ?_
                  exact ih13 (k + 1) (by omega) (by omega)
        exact L13 _ 0 (Nat.lt_succ_self _) (Nat.zero_le _)
  exact L4 _ 0 (Nat.lt_succ_self _) (Nat.zero_le _)

set_option maxRecDepth 100000 in
set_option maxHeartbeats 4000000 in
theorem c_XM_isUsed (l : Launch) (D : va_G) (ta : ClassId × ClassId × ClassId) (q0 : Nat) (q1 : Nat) (q2 : Nat) (q3 : Nat) (q4 : Nat) (q5 : Nat) (q6 : Nat) (q7 : Nat) (q8 : Nat) (flt : Int32) (dn : Bool) (left : Int32) (wr : Int32) (pr : Int32) (sg : Nat) (ent : Nat → Nat) (len : Nat → Nat) (ent1 : Nat → Nat) (len1 : Nat → Nat) (num : Int32) (b : Nat) (hb : b < 40) (hl : ∀ f, f < 6 → len f ≤ 12) (he : ∀ f, f < 6 → ∀ k, k < len f → ent (12 * f + k) < 40) (hl1 : ∀ f, f < 6 → len1 f ≤ 12) (he1 : ∀ f, f < 6 → ∀ k, k < len1 f → ent1 (12 * f + k) < 40) : sr l yXM_isUsed wsXM_isUsed ({ frames := 1, cells := 0, slots := 0, locals := 24 }) D ta [.ref q0, .int (nI b)] [(q0, .inr (6, [.int flt, .int (sp_b dn), .int left, .int wr, .int pr, .int (nI sg), .ref q1, .ref q2, .ref q3, .ref q4, .ref q5, .ref q6, .int num, .ref q7, .ref q8])), (q3, .inl (ta.1, 72, .inl (fun jx => nI (ent jx)))), (q4, .inl (ta.1, 6, .inl (fun jx => nI (len jx)))), (q5, .inl (ta.1, 72, .inl (fun jx => nI (ent1 jx)))), (q6, .inl (ta.1, 6, .inl (fun jx => nI (len1 jx))))] (some (.int (sp_b (mu_b len ent len1 ent1 b)))) := by
  refine sr_ofW (y := yXM_isUsed) (cc := cXM_isUsed) (nL := 5) (ret := (some .boolean)) (by decide) (Nat.le_of_ble_eq_true rfl) (fun p e s m below meth c G hr hlk hnm => ?_)
  refine sw_eq (ws' := [(q0, .inr (6, [.int flt, .int (sp_b dn), .int left, .int wr, .int pr, .int (nI sg), .ref q1, .ref q2, .ref q3, .ref q4, .ref q5, .ref q6, .int num, .ref q7, .ref q8])), (q3, .inl (ta.1, 72, .inl (fun jx => nI (ent jx)))), (q4, .inl (ta.1, 6, .inl (fun jx => nI (len jx)))), (q5, .inl (ta.1, 72, .inl (fun jx => nI (ent1 jx)))), (q6, .inl (ta.1, 6, .inl (fun jx => nI (len1 jx))))]) (lv2 := [(0, .ref q0), (1, .int (nI b))]) (pc2 := 0) (st2 := []) rfl ?_
  refine sw_aload_n G dXM_isUsed_0 rfl 0 rfl ?_
  refine sw_iload_n G dXM_isUsed_1 rfl 1 rfl ?_
  refine sw_readV (As := [.int (nI b)]) (rest := []) G (c_XM_isHeld l D ta q0 q1 q2 q3 q4 q5 q6 q7 q8 flt dn left wr pr sg ent len num b (by omega) (hl) (he)) (cwV 1 G.2.2.2.2.1 (sb_goodV wd_654 wd_656 ws_XM_isHeld wd_8 wd_657) rfl rfl rfl (by decide +kernel) ⟨Nat.le_of_ble_eq_true rfl, Nat.le_of_ble_eq_true rfl⟩) 0 6 rfl rfl rfl rfl (Nat.le_of_ble_eq_true rfl) dXM_isUsed_2 ⟨Nat.le_of_ble_eq_true rfl, Nat.le_of_ble_eq_true rfl⟩ [0, 1, 2] rfl (by decide) ?_
  refine sw_eq (ws' := [(q0, .inr (6, [.int flt, .int (sp_b dn), .int left, .int wr, .int pr, .int (nI sg), .ref q1, .ref q2, .ref q3, .ref q4, .ref q5, .ref q6, .int num, .ref q7, .ref q8])), (q3, .inl (ta.1, 72, .inl (fun jx => nI (ent jx)))), (q4, .inl (ta.1, 6, .inl (fun jx => nI (len jx)))), (q5, .inl (ta.1, 72, .inl (fun jx => nI (ent1 jx)))), (q6, .inl (ta.1, 6, .inl (fun jx => nI (len1 jx))))]) (lv2 := [(0, .ref q0), (1, .int (nI b))]) (pc2 := 5) (st2 := [.int (sp_b (mh_b len ent b))]) rfl ?_
  refine sw_istore_n G dXM_isUsed_5 rfl (by decide) (lv' := [(2, .int (sp_b (mh_b len ent b))), (0, .ref q0), (1, .int (nI b))]) rfl ?_
  refine sw_iconst (v := nI 0) G dXM_isUsed_6 (by decide) ?_
  refine sw_istore_n G dXM_isUsed_7 rfl (by decide) (lv' := [(3, .int (nI 0)), (2, .int (sp_b (mh_b len ent b))), (0, .ref q0), (1, .int (nI b))]) rfl ?_
  refine sw_lv [2, 3, 1, 0] (lv' := [(0, .ref q0), (1, .int (nI b)), (2, .int (sp_b (mh_b len ent b))), (3, .int (nI 0))]) rfl ?_
  have L8 : ∀ (NN : Nat) (f : Nat), 6 - f < NN → (f ≤ 6) → sw p l e ({ frames := 1, cells := 0, slots := 0, locals := 24 }) s m ([.ref q0, .int (nI b)]).toArray below meth c 5 D (va_A [(q0, .inr (6, [.int flt, .int (sp_b dn), .int left, .int wr, .int pr, .int (nI sg), .ref q1, .ref q2, .ref q3, .ref q4, .ref q5, .ref q6, .int num, .ref q7, .ref q8])), (q3, .inl (ta.1, 72, .inl (fun jx => nI (ent jx)))), (q4, .inl (ta.1, 6, .inl (fun jx => nI (len jx)))), (q5, .inl (ta.1, 72, .inl (fun jx => nI (ent1 jx)))), (q6, .inl (ta.1, 6, .inl (fun jx => nI (len1 jx))))] s.heap.size) (MQ below (fun _ st_ oc_ t_ => oc_ = .returned (some (.int (sp_b (mu_b len ent len1 ent1 b)))) ∧ t_.heap = st_.heap) ([.ref q0, .int (nI b)]).toArray s 0 0 (fun _ => False)) true 0 0 [(q0, .inr (6, [.int flt, .int (sp_b dn), .int left, .int wr, .int pr, .int (nI sg), .ref q1, .ref q2, .ref q3, .ref q4, .ref q5, .ref q6, .int num, .ref q7, .ref q8])), (q3, .inl (ta.1, 72, .inl (fun jx => nI (ent jx)))), (q4, .inl (ta.1, 6, .inl (fun jx => nI (len jx)))), (q5, .inl (ta.1, 72, .inl (fun jx => nI (ent1 jx)))), (q6, .inl (ta.1, 6, .inl (fun jx => nI (len1 jx))))] [(0, .ref q0), (1, .int (nI b)), (2, .int (sp_b (hdf len1 ent1 b (mh_b len ent b) f))), (3, .int (nI f))] 8 [] := by
    intro NN
    induction NN with
    | zero => intro f hNN; exact absurd hNN (Nat.not_lt_zero _)
    | succ NN ih8 =>
      intro f hNN hf
      refine sw_iload_n G dXM_isUsed_8 rfl 3 rfl ?_
      refine sw_bipush (v := nI 6) G dXM_isUsed_9 (by decide) ?_
      refine sw_icmpN_ge (a := f) (b := 6) (tgt := 66) G dXM_isUsed_11 (by decide) (by omega) (by omega) (fun br11 => ?_) (fun br11 => ?_)
      · refine sw_iload_n G dXM_isUsed_66 rfl 2 rfl ?_
        exact sr_zret (x := sp_b (hdf len1 ent1 b (mh_b len ent b) f)) G hr hlk (by rw [show f = 6 by omega] <;> rfl) (sp_b_nar _) dXM_isUsed_67
      · refine sw_iconst (v := nI 0) G dXM_isUsed_14 (by decide) ?_
        refine sw_istore G dXM_isUsed_15 (by decide) (lv' := [(4, .int (nI 0)), (0, .ref q0), (1, .int (nI b)), (2, .int (sp_b (hdf len1 ent1 b (mh_b len ent b) f))), (3, .int (nI f))]) rfl ?_
        refine sw_lv [1, 2, 3, 4, 0] (lv' := [(0, .ref q0), (1, .int (nI b)), (2, .int (sp_b (hdf len1 ent1 b (mh_b len ent b) f))), (3, .int (nI f)), (4, .int (nI 0))]) rfl ?_
        have L17 : ∀ (NN : Nat) (k : Nat), len1 f - k < NN → (k ≤ len1 f) → sw p l e ({ frames := 1, cells := 0, slots := 0, locals := 24 }) s m ([.ref q0, .int (nI b)]).toArray below meth c 5 D (va_A [(q0, .inr (6, [.int flt, .int (sp_b dn), .int left, .int wr, .int pr, .int (nI sg), .ref q1, .ref q2, .ref q3, .ref q4, .ref q5, .ref q6, .int num, .ref q7, .ref q8])), (q3, .inl (ta.1, 72, .inl (fun jx => nI (ent jx)))), (q4, .inl (ta.1, 6, .inl (fun jx => nI (len jx)))), (q5, .inl (ta.1, 72, .inl (fun jx => nI (ent1 jx)))), (q6, .inl (ta.1, 6, .inl (fun jx => nI (len1 jx))))] s.heap.size) (MQ below (fun _ st_ oc_ t_ => oc_ = .returned (some (.int (sp_b (mu_b len ent len1 ent1 b)))) ∧ t_.heap = st_.heap) ([.ref q0, .int (nI b)]).toArray s 0 0 (fun _ => False)) true 0 0 [(q0, .inr (6, [.int flt, .int (sp_b dn), .int left, .int wr, .int pr, .int (nI sg), .ref q1, .ref q2, .ref q3, .ref q4, .ref q5, .ref q6, .int num, .ref q7, .ref q8])), (q3, .inl (ta.1, 72, .inl (fun jx => nI (ent jx)))), (q4, .inl (ta.1, 6, .inl (fun jx => nI (len jx)))), (q5, .inl (ta.1, 72, .inl (fun jx => nI (ent1 jx)))), (q6, .inl (ta.1, 6, .inl (fun jx => nI (len1 jx))))] [(0, .ref q0), (1, .int (nI b)), (2, .int (sp_b (hd1 ent1 b f (hdf len1 ent1 b (mh_b len ent b) f) k))), (3, .int (nI f)), (4, .int (nI k))] 17 [] := by
          intro NN
          induction NN with
          | zero => intro k hNN; exact absurd hNN (Nat.not_lt_zero _)
          | succ NN ih17 =>
            intro k hNN hk
            have hlf := hl1 f br11
            refine sw_iload G dXM_isUsed_17 4 rfl ?_
            refine sw_aload_n G dXM_isUsed_19 rfl 0 rfl ?_
            refine sw_get (C := RXM) (T := TXM) (ref := RXM) (N := 15) G inXM 0 rfl rfl 11 (by decide) wd_563 rfl rfl dXM_isUsed_20 ?_
            refine sw_iload_n G dXM_isUsed_23 rfl 3 rfl ?_
            refine sw_ialdN (j := f) (v := nI (len1 f)) G 4 rfl (by omega) (by decide) (rfl) dXM_isUsed_24 ?_
            refine sw_icmpN_ge (a := k) (b := len1 f) (tgt := 60) G dXM_isUsed_25 (by decide) (by omega) (by omega) (fun br25 => ?_) (fun br25 => ?_)
            · refine sw_iinc (x := nI f) (v := nI (f + 1)) G dXM_isUsed_60 (q := 3) rfl (sp_inc _) (by decide) (lv' := [(3, .int (nI (f + 1))), (0, .ref q0), (1, .int (nI b)), (2, .int (sp_b (hd1 ent1 b f (hdf len1 ent1 b (mh_b len ent b) f) k))), (4, .int (nI k))]) rfl ?_
              refine sw_goto (tgt := 8) G dXM_isUsed_63 (by decide) ?_
              refine sw_lv [1, 2, 3, 0] (lv' := [(0, .ref q0), (1, .int (nI b)), (2, .int (sp_b (hd1 ent1 b f (hdf len1 ent1 b (mh_b len ent b) f) k))), (3, .int (nI (f + 1)))]) rfl ?_
              refine sw_eq (ws' := [(q0, .inr (6, [.int flt, .int (sp_b dn), .int left, .int wr, .int pr, .int (nI sg), .ref q1, .ref q2, .ref q3, .ref q4, .ref q5, .ref q6, .int num, .ref q7, .ref q8])), (q3, .inl (ta.1, 72, .inl (fun jx => nI (ent jx)))), (q4, .inl (ta.1, 6, .inl (fun jx => nI (len jx)))), (q5, .inl (ta.1, 72, .inl (fun jx => nI (ent1 jx)))), (q6, .inl (ta.1, 6, .inl (fun jx => nI (len1 jx))))]) (lv2 := [(0, .ref q0), (1, .int (nI b)), (2, .int (sp_b (hdf len1 ent1 b (mh_b len ent b) (f + 1)))), (3, .int (nI (f + 1)))]) (pc2 := 8) (st2 := []) (by rw [show k = len1 f by omega] <;> rfl) ?_
              exact ih8 (f + 1) (by omega) (by omega)
            · refine sw_iload_n G dXM_isUsed_28 rfl 2 rfl ?_
              refine sw_if_ne (x := sp_b (hd1 ent1 b f (hdf len1 ent1 b (mh_b len ent b) f) k)) (tgt := 48) G dXM_isUsed_29 (by decide) (fun br29 => ?_) (fun br29 => ?_)
              · refine sw_iconst (v := nI 1) G dXM_isUsed_48 (by decide) ?_
                refine sw_goto (tgt := 53) G dXM_isUsed_49 (by decide) ?_
                refine sw_istore_n G dXM_isUsed_53 rfl (by decide) (lv' := [(2, .int (nI 1)), (0, .ref q0), (1, .int (nI b)), (3, .int (nI f)), (4, .int (nI k))]) rfl ?_
                refine sw_iinc (x := nI k) (v := nI (k + 1)) G dXM_isUsed_54 (q := 4) rfl (sp_inc _) (by decide) (lv' := [(4, .int (nI (k + 1))), (2, .int (nI 1)), (0, .ref q0), (1, .int (nI b)), (3, .int (nI f))]) rfl ?_
                refine sw_goto (tgt := 17) G dXM_isUsed_57 (by decide) ?_
                refine sw_lv [2, 3, 1, 4, 0] (lv' := [(0, .ref q0), (1, .int (nI b)), (2, .int (nI 1)), (3, .int (nI f)), (4, .int (nI (k + 1)))]) rfl ?_
                refine sw_eq (ws' := [(q0, .inr (6, [.int flt, .int (sp_b dn), .int left, .int wr, .int pr, .int (nI sg), .ref q1, .ref q2, .ref q3, .ref q4, .ref q5, .ref q6, .int num, .ref q7, .ref q8])), (q3, .inl (ta.1, 72, .inl (fun jx => nI (ent jx)))), (q4, .inl (ta.1, 6, .inl (fun jx => nI (len jx)))), (q5, .inl (ta.1, 72, .inl (fun jx => nI (ent1 jx)))), (q6, .inl (ta.1, 6, .inl (fun jx => nI (len1 jx))))]) (lv2 := [(0, .ref q0), (1, .int (nI b)), (2, .int (sp_b (hd1 ent1 b f (hdf len1 ent1 b (mh_b len ent b) f) (k + 1)))), (3, .int (nI f)), (4, .int (nI (k + 1)))]) (pc2 := 17) (st2 := []) (by rw [hd1_t ((sp_b_ne _).mp br29)] <;> rfl) ?_
                exact ih17 (k + 1) (by omega) (by omega)
              · have hek := he1 f br11 k br25
                refine sw_aload_n G dXM_isUsed_32 rfl 0 rfl ?_
                refine sw_get (C := RXM) (T := TXM) (ref := RXM) (N := 15) G inXM 0 rfl rfl 10 (by decide) wd_562 rfl rfl dXM_isUsed_33 ?_
                refine sw_bipush (v := nI 12) G dXM_isUsed_36 (by decide) ?_
                refine sw_iload_n G dXM_isUsed_38 rfl 3 rfl ?_
                refine sw_imul (x := nI 12) (y := nI f) (v := nI (12 * f)) G dXM_isUsed_39 (pk_mul _ _) ?_
                refine sw_iload G dXM_isUsed_40 4 rfl ?_
                refine sw_iadd (x := nI (12 * f)) (y := nI k) (v := nI ((12 * f) + k)) G dXM_isUsed_42 (sp_add _ _) ?_
                refine sw_ialdN (j := (12 * f) + k) (v := nI (ent1 ((12 * f) + k))) G 3 rfl (by omega) (by decide) (rfl) dXM_isUsed_43 ?_
                refine sw_iload_n G dXM_isUsed_44 rfl 1 rfl ?_
                refine sw_icmpN_ne (a := ent1 ((12 * f) + k)) (b := b) (tgt := 52) G dXM_isUsed_45 (by decide) (by omega) (by omega) (fun br45 => ?_) (fun br45 => ?_)
                · refine sw_iconst (v := nI 0) G dXM_isUsed_52 (by decide) ?_
                  refine sw_istore_n G dXM_isUsed_53 rfl (by decide) (lv' := [(2, .int (nI 0)), (0, .ref q0), (1, .int (nI b)), (3, .int (nI f)), (4, .int (nI k))]) rfl ?_
                  refine sw_iinc (x := nI k) (v := nI (k + 1)) G dXM_isUsed_54 (q := 4) rfl (sp_inc _) (by decide) (lv' := [(4, .int (nI (k + 1))), (2, .int (nI 0)), (0, .ref q0), (1, .int (nI b)), (3, .int (nI f))]) rfl ?_
                  refine sw_goto (tgt := 17) G dXM_isUsed_57 (by decide) ?_
                  refine sw_lv [2, 3, 1, 4, 0] (lv' := [(0, .ref q0), (1, .int (nI b)), (2, .int (nI 0)), (3, .int (nI f)), (4, .int (nI (k + 1)))]) rfl ?_
                  refine sw_eq (ws' := [(q0, .inr (6, [.int flt, .int (sp_b dn), .int left, .int wr, .int pr, .int (nI sg), .ref q1, .ref q2, .ref q3, .ref q4, .ref q5, .ref q6, .int num, .ref q7, .ref q8])), (q3, .inl (ta.1, 72, .inl (fun jx => nI (ent jx)))), (q4, .inl (ta.1, 6, .inl (fun jx => nI (len jx)))), (q5, .inl (ta.1, 72, .inl (fun jx => nI (ent1 jx)))), (q6, .inl (ta.1, 6, .inl (fun jx => nI (len1 jx))))]) (lv2 := [(0, .ref q0), (1, .int (nI b)), (2, .int (sp_b (hd1 ent1 b f (hdf len1 ent1 b (mh_b len ent b) f) (k + 1)))), (3, .int (nI f)), (4, .int (nI (k + 1)))]) (pc2 := 17) (st2 := []) (by rw [hd1_f ((sp_b_eq _).mp br29) br45] <;> rfl) ?_
                  exact ih17 (k + 1) (by omega) (by omega)
                · refine sw_iconst (v := nI 1) G dXM_isUsed_48 (by decide) ?_
                  refine sw_goto (tgt := 53) G dXM_isUsed_49 (by decide) ?_
                  refine sw_istore_n G dXM_isUsed_53 rfl (by decide) (lv' := [(2, .int (nI 1)), (0, .ref q0), (1, .int (nI b)), (3, .int (nI f)), (4, .int (nI k))]) rfl ?_
                  refine sw_iinc (x := nI k) (v := nI (k + 1)) G dXM_isUsed_54 (q := 4) rfl (sp_inc _) (by decide) (lv' := [(4, .int (nI (k + 1))), (2, .int (nI 1)), (0, .ref q0), (1, .int (nI b)), (3, .int (nI f))]) rfl ?_
                  refine sw_goto (tgt := 17) G dXM_isUsed_57 (by decide) ?_
                  refine sw_lv [2, 3, 1, 4, 0] (lv' := [(0, .ref q0), (1, .int (nI b)), (2, .int (nI 1)), (3, .int (nI f)), (4, .int (nI (k + 1)))]) rfl ?_
                  refine sw_eq (ws' := [(q0, .inr (6, [.int flt, .int (sp_b dn), .int left, .int wr, .int pr, .int (nI sg), .ref q1, .ref q2, .ref q3, .ref q4, .ref q5, .ref q6, .int num, .ref q7, .ref q8])), (q3, .inl (ta.1, 72, .inl (fun jx => nI (ent jx)))), (q4, .inl (ta.1, 6, .inl (fun jx => nI (len jx)))), (q5, .inl (ta.1, 72, .inl (fun jx => nI (ent1 jx)))), (q6, .inl (ta.1, 6, .inl (fun jx => nI (len1 jx))))]) (lv2 := [(0, .ref q0), (1, .int (nI b)), (2, .int (sp_b (hd1 ent1 b f (hdf len1 ent1 b (mh_b len ent b) f) (k + 1)))), (3, .int (nI f)), (4, .int (nI (k + 1)))]) (pc2 := 17) (st2 := []) (by rw [hd1_e br45] <;> rfl) ?_
                  exact ih17 (k + 1) (by omega) (by omega)
        exact L17 _ 0 (Nat.lt_succ_self _) (Nat.zero_le _)
  exact L8 _ 0 (Nat.lt_succ_self _) (Nat.zero_le _)

set_option maxRecDepth 100000 in
set_option maxHeartbeats 4000000 in
theorem c_XM_wordS (l : Launch) (D : va_G) (ta : ClassId × ClassId × ClassId) (q0 : Nat) (q1 : Nat) (q2 : Nat) (q3 : Nat) (q4 : Nat) (q5 : Nat) (q6 : Nat) (q7 : Nat) (q8 : Nat) (flt : Int32) (dn : Bool) (left : Int32) (wr : Int32) (pr : Int32) (sg : Nat) (g : Nat → Int32) (w : Nat → Int32) (num : Int32) (i : Nat) (hi : i < 4) : sr l yXM_wordOf wsXM_wordOf ({ frames := 0, cells := 0, slots := 0, locals := 0 }) D ta [.ref q0, .int (-1), .int (nI i)] [(q0, .inr (6, [.int flt, .int (sp_b dn), .int left, .int wr, .int pr, .int (nI sg), .ref q1, .ref q2, .ref q3, .ref q4, .ref q5, .ref q6, .int num, .ref q7, .ref q8])), (q1, .inl (ta.1, 4, .inl (g))), (q2, .inl (ta.1, 160, .inl (w)))] (some (.int (g i))) := by
  refine sr_ofW (y := yXM_wordOf) (cc := cXM_wordOf) (nL := 3) (ret := (some .int)) (by decide) (Nat.le_of_ble_eq_true rfl) (fun p e s m below meth c G hr hlk hnm => ?_)
  refine sw_eq (ws' := [(q0, .inr (6, [.int flt, .int (sp_b dn), .int left, .int wr, .int pr, .int (nI sg), .ref q1, .ref q2, .ref q3, .ref q4, .ref q5, .ref q6, .int num, .ref q7, .ref q8])), (q1, .inl (ta.1, 4, .inl (g))), (q2, .inl (ta.1, 160, .inl (w)))]) (lv2 := [(0, .ref q0), (1, .int (-1)), (2, .int (nI i))]) (pc2 := 0) (st2 := []) rfl ?_
  refine sw_iload_n G dXM_wordOf_0 rfl 1 rfl ?_
  refine sw_if_ge (x := -1) (tgt := 13) G dXM_wordOf_1 (by decide) (fun br1 => ?_) (fun br1 => ?_)
  · exact absurd br1 (by decide)
  · refine sw_aload_n G dXM_wordOf_4 rfl 0 rfl ?_
    refine sw_get (C := RXM) (T := TXM) (ref := RXM) (N := 15) G inXM 0 rfl rfl 6 (by decide) wd_558 rfl rfl dXM_wordOf_5 ?_
    refine sw_iload_n G dXM_wordOf_8 rfl 2 rfl ?_
    refine sw_ialdN (j := i) (v := g i) G 1 rfl (by omega) (by decide) (rfl) dXM_wordOf_9 ?_
    refine sw_goto (tgt := 23) G dXM_wordOf_10 (by decide) ?_
    exact sr_iret (x := g i) G hr hlk (rfl) dXM_wordOf_23

set_option maxRecDepth 100000 in
set_option maxHeartbeats 4000000 in
theorem c_XM_wordC (l : Launch) (D : va_G) (ta : ClassId × ClassId × ClassId) (q0 : Nat) (q1 : Nat) (q2 : Nat) (q3 : Nat) (q4 : Nat) (q5 : Nat) (q6 : Nat) (q7 : Nat) (q8 : Nat) (flt : Int32) (dn : Bool) (left : Int32) (wr : Int32) (pr : Int32) (sg : Nat) (g : Nat → Int32) (w : Nat → Int32) (num : Int32) (b : Nat) (i : Nat) (hb : b < 40) (hi : i < 4) : sr l yXM_wordOf wsXM_wordOf ({ frames := 0, cells := 0, slots := 0, locals := 0 }) D ta [.ref q0, .int (nI b), .int (nI i)] [(q0, .inr (6, [.int flt, .int (sp_b dn), .int left, .int wr, .int pr, .int (nI sg), .ref q1, .ref q2, .ref q3, .ref q4, .ref q5, .ref q6, .int num, .ref q7, .ref q8])), (q1, .inl (ta.1, 4, .inl (g))), (q2, .inl (ta.1, 160, .inl (w)))] (some (.int (w (4 * b + i)))) := by
  refine sr_ofW (y := yXM_wordOf) (cc := cXM_wordOf) (nL := 3) (ret := (some .int)) (by decide) (Nat.le_of_ble_eq_true rfl) (fun p e s m below meth c G hr hlk hnm => ?_)
  refine sw_eq (ws' := [(q0, .inr (6, [.int flt, .int (sp_b dn), .int left, .int wr, .int pr, .int (nI sg), .ref q1, .ref q2, .ref q3, .ref q4, .ref q5, .ref q6, .int num, .ref q7, .ref q8])), (q1, .inl (ta.1, 4, .inl (g))), (q2, .inl (ta.1, 160, .inl (w)))]) (lv2 := [(0, .ref q0), (1, .int (nI b)), (2, .int (nI i))]) (pc2 := 0) (st2 := []) rfl ?_
  refine sw_iload_n G dXM_wordOf_0 rfl 1 rfl ?_
  refine sw_if_ge (x := nI b) (tgt := 13) G dXM_wordOf_1 (by decide) (fun br1 => ?_) (fun br1 => ?_)
  · refine sw_aload_n G dXM_wordOf_13 rfl 0 rfl ?_
    refine sw_get (C := RXM) (T := TXM) (ref := RXM) (N := 15) G inXM 0 rfl rfl 7 (by decide) wd_559 rfl rfl dXM_wordOf_14 ?_
    refine sw_iconst (v := nI 4) G dXM_wordOf_17 (by decide) ?_
    refine sw_iload_n G dXM_wordOf_18 rfl 1 rfl ?_
    refine sw_imul (x := nI 4) (y := nI b) (v := nI (4 * b)) G dXM_wordOf_19 (pk_mul _ _) ?_
    refine sw_iload_n G dXM_wordOf_20 rfl 2 rfl ?_
    refine sw_iadd (x := nI (4 * b)) (y := nI i) (v := nI ((4 * b) + i)) G dXM_wordOf_21 (sp_add _ _) ?_
    refine sw_ialdN (j := (4 * b) + i) (v := w ((4 * b) + i)) G 2 rfl (by omega) (by decide) (rfl) dXM_wordOf_22 ?_
    exact sr_iret (x := w ((4 * b) + i)) G hr hlk (rfl) dXM_wordOf_23
  · exact absurd (nI_pos' (by omega)) br1

set_option maxRecDepth 100000 in
set_option maxHeartbeats 4000000 in
theorem c_XM_printS (l : Launch) (D : va_G) (ta : ClassId × ClassId × ClassId) (q0 : Nat) (q1 : Nat) (q2 : Nat) (q3 : Nat) (q4 : Nat) (q5 : Nat) (q6 : Nat) (q7 : Nat) (q8 : Nat) (flt : Int32) (dn : Bool) (left : Int32) (wr : Int32) (pr : Int32) (sg : Nat) (g : Nat → Int32) (w : Nat → Int32) (num : Int32)  : sr l yXM_print wsXM_print ({ frames := 1, cells := 0, slots := 0, locals := 22 }) D ta [.ref q0, .int (-1)] [(q0, .inr (6, [.int flt, .int (sp_b dn), .int left, .int wr, .int pr, .int (nI sg), .ref q1, .ref q2, .ref q3, .ref q4, .ref q5, .ref q6, .int num, .ref q7, .ref q8])), (q1, .inl (ta.1, 4, .inl (g))), (q2, .inl (ta.1, 160, .inl (w)))] (some (.int (nI (fpN g 0)))) := by
  refine sr_ofW (y := yXM_print) (cc := cXM_print) (nL := 4) (ret := (some .int)) (by decide) (Nat.le_of_ble_eq_true rfl) (fun p e s m below meth c G hr hlk hnm => ?_)
  refine sw_eq (ws' := [(q0, .inr (6, [.int flt, .int (sp_b dn), .int left, .int wr, .int pr, .int (nI sg), .ref q1, .ref q2, .ref q3, .ref q4, .ref q5, .ref q6, .int num, .ref q7, .ref q8])), (q1, .inl (ta.1, 4, .inl (g))), (q2, .inl (ta.1, 160, .inl (w)))]) (lv2 := [(0, .ref q0), (1, .int (-1))]) (pc2 := 0) (st2 := []) rfl ?_
  refine sw_bipush (v := nI 17) G dXM_print_0 (by decide) ?_
  refine sw_istore_n G dXM_print_2 rfl (by decide) (lv' := [(2, .int (nI 17)), (0, .ref q0), (1, .int (-1))]) rfl ?_
  refine sw_iconst (v := nI 0) G dXM_print_3 (by decide) ?_
  refine sw_istore_n G dXM_print_4 rfl (by decide) (lv' := [(3, .int (nI 0)), (2, .int (nI 17)), (0, .ref q0), (1, .int (-1))]) rfl ?_
  refine sw_iload_n G dXM_print_5 rfl 0 rfl ?_
  refine sw_iconst (v := nI 4) G dXM_print_6 (by decide) ?_
  refine sw_icmpN_ge (a := 0) (b := 4) (tgt := 35) G dXM_print_7 (by decide) (by omega) (by omega) (fun br7 => ?_) (fun br7 => ?_)
  · exact absurd br7 (by decide)
  · refine sw_iload_n G dXM_print_10 rfl 1 rfl ?_
    refine sw_bipush (v := nI 31) G dXM_print_11 (by decide) ?_
    refine sw_imul (x := nI 17) (y := nI 31) (v := (nI 17) * (nI 31)) G dXM_print_13 (rfl) ?_
    refine sw_aload_n G dXM_print_14 rfl 2 rfl ?_
    refine sw_iload_n G dXM_print_15 rfl 3 rfl ?_
    refine sw_iload_n G dXM_print_16 rfl 0 rfl ?_
    refine sw_readV (As := [.int (-1), .int (nI 0)]) (rest := [.int ((nI 17) * (nI 31))]) G (c_XM_wordS l D ta q0 q1 q2 q3 q4 q5 q6 q7 q8 flt dn left wr pr sg g w num 0 (by omega)) (cwV 2 G.2.2.2.2.1 (sb_goodV wd_638 wd_640 ws_XM_wordOf wd_8 wd_641) rfl rfl rfl (by decide +kernel) ⟨Nat.le_of_ble_eq_true rfl, Nat.le_of_ble_eq_true rfl⟩) 0 6 rfl rfl rfl rfl (Nat.le_of_ble_eq_true rfl) dXM_print_17 ⟨Nat.le_of_ble_eq_true rfl, Nat.le_of_ble_eq_true rfl⟩ [0, 1, 2] rfl (by decide) ?_
    refine sw_eq (ws' := [(q0, .inr (6, [.int flt, .int (sp_b dn), .int left, .int wr, .int pr, .int (nI sg), .ref q1, .ref q2, .ref q3, .ref q4, .ref q5, .ref q6, .int num, .ref q7, .ref q8])), (q1, .inl (ta.1, 4, .inl (g))), (q2, .inl (ta.1, 160, .inl (w)))]) (lv2 := [(3, .int (nI 0)), (2, .int (nI 17)), (0, .ref q0), (1, .int (-1))]) (pc2 := 20) (st2 := [.int (g 0), .int ((nI 17) * (nI 31))]) rfl ?_
    refine sw_iadd (x := (nI 17) * (nI 31)) (y := g 0) (v := ((nI 17) * (nI 31)) + (g 0)) G dXM_print_20 (rfl) ?_
    refine sw_istore_n G dXM_print_21 rfl (by decide) (lv' := [(2, .int (((nI 17) * (nI 31)) + (g 0))), (3, .int (nI 0)), (0, .ref q0), (1, .int (-1))]) rfl ?_
    refine sw_iload_n G dXM_print_22 rfl 0 rfl ?_
    refine sw_iload_n G dXM_print_23 rfl 0 rfl ?_
    refine sw_bipush (v := nI 15) G dXM_print_24 (by decide) ?_
    refine sw_iushr (x := ((nI 17) * (nI 31)) + (g 0)) (y := nI 15) (v := ((((nI 17) * (nI 31)) + (g 0)).toUInt32 >>> ((nI 15).toUInt32 &&& Int32.toUInt32 31)).toInt32) G dXM_print_26 (rfl) ?_
    refine sw_ixor (x := ((nI 17) * (nI 31)) + (g 0)) (y := ((((nI 17) * (nI 31)) + (g 0)).toUInt32 >>> ((nI 15).toUInt32 &&& Int32.toUInt32 31)).toInt32) (v := fp_s (nI 17) (g 0)) G dXM_print_27 (rfl) ?_
    refine sw_istore_n G dXM_print_28 rfl (by decide) (lv' := [(2, .int (fp_s (nI 17) (g 0))), (3, .int (nI 0)), (0, .ref q0), (1, .int (-1))]) rfl ?_
    refine sw_iinc (x := nI 0) (v := nI 1) G dXM_print_29 (q := 1) rfl (by decide) (by decide) (lv' := [(3, .int (nI 1)), (2, .int (fp_s (nI 17) (g 0))), (0, .ref q0), (1, .int (-1))]) rfl ?_
    refine sw_goto (tgt := 5) G dXM_print_32 (by decide) ?_
    refine sw_iload_n G dXM_print_5 rfl 0 rfl ?_
    refine sw_iconst (v := nI 4) G dXM_print_6 (by decide) ?_
    refine sw_icmpN_ge (a := 1) (b := 4) (tgt := 35) G dXM_print_7 (by decide) (by omega) (by omega) (fun br7_1 => ?_) (fun br7_1 => ?_)
    · exact absurd br7_1 (by decide)
    · refine sw_iload_n G dXM_print_10 rfl 1 rfl ?_
      refine sw_bipush (v := nI 31) G dXM_print_11 (by decide) ?_
      refine sw_imul (x := fp_s (nI 17) (g 0)) (y := nI 31) (v := (fp_s (nI 17) (g 0)) * (nI 31)) G dXM_print_13 (rfl) ?_
      refine sw_aload_n G dXM_print_14 rfl 2 rfl ?_
      refine sw_iload_n G dXM_print_15 rfl 3 rfl ?_
      refine sw_iload_n G dXM_print_16 rfl 0 rfl ?_
      refine sw_readV (As := [.int (-1), .int (nI 1)]) (rest := [.int ((fp_s (nI 17) (g 0)) * (nI 31))]) G (c_XM_wordS l D ta q0 q1 q2 q3 q4 q5 q6 q7 q8 flt dn left wr pr sg g w num 1 (by omega)) (cwV 2 G.2.2.2.2.1 (sb_goodV wd_638 wd_640 ws_XM_wordOf wd_8 wd_641) rfl rfl rfl (by decide +kernel) ⟨Nat.le_of_ble_eq_true rfl, Nat.le_of_ble_eq_true rfl⟩) 0 6 rfl rfl rfl rfl (Nat.le_of_ble_eq_true rfl) dXM_print_17 ⟨Nat.le_of_ble_eq_true rfl, Nat.le_of_ble_eq_true rfl⟩ [0, 1, 2] rfl (by decide) ?_
      refine sw_eq (ws' := [(q0, .inr (6, [.int flt, .int (sp_b dn), .int left, .int wr, .int pr, .int (nI sg), .ref q1, .ref q2, .ref q3, .ref q4, .ref q5, .ref q6, .int num, .ref q7, .ref q8])), (q1, .inl (ta.1, 4, .inl (g))), (q2, .inl (ta.1, 160, .inl (w)))]) (lv2 := [(3, .int (nI 1)), (2, .int (fp_s (nI 17) (g 0))), (0, .ref q0), (1, .int (-1))]) (pc2 := 20) (st2 := [.int (g 1), .int ((fp_s (nI 17) (g 0)) * (nI 31))]) rfl ?_
      refine sw_iadd (x := (fp_s (nI 17) (g 0)) * (nI 31)) (y := g 1) (v := ((fp_s (nI 17) (g 0)) * (nI 31)) + (g 1)) G dXM_print_20 (rfl) ?_
      refine sw_istore_n G dXM_print_21 rfl (by decide) (lv' := [(2, .int (((fp_s (nI 17) (g 0)) * (nI 31)) + (g 1))), (3, .int (nI 1)), (0, .ref q0), (1, .int (-1))]) rfl ?_
      refine sw_iload_n G dXM_print_22 rfl 0 rfl ?_
      refine sw_iload_n G dXM_print_23 rfl 0 rfl ?_
      refine sw_bipush (v := nI 15) G dXM_print_24 (by decide) ?_
      refine sw_iushr (x := ((fp_s (nI 17) (g 0)) * (nI 31)) + (g 1)) (y := nI 15) (v := ((((fp_s (nI 17) (g 0)) * (nI 31)) + (g 1)).toUInt32 >>> ((nI 15).toUInt32 &&& Int32.toUInt32 31)).toInt32) G dXM_print_26 (rfl) ?_
      refine sw_ixor (x := ((fp_s (nI 17) (g 0)) * (nI 31)) + (g 1)) (y := ((((fp_s (nI 17) (g 0)) * (nI 31)) + (g 1)).toUInt32 >>> ((nI 15).toUInt32 &&& Int32.toUInt32 31)).toInt32) (v := fp_s (fp_s (nI 17) (g 0)) (g 1)) G dXM_print_27 (rfl) ?_
      refine sw_istore_n G dXM_print_28 rfl (by decide) (lv' := [(2, .int (fp_s (fp_s (nI 17) (g 0)) (g 1))), (3, .int (nI 1)), (0, .ref q0), (1, .int (-1))]) rfl ?_
      refine sw_iinc (x := nI 1) (v := nI 2) G dXM_print_29 (q := 1) rfl (by decide) (by decide) (lv' := [(3, .int (nI 2)), (2, .int (fp_s (fp_s (nI 17) (g 0)) (g 1))), (0, .ref q0), (1, .int (-1))]) rfl ?_
      refine sw_goto (tgt := 5) G dXM_print_32 (by decide) ?_
      refine sw_iload_n G dXM_print_5 rfl 0 rfl ?_
      refine sw_iconst (v := nI 4) G dXM_print_6 (by decide) ?_
      refine sw_icmpN_ge (a := 2) (b := 4) (tgt := 35) G dXM_print_7 (by decide) (by omega) (by omega) (fun br7_2 => ?_) (fun br7_2 => ?_)
      · exact absurd br7_2 (by decide)
      · refine sw_iload_n G dXM_print_10 rfl 1 rfl ?_
        refine sw_bipush (v := nI 31) G dXM_print_11 (by decide) ?_
        refine sw_imul (x := fp_s (fp_s (nI 17) (g 0)) (g 1)) (y := nI 31) (v := (fp_s (fp_s (nI 17) (g 0)) (g 1)) * (nI 31)) G dXM_print_13 (rfl) ?_
        refine sw_aload_n G dXM_print_14 rfl 2 rfl ?_
        refine sw_iload_n G dXM_print_15 rfl 3 rfl ?_
        refine sw_iload_n G dXM_print_16 rfl 0 rfl ?_
        refine sw_readV (As := [.int (-1), .int (nI 2)]) (rest := [.int ((fp_s (fp_s (nI 17) (g 0)) (g 1)) * (nI 31))]) G (c_XM_wordS l D ta q0 q1 q2 q3 q4 q5 q6 q7 q8 flt dn left wr pr sg g w num 2 (by omega)) (cwV 2 G.2.2.2.2.1 (sb_goodV wd_638 wd_640 ws_XM_wordOf wd_8 wd_641) rfl rfl rfl (by decide +kernel) ⟨Nat.le_of_ble_eq_true rfl, Nat.le_of_ble_eq_true rfl⟩) 0 6 rfl rfl rfl rfl (Nat.le_of_ble_eq_true rfl) dXM_print_17 ⟨Nat.le_of_ble_eq_true rfl, Nat.le_of_ble_eq_true rfl⟩ [0, 1, 2] rfl (by decide) ?_
        refine sw_eq (ws' := [(q0, .inr (6, [.int flt, .int (sp_b dn), .int left, .int wr, .int pr, .int (nI sg), .ref q1, .ref q2, .ref q3, .ref q4, .ref q5, .ref q6, .int num, .ref q7, .ref q8])), (q1, .inl (ta.1, 4, .inl (g))), (q2, .inl (ta.1, 160, .inl (w)))]) (lv2 := [(3, .int (nI 2)), (2, .int (fp_s (fp_s (nI 17) (g 0)) (g 1))), (0, .ref q0), (1, .int (-1))]) (pc2 := 20) (st2 := [.int (g 2), .int ((fp_s (fp_s (nI 17) (g 0)) (g 1)) * (nI 31))]) rfl ?_
        refine sw_iadd (x := (fp_s (fp_s (nI 17) (g 0)) (g 1)) * (nI 31)) (y := g 2) (v := ((fp_s (fp_s (nI 17) (g 0)) (g 1)) * (nI 31)) + (g 2)) G dXM_print_20 (rfl) ?_
        refine sw_istore_n G dXM_print_21 rfl (by decide) (lv' := [(2, .int (((fp_s (fp_s (nI 17) (g 0)) (g 1)) * (nI 31)) + (g 2))), (3, .int (nI 2)), (0, .ref q0), (1, .int (-1))]) rfl ?_
        refine sw_iload_n G dXM_print_22 rfl 0 rfl ?_
        refine sw_iload_n G dXM_print_23 rfl 0 rfl ?_
        refine sw_bipush (v := nI 15) G dXM_print_24 (by decide) ?_
        refine sw_iushr (x := ((fp_s (fp_s (nI 17) (g 0)) (g 1)) * (nI 31)) + (g 2)) (y := nI 15) (v := ((((fp_s (fp_s (nI 17) (g 0)) (g 1)) * (nI 31)) + (g 2)).toUInt32 >>> ((nI 15).toUInt32 &&& Int32.toUInt32 31)).toInt32) G dXM_print_26 (rfl) ?_
        refine sw_ixor (x := ((fp_s (fp_s (nI 17) (g 0)) (g 1)) * (nI 31)) + (g 2)) (y := ((((fp_s (fp_s (nI 17) (g 0)) (g 1)) * (nI 31)) + (g 2)).toUInt32 >>> ((nI 15).toUInt32 &&& Int32.toUInt32 31)).toInt32) (v := fp_s (fp_s (fp_s (nI 17) (g 0)) (g 1)) (g 2)) G dXM_print_27 (rfl) ?_
        refine sw_istore_n G dXM_print_28 rfl (by decide) (lv' := [(2, .int (fp_s (fp_s (fp_s (nI 17) (g 0)) (g 1)) (g 2))), (3, .int (nI 2)), (0, .ref q0), (1, .int (-1))]) rfl ?_
        refine sw_iinc (x := nI 2) (v := nI 3) G dXM_print_29 (q := 1) rfl (by decide) (by decide) (lv' := [(3, .int (nI 3)), (2, .int (fp_s (fp_s (fp_s (nI 17) (g 0)) (g 1)) (g 2))), (0, .ref q0), (1, .int (-1))]) rfl ?_
        refine sw_goto (tgt := 5) G dXM_print_32 (by decide) ?_
        refine sw_iload_n G dXM_print_5 rfl 0 rfl ?_
        refine sw_iconst (v := nI 4) G dXM_print_6 (by decide) ?_
        refine sw_icmpN_ge (a := 3) (b := 4) (tgt := 35) G dXM_print_7 (by decide) (by omega) (by omega) (fun br7_3 => ?_) (fun br7_3 => ?_)
        · exact absurd br7_3 (by decide)
        · refine sw_iload_n G dXM_print_10 rfl 1 rfl ?_
          refine sw_bipush (v := nI 31) G dXM_print_11 (by decide) ?_
          refine sw_imul (x := fp_s (fp_s (fp_s (nI 17) (g 0)) (g 1)) (g 2)) (y := nI 31) (v := (fp_s (fp_s (fp_s (nI 17) (g 0)) (g 1)) (g 2)) * (nI 31)) G dXM_print_13 (rfl) ?_
          refine sw_aload_n G dXM_print_14 rfl 2 rfl ?_
          refine sw_iload_n G dXM_print_15 rfl 3 rfl ?_
          refine sw_iload_n G dXM_print_16 rfl 0 rfl ?_
          refine sw_readV (As := [.int (-1), .int (nI 3)]) (rest := [.int ((fp_s (fp_s (fp_s (nI 17) (g 0)) (g 1)) (g 2)) * (nI 31))]) G (c_XM_wordS l D ta q0 q1 q2 q3 q4 q5 q6 q7 q8 flt dn left wr pr sg g w num 3 (by omega)) (cwV 2 G.2.2.2.2.1 (sb_goodV wd_638 wd_640 ws_XM_wordOf wd_8 wd_641) rfl rfl rfl (by decide +kernel) ⟨Nat.le_of_ble_eq_true rfl, Nat.le_of_ble_eq_true rfl⟩) 0 6 rfl rfl rfl rfl (Nat.le_of_ble_eq_true rfl) dXM_print_17 ⟨Nat.le_of_ble_eq_true rfl, Nat.le_of_ble_eq_true rfl⟩ [0, 1, 2] rfl (by decide) ?_
          refine sw_eq (ws' := [(q0, .inr (6, [.int flt, .int (sp_b dn), .int left, .int wr, .int pr, .int (nI sg), .ref q1, .ref q2, .ref q3, .ref q4, .ref q5, .ref q6, .int num, .ref q7, .ref q8])), (q1, .inl (ta.1, 4, .inl (g))), (q2, .inl (ta.1, 160, .inl (w)))]) (lv2 := [(3, .int (nI 3)), (2, .int (fp_s (fp_s (fp_s (nI 17) (g 0)) (g 1)) (g 2))), (0, .ref q0), (1, .int (-1))]) (pc2 := 20) (st2 := [.int (g 3), .int ((fp_s (fp_s (fp_s (nI 17) (g 0)) (g 1)) (g 2)) * (nI 31))]) rfl ?_
          refine sw_iadd (x := (fp_s (fp_s (fp_s (nI 17) (g 0)) (g 1)) (g 2)) * (nI 31)) (y := g 3) (v := ((fp_s (fp_s (fp_s (nI 17) (g 0)) (g 1)) (g 2)) * (nI 31)) + (g 3)) G dXM_print_20 (rfl) ?_
          refine sw_istore_n G dXM_print_21 rfl (by decide) (lv' := [(2, .int (((fp_s (fp_s (fp_s (nI 17) (g 0)) (g 1)) (g 2)) * (nI 31)) + (g 3))), (3, .int (nI 3)), (0, .ref q0), (1, .int (-1))]) rfl ?_
          refine sw_iload_n G dXM_print_22 rfl 0 rfl ?_
          refine sw_iload_n G dXM_print_23 rfl 0 rfl ?_
          refine sw_bipush (v := nI 15) G dXM_print_24 (by decide) ?_
          refine sw_iushr (x := ((fp_s (fp_s (fp_s (nI 17) (g 0)) (g 1)) (g 2)) * (nI 31)) + (g 3)) (y := nI 15) (v := ((((fp_s (fp_s (fp_s (nI 17) (g 0)) (g 1)) (g 2)) * (nI 31)) + (g 3)).toUInt32 >>> ((nI 15).toUInt32 &&& Int32.toUInt32 31)).toInt32) G dXM_print_26 (rfl) ?_
          refine sw_ixor (x := ((fp_s (fp_s (fp_s (nI 17) (g 0)) (g 1)) (g 2)) * (nI 31)) + (g 3)) (y := ((((fp_s (fp_s (fp_s (nI 17) (g 0)) (g 1)) (g 2)) * (nI 31)) + (g 3)).toUInt32 >>> ((nI 15).toUInt32 &&& Int32.toUInt32 31)).toInt32) (v := fp_s (fp_s (fp_s (fp_s (nI 17) (g 0)) (g 1)) (g 2)) (g 3)) G dXM_print_27 (rfl) ?_
          refine sw_istore_n G dXM_print_28 rfl (by decide) (lv' := [(2, .int (fp_s (fp_s (fp_s (fp_s (nI 17) (g 0)) (g 1)) (g 2)) (g 3))), (3, .int (nI 3)), (0, .ref q0), (1, .int (-1))]) rfl ?_
          refine sw_iinc (x := nI 3) (v := nI 4) G dXM_print_29 (q := 1) rfl (by decide) (by decide) (lv' := [(3, .int (nI 4)), (2, .int (fp_s (fp_s (fp_s (fp_s (nI 17) (g 0)) (g 1)) (g 2)) (g 3))), (0, .ref q0), (1, .int (-1))]) rfl ?_
          refine sw_goto (tgt := 5) G dXM_print_32 (by decide) ?_
          refine sw_iload_n G dXM_print_5 rfl 0 rfl ?_
          refine sw_iconst (v := nI 4) G dXM_print_6 (by decide) ?_
          refine sw_icmpN_ge (a := 4) (b := 4) (tgt := 35) G dXM_print_7 (by decide) (by omega) (by omega) (fun br7_4 => ?_) (fun br7_4 => ?_)
          · refine sw_iload_n G dXM_print_35 rfl 1 rfl ?_
            refine sw_sipush (v := nI 255) G dXM_print_36 (by decide) ?_
            refine sw_iand (x := fp_s (fp_s (fp_s (fp_s (nI 17) (g 0)) (g 1)) (g 2)) (g 3)) (y := nI 255) (v := nI (fpN g 0)) G dXM_print_39 (fpN_eq g 0) ?_
            exact sr_iret (x := nI (fpN g 0)) G hr hlk (rfl) dXM_print_40
          · exact absurd br7_4 (by decide)

set_option maxRecDepth 100000 in
set_option maxHeartbeats 4000000 in
theorem c_XM_printC (l : Launch) (D : va_G) (ta : ClassId × ClassId × ClassId) (q0 : Nat) (q1 : Nat) (q2 : Nat) (q3 : Nat) (q4 : Nat) (q5 : Nat) (q6 : Nat) (q7 : Nat) (q8 : Nat) (flt : Int32) (dn : Bool) (left : Int32) (wr : Int32) (pr : Int32) (sg : Nat) (g : Nat → Int32) (w : Nat → Int32) (num : Int32) (b : Nat) (hb : b < 40) : sr l yXM_print wsXM_print ({ frames := 1, cells := 0, slots := 0, locals := 22 }) D ta [.ref q0, .int (nI b)] [(q0, .inr (6, [.int flt, .int (sp_b dn), .int left, .int wr, .int pr, .int (nI sg), .ref q1, .ref q2, .ref q3, .ref q4, .ref q5, .ref q6, .int num, .ref q7, .ref q8])), (q1, .inl (ta.1, 4, .inl (g))), (q2, .inl (ta.1, 160, .inl (w)))] (some (.int (nI (fpN w (b * 4))))) := by
  refine sr_ofW (y := yXM_print) (cc := cXM_print) (nL := 4) (ret := (some .int)) (by decide) (Nat.le_of_ble_eq_true rfl) (fun p e s m below meth c G hr hlk hnm => ?_)
  refine sw_eq (ws' := [(q0, .inr (6, [.int flt, .int (sp_b dn), .int left, .int wr, .int pr, .int (nI sg), .ref q1, .ref q2, .ref q3, .ref q4, .ref q5, .ref q6, .int num, .ref q7, .ref q8])), (q1, .inl (ta.1, 4, .inl (g))), (q2, .inl (ta.1, 160, .inl (w)))]) (lv2 := [(0, .ref q0), (1, .int (nI b))]) (pc2 := 0) (st2 := []) rfl ?_
  refine sw_bipush (v := nI 17) G dXM_print_0 (by decide) ?_
  refine sw_istore_n G dXM_print_2 rfl (by decide) (lv' := [(2, .int (nI 17)), (0, .ref q0), (1, .int (nI b))]) rfl ?_
  refine sw_iconst (v := nI 0) G dXM_print_3 (by decide) ?_
  refine sw_istore_n G dXM_print_4 rfl (by decide) (lv' := [(3, .int (nI 0)), (2, .int (nI 17)), (0, .ref q0), (1, .int (nI b))]) rfl ?_
  refine sw_iload_n G dXM_print_5 rfl 0 rfl ?_
  refine sw_iconst (v := nI 4) G dXM_print_6 (by decide) ?_
  refine sw_icmpN_ge (a := 0) (b := 4) (tgt := 35) G dXM_print_7 (by decide) (by omega) (by omega) (fun br7 => ?_) (fun br7 => ?_)
  · exact absurd br7 (by decide)
  · refine sw_iload_n G dXM_print_10 rfl 1 rfl ?_
    refine sw_bipush (v := nI 31) G dXM_print_11 (by decide) ?_
    refine sw_imul (x := nI 17) (y := nI 31) (v := (nI 17) * (nI 31)) G dXM_print_13 (rfl) ?_
    refine sw_aload_n G dXM_print_14 rfl 2 rfl ?_
    refine sw_iload_n G dXM_print_15 rfl 3 rfl ?_
    refine sw_iload_n G dXM_print_16 rfl 0 rfl ?_
    refine sw_readV (As := [.int (nI b), .int (nI 0)]) (rest := [.int ((nI 17) * (nI 31))]) G (c_XM_wordC l D ta q0 q1 q2 q3 q4 q5 q6 q7 q8 flt dn left wr pr sg g w num b 0 (by omega) (by omega)) (cwV 2 G.2.2.2.2.1 (sb_goodV wd_638 wd_640 ws_XM_wordOf wd_8 wd_641) rfl rfl rfl (by decide +kernel) ⟨Nat.le_of_ble_eq_true rfl, Nat.le_of_ble_eq_true rfl⟩) 0 6 rfl rfl rfl rfl (Nat.le_of_ble_eq_true rfl) dXM_print_17 ⟨Nat.le_of_ble_eq_true rfl, Nat.le_of_ble_eq_true rfl⟩ [0, 1, 2] rfl (by decide) ?_
    refine sw_eq (ws' := [(q0, .inr (6, [.int flt, .int (sp_b dn), .int left, .int wr, .int pr, .int (nI sg), .ref q1, .ref q2, .ref q3, .ref q4, .ref q5, .ref q6, .int num, .ref q7, .ref q8])), (q1, .inl (ta.1, 4, .inl (g))), (q2, .inl (ta.1, 160, .inl (w)))]) (lv2 := [(3, .int (nI 0)), (2, .int (nI 17)), (0, .ref q0), (1, .int (nI b))]) (pc2 := 20) (st2 := [.int (w (4 * b + 0)), .int ((nI 17) * (nI 31))]) rfl ?_
    refine sw_iadd (x := (nI 17) * (nI 31)) (y := w (4 * b + 0)) (v := ((nI 17) * (nI 31)) + (w (4 * b + 0))) G dXM_print_20 (rfl) ?_
    refine sw_istore_n G dXM_print_21 rfl (by decide) (lv' := [(2, .int (((nI 17) * (nI 31)) + (w (4 * b + 0)))), (3, .int (nI 0)), (0, .ref q0), (1, .int (nI b))]) rfl ?_
    refine sw_iload_n G dXM_print_22 rfl 0 rfl ?_
    refine sw_iload_n G dXM_print_23 rfl 0 rfl ?_
    refine sw_bipush (v := nI 15) G dXM_print_24 (by decide) ?_
    refine sw_iushr (x := ((nI 17) * (nI 31)) + (w (4 * b + 0))) (y := nI 15) (v := ((((nI 17) * (nI 31)) + (w (4 * b + 0))).toUInt32 >>> ((nI 15).toUInt32 &&& Int32.toUInt32 31)).toInt32) G dXM_print_26 (rfl) ?_
    refine sw_ixor (x := ((nI 17) * (nI 31)) + (w (4 * b + 0))) (y := ((((nI 17) * (nI 31)) + (w (4 * b + 0))).toUInt32 >>> ((nI 15).toUInt32 &&& Int32.toUInt32 31)).toInt32) (v := fp_s (nI 17) (w (4 * b + 0))) G dXM_print_27 (rfl) ?_
    refine sw_istore_n G dXM_print_28 rfl (by decide) (lv' := [(2, .int (fp_s (nI 17) (w (4 * b + 0)))), (3, .int (nI 0)), (0, .ref q0), (1, .int (nI b))]) rfl ?_
    refine sw_iinc (x := nI 0) (v := nI 1) G dXM_print_29 (q := 1) rfl (by decide) (by decide) (lv' := [(3, .int (nI 1)), (2, .int (fp_s (nI 17) (w (4 * b + 0)))), (0, .ref q0), (1, .int (nI b))]) rfl ?_
    refine sw_goto (tgt := 5) G dXM_print_32 (by decide) ?_
    refine sw_iload_n G dXM_print_5 rfl 0 rfl ?_
    refine sw_iconst (v := nI 4) G dXM_print_6 (by decide) ?_
    refine sw_icmpN_ge (a := 1) (b := 4) (tgt := 35) G dXM_print_7 (by decide) (by omega) (by omega) (fun br7_1 => ?_) (fun br7_1 => ?_)
    · exact absurd br7_1 (by decide)
    · refine sw_iload_n G dXM_print_10 rfl 1 rfl ?_
      refine sw_bipush (v := nI 31) G dXM_print_11 (by decide) ?_
      refine sw_imul (x := fp_s (nI 17) (w (4 * b + 0))) (y := nI 31) (v := (fp_s (nI 17) (w (4 * b + 0))) * (nI 31)) G dXM_print_13 (rfl) ?_
      refine sw_aload_n G dXM_print_14 rfl 2 rfl ?_
      refine sw_iload_n G dXM_print_15 rfl 3 rfl ?_
      refine sw_iload_n G dXM_print_16 rfl 0 rfl ?_
      refine sw_readV (As := [.int (nI b), .int (nI 1)]) (rest := [.int ((fp_s (nI 17) (w (4 * b + 0))) * (nI 31))]) G (c_XM_wordC l D ta q0 q1 q2 q3 q4 q5 q6 q7 q8 flt dn left wr pr sg g w num b 1 (by omega) (by omega)) (cwV 2 G.2.2.2.2.1 (sb_goodV wd_638 wd_640 ws_XM_wordOf wd_8 wd_641) rfl rfl rfl (by decide +kernel) ⟨Nat.le_of_ble_eq_true rfl, Nat.le_of_ble_eq_true rfl⟩) 0 6 rfl rfl rfl rfl (Nat.le_of_ble_eq_true rfl) dXM_print_17 ⟨Nat.le_of_ble_eq_true rfl, Nat.le_of_ble_eq_true rfl⟩ [0, 1, 2] rfl (by decide) ?_
      refine sw_eq (ws' := [(q0, .inr (6, [.int flt, .int (sp_b dn), .int left, .int wr, .int pr, .int (nI sg), .ref q1, .ref q2, .ref q3, .ref q4, .ref q5, .ref q6, .int num, .ref q7, .ref q8])), (q1, .inl (ta.1, 4, .inl (g))), (q2, .inl (ta.1, 160, .inl (w)))]) (lv2 := [(3, .int (nI 1)), (2, .int (fp_s (nI 17) (w (4 * b + 0)))), (0, .ref q0), (1, .int (nI b))]) (pc2 := 20) (st2 := [.int (w (4 * b + 1)), .int ((fp_s (nI 17) (w (4 * b + 0))) * (nI 31))]) rfl ?_
      refine sw_iadd (x := (fp_s (nI 17) (w (4 * b + 0))) * (nI 31)) (y := w (4 * b + 1)) (v := ((fp_s (nI 17) (w (4 * b + 0))) * (nI 31)) + (w (4 * b + 1))) G dXM_print_20 (rfl) ?_
      refine sw_istore_n G dXM_print_21 rfl (by decide) (lv' := [(2, .int (((fp_s (nI 17) (w (4 * b + 0))) * (nI 31)) + (w (4 * b + 1)))), (3, .int (nI 1)), (0, .ref q0), (1, .int (nI b))]) rfl ?_
      refine sw_iload_n G dXM_print_22 rfl 0 rfl ?_
      refine sw_iload_n G dXM_print_23 rfl 0 rfl ?_
      refine sw_bipush (v := nI 15) G dXM_print_24 (by decide) ?_
      refine sw_iushr (x := ((fp_s (nI 17) (w (4 * b + 0))) * (nI 31)) + (w (4 * b + 1))) (y := nI 15) (v := ((((fp_s (nI 17) (w (4 * b + 0))) * (nI 31)) + (w (4 * b + 1))).toUInt32 >>> ((nI 15).toUInt32 &&& Int32.toUInt32 31)).toInt32) G dXM_print_26 (rfl) ?_
      refine sw_ixor (x := ((fp_s (nI 17) (w (4 * b + 0))) * (nI 31)) + (w (4 * b + 1))) (y := ((((fp_s (nI 17) (w (4 * b + 0))) * (nI 31)) + (w (4 * b + 1))).toUInt32 >>> ((nI 15).toUInt32 &&& Int32.toUInt32 31)).toInt32) (v := fp_s (fp_s (nI 17) (w (4 * b + 0))) (w (4 * b + 1))) G dXM_print_27 (rfl) ?_
      refine sw_istore_n G dXM_print_28 rfl (by decide) (lv' := [(2, .int (fp_s (fp_s (nI 17) (w (4 * b + 0))) (w (4 * b + 1)))), (3, .int (nI 1)), (0, .ref q0), (1, .int (nI b))]) rfl ?_
      refine sw_iinc (x := nI 1) (v := nI 2) G dXM_print_29 (q := 1) rfl (by decide) (by decide) (lv' := [(3, .int (nI 2)), (2, .int (fp_s (fp_s (nI 17) (w (4 * b + 0))) (w (4 * b + 1)))), (0, .ref q0), (1, .int (nI b))]) rfl ?_
      refine sw_goto (tgt := 5) G dXM_print_32 (by decide) ?_
      refine sw_iload_n G dXM_print_5 rfl 0 rfl ?_
      refine sw_iconst (v := nI 4) G dXM_print_6 (by decide) ?_
      refine sw_icmpN_ge (a := 2) (b := 4) (tgt := 35) G dXM_print_7 (by decide) (by omega) (by omega) (fun br7_2 => ?_) (fun br7_2 => ?_)
      · exact absurd br7_2 (by decide)
      · refine sw_iload_n G dXM_print_10 rfl 1 rfl ?_
        refine sw_bipush (v := nI 31) G dXM_print_11 (by decide) ?_
        refine sw_imul (x := fp_s (fp_s (nI 17) (w (4 * b + 0))) (w (4 * b + 1))) (y := nI 31) (v := (fp_s (fp_s (nI 17) (w (4 * b + 0))) (w (4 * b + 1))) * (nI 31)) G dXM_print_13 (rfl) ?_
        refine sw_aload_n G dXM_print_14 rfl 2 rfl ?_
        refine sw_iload_n G dXM_print_15 rfl 3 rfl ?_
        refine sw_iload_n G dXM_print_16 rfl 0 rfl ?_
        refine sw_readV (As := [.int (nI b), .int (nI 2)]) (rest := [.int ((fp_s (fp_s (nI 17) (w (4 * b + 0))) (w (4 * b + 1))) * (nI 31))]) G (c_XM_wordC l D ta q0 q1 q2 q3 q4 q5 q6 q7 q8 flt dn left wr pr sg g w num b 2 (by omega) (by omega)) (cwV 2 G.2.2.2.2.1 (sb_goodV wd_638 wd_640 ws_XM_wordOf wd_8 wd_641) rfl rfl rfl (by decide +kernel) ⟨Nat.le_of_ble_eq_true rfl, Nat.le_of_ble_eq_true rfl⟩) 0 6 rfl rfl rfl rfl (Nat.le_of_ble_eq_true rfl) dXM_print_17 ⟨Nat.le_of_ble_eq_true rfl, Nat.le_of_ble_eq_true rfl⟩ [0, 1, 2] rfl (by decide) ?_
        refine sw_eq (ws' := [(q0, .inr (6, [.int flt, .int (sp_b dn), .int left, .int wr, .int pr, .int (nI sg), .ref q1, .ref q2, .ref q3, .ref q4, .ref q5, .ref q6, .int num, .ref q7, .ref q8])), (q1, .inl (ta.1, 4, .inl (g))), (q2, .inl (ta.1, 160, .inl (w)))]) (lv2 := [(3, .int (nI 2)), (2, .int (fp_s (fp_s (nI 17) (w (4 * b + 0))) (w (4 * b + 1)))), (0, .ref q0), (1, .int (nI b))]) (pc2 := 20) (st2 := [.int (w (4 * b + 2)), .int ((fp_s (fp_s (nI 17) (w (4 * b + 0))) (w (4 * b + 1))) * (nI 31))]) rfl ?_
        refine sw_iadd (x := (fp_s (fp_s (nI 17) (w (4 * b + 0))) (w (4 * b + 1))) * (nI 31)) (y := w (4 * b + 2)) (v := ((fp_s (fp_s (nI 17) (w (4 * b + 0))) (w (4 * b + 1))) * (nI 31)) + (w (4 * b + 2))) G dXM_print_20 (rfl) ?_
        refine sw_istore_n G dXM_print_21 rfl (by decide) (lv' := [(2, .int (((fp_s (fp_s (nI 17) (w (4 * b + 0))) (w (4 * b + 1))) * (nI 31)) + (w (4 * b + 2)))), (3, .int (nI 2)), (0, .ref q0), (1, .int (nI b))]) rfl ?_
        refine sw_iload_n G dXM_print_22 rfl 0 rfl ?_
        refine sw_iload_n G dXM_print_23 rfl 0 rfl ?_
        refine sw_bipush (v := nI 15) G dXM_print_24 (by decide) ?_
        refine sw_iushr (x := ((fp_s (fp_s (nI 17) (w (4 * b + 0))) (w (4 * b + 1))) * (nI 31)) + (w (4 * b + 2))) (y := nI 15) (v := ((((fp_s (fp_s (nI 17) (w (4 * b + 0))) (w (4 * b + 1))) * (nI 31)) + (w (4 * b + 2))).toUInt32 >>> ((nI 15).toUInt32 &&& Int32.toUInt32 31)).toInt32) G dXM_print_26 (rfl) ?_
        refine sw_ixor (x := ((fp_s (fp_s (nI 17) (w (4 * b + 0))) (w (4 * b + 1))) * (nI 31)) + (w (4 * b + 2))) (y := ((((fp_s (fp_s (nI 17) (w (4 * b + 0))) (w (4 * b + 1))) * (nI 31)) + (w (4 * b + 2))).toUInt32 >>> ((nI 15).toUInt32 &&& Int32.toUInt32 31)).toInt32) (v := fp_s (fp_s (fp_s (nI 17) (w (4 * b + 0))) (w (4 * b + 1))) (w (4 * b + 2))) G dXM_print_27 (rfl) ?_
        refine sw_istore_n G dXM_print_28 rfl (by decide) (lv' := [(2, .int (fp_s (fp_s (fp_s (nI 17) (w (4 * b + 0))) (w (4 * b + 1))) (w (4 * b + 2)))), (3, .int (nI 2)), (0, .ref q0), (1, .int (nI b))]) rfl ?_
        refine sw_iinc (x := nI 2) (v := nI 3) G dXM_print_29 (q := 1) rfl (by decide) (by decide) (lv' := [(3, .int (nI 3)), (2, .int (fp_s (fp_s (fp_s (nI 17) (w (4 * b + 0))) (w (4 * b + 1))) (w (4 * b + 2)))), (0, .ref q0), (1, .int (nI b))]) rfl ?_
        refine sw_goto (tgt := 5) G dXM_print_32 (by decide) ?_
        refine sw_iload_n G dXM_print_5 rfl 0 rfl ?_
        refine sw_iconst (v := nI 4) G dXM_print_6 (by decide) ?_
        refine sw_icmpN_ge (a := 3) (b := 4) (tgt := 35) G dXM_print_7 (by decide) (by omega) (by omega) (fun br7_3 => ?_) (fun br7_3 => ?_)
        · exact absurd br7_3 (by decide)
        · refine sw_iload_n G dXM_print_10 rfl 1 rfl ?_
          refine sw_bipush (v := nI 31) G dXM_print_11 (by decide) ?_
          refine sw_imul (x := fp_s (fp_s (fp_s (nI 17) (w (4 * b + 0))) (w (4 * b + 1))) (w (4 * b + 2))) (y := nI 31) (v := (fp_s (fp_s (fp_s (nI 17) (w (4 * b + 0))) (w (4 * b + 1))) (w (4 * b + 2))) * (nI 31)) G dXM_print_13 (rfl) ?_
          refine sw_aload_n G dXM_print_14 rfl 2 rfl ?_
          refine sw_iload_n G dXM_print_15 rfl 3 rfl ?_
          refine sw_iload_n G dXM_print_16 rfl 0 rfl ?_
          refine sw_readV (As := [.int (nI b), .int (nI 3)]) (rest := [.int ((fp_s (fp_s (fp_s (nI 17) (w (4 * b + 0))) (w (4 * b + 1))) (w (4 * b + 2))) * (nI 31))]) G (c_XM_wordC l D ta q0 q1 q2 q3 q4 q5 q6 q7 q8 flt dn left wr pr sg g w num b 3 (by omega) (by omega)) (cwV 2 G.2.2.2.2.1 (sb_goodV wd_638 wd_640 ws_XM_wordOf wd_8 wd_641) rfl rfl rfl (by decide +kernel) ⟨Nat.le_of_ble_eq_true rfl, Nat.le_of_ble_eq_true rfl⟩) 0 6 rfl rfl rfl rfl (Nat.le_of_ble_eq_true rfl) dXM_print_17 ⟨Nat.le_of_ble_eq_true rfl, Nat.le_of_ble_eq_true rfl⟩ [0, 1, 2] rfl (by decide) ?_
          refine sw_eq (ws' := [(q0, .inr (6, [.int flt, .int (sp_b dn), .int left, .int wr, .int pr, .int (nI sg), .ref q1, .ref q2, .ref q3, .ref q4, .ref q5, .ref q6, .int num, .ref q7, .ref q8])), (q1, .inl (ta.1, 4, .inl (g))), (q2, .inl (ta.1, 160, .inl (w)))]) (lv2 := [(3, .int (nI 3)), (2, .int (fp_s (fp_s (fp_s (nI 17) (w (4 * b + 0))) (w (4 * b + 1))) (w (4 * b + 2)))), (0, .ref q0), (1, .int (nI b))]) (pc2 := 20) (st2 := [.int (w (4 * b + 3)), .int ((fp_s (fp_s (fp_s (nI 17) (w (4 * b + 0))) (w (4 * b + 1))) (w (4 * b + 2))) * (nI 31))]) rfl ?_
          refine sw_iadd (x := (fp_s (fp_s (fp_s (nI 17) (w (4 * b + 0))) (w (4 * b + 1))) (w (4 * b + 2))) * (nI 31)) (y := w (4 * b + 3)) (v := ((fp_s (fp_s (fp_s (nI 17) (w (4 * b + 0))) (w (4 * b + 1))) (w (4 * b + 2))) * (nI 31)) + (w (4 * b + 3))) G dXM_print_20 (rfl) ?_
          refine sw_istore_n G dXM_print_21 rfl (by decide) (lv' := [(2, .int (((fp_s (fp_s (fp_s (nI 17) (w (4 * b + 0))) (w (4 * b + 1))) (w (4 * b + 2))) * (nI 31)) + (w (4 * b + 3)))), (3, .int (nI 3)), (0, .ref q0), (1, .int (nI b))]) rfl ?_
          refine sw_iload_n G dXM_print_22 rfl 0 rfl ?_
          refine sw_iload_n G dXM_print_23 rfl 0 rfl ?_
          refine sw_bipush (v := nI 15) G dXM_print_24 (by decide) ?_
          refine sw_iushr (x := ((fp_s (fp_s (fp_s (nI 17) (w (4 * b + 0))) (w (4 * b + 1))) (w (4 * b + 2))) * (nI 31)) + (w (4 * b + 3))) (y := nI 15) (v := ((((fp_s (fp_s (fp_s (nI 17) (w (4 * b + 0))) (w (4 * b + 1))) (w (4 * b + 2))) * (nI 31)) + (w (4 * b + 3))).toUInt32 >>> ((nI 15).toUInt32 &&& Int32.toUInt32 31)).toInt32) G dXM_print_26 (rfl) ?_
          refine sw_ixor (x := ((fp_s (fp_s (fp_s (nI 17) (w (4 * b + 0))) (w (4 * b + 1))) (w (4 * b + 2))) * (nI 31)) + (w (4 * b + 3))) (y := ((((fp_s (fp_s (fp_s (nI 17) (w (4 * b + 0))) (w (4 * b + 1))) (w (4 * b + 2))) * (nI 31)) + (w (4 * b + 3))).toUInt32 >>> ((nI 15).toUInt32 &&& Int32.toUInt32 31)).toInt32) (v := fp_s (fp_s (fp_s (fp_s (nI 17) (w (4 * b + 0))) (w (4 * b + 1))) (w (4 * b + 2))) (w (4 * b + 3))) G dXM_print_27 (rfl) ?_
          refine sw_istore_n G dXM_print_28 rfl (by decide) (lv' := [(2, .int (fp_s (fp_s (fp_s (fp_s (nI 17) (w (4 * b + 0))) (w (4 * b + 1))) (w (4 * b + 2))) (w (4 * b + 3)))), (3, .int (nI 3)), (0, .ref q0), (1, .int (nI b))]) rfl ?_
          refine sw_iinc (x := nI 3) (v := nI 4) G dXM_print_29 (q := 1) rfl (by decide) (by decide) (lv' := [(3, .int (nI 4)), (2, .int (fp_s (fp_s (fp_s (fp_s (nI 17) (w (4 * b + 0))) (w (4 * b + 1))) (w (4 * b + 2))) (w (4 * b + 3)))), (0, .ref q0), (1, .int (nI b))]) rfl ?_
          refine sw_goto (tgt := 5) G dXM_print_32 (by decide) ?_
          refine sw_iload_n G dXM_print_5 rfl 0 rfl ?_
          refine sw_iconst (v := nI 4) G dXM_print_6 (by decide) ?_
          refine sw_icmpN_ge (a := 4) (b := 4) (tgt := 35) G dXM_print_7 (by decide) (by omega) (by omega) (fun br7_4 => ?_) (fun br7_4 => ?_)
          · refine sw_iload_n G dXM_print_35 rfl 1 rfl ?_
            refine sw_sipush (v := nI 255) G dXM_print_36 (by decide) ?_
            refine sw_iand (x := fp_s (fp_s (fp_s (fp_s (nI 17) (w (4 * b + 0))) (w (4 * b + 1))) (w (4 * b + 2))) (w (4 * b + 3))) (y := nI 255) (v := nI (fpN w (b * 4))) G dXM_print_39 (by rw [(show 4 * b = b * 4 from Nat.mul_comm _ _)]; exact fpN_eq w (b * 4)) ?_
            exact sr_iret (x := nI (fpN w (b * 4))) G hr hlk (rfl) dXM_print_40
          · exact absurd br7_4 (by decide)

set_option maxRecDepth 100000 in
set_option maxHeartbeats 4000000 in
theorem c_XM_gateS0 (l : Launch) (D : va_G) (ta : ClassId × ClassId × ClassId) (q0 : Nat) (q1 : Nat) (q2 : Nat) (q3 : Nat) (q4 : Nat) (q5 : Nat) (q6 : Nat) (q7 : Nat) (q8 : Nat) (flt : Int32) (dn : Bool) (left : Int32) (wr : Int32) (pr : Int32) (sg : Nat) (g : Nat → Int32) (w : Nat → Int32) (num : Int32)  : sr l yXM_gateBit wsXM_gateBit ({ frames := 2, cells := 0, slots := 0, locals := 45 }) D ta [.ref q0, .int (-1), .int (nI 0)] [(q0, .inr (6, [.int flt, .int (sp_b dn), .int left, .int wr, .int pr, .int (nI sg), .ref q1, .ref q2, .ref q3, .ref q4, .ref q5, .ref q6, .int num, .ref q7, .ref q8])), (q1, .inl (ta.1, 4, .inl (g))), (q2, .inl (ta.1, 160, .inl (w)))] (some (.int (nI (fpN g 0 % 64)))) := by
  refine sr_ofW (y := yXM_gateBit) (cc := cXM_gateBit) (nL := 5) (ret := (some .int)) (by decide) (Nat.le_of_ble_eq_true rfl) (fun p e s m below meth c G hr hlk hnm => ?_)
  have hf := fpN_lt g 0
  refine sw_eq (ws' := [(q0, .inr (6, [.int flt, .int (sp_b dn), .int left, .int wr, .int pr, .int (nI sg), .ref q1, .ref q2, .ref q3, .ref q4, .ref q5, .ref q6, .int num, .ref q7, .ref q8])), (q1, .inl (ta.1, 4, .inl (g))), (q2, .inl (ta.1, 160, .inl (w)))]) (lv2 := [(0, .ref q0), (1, .int (-1)), (2, .int (nI 0))]) (pc2 := 0) (st2 := []) rfl ?_
  refine sw_aload_n G dXM_gateBit_0 rfl 0 rfl ?_
  refine sw_iload_n G dXM_gateBit_1 rfl 1 rfl ?_
  refine sw_readV (As := [.int (-1)]) (rest := []) G (c_XM_printS l D ta q0 q1 q2 q3 q4 q5 q6 q7 q8 flt dn left wr pr sg g w num ) (cwV 1 G.2.2.2.2.1 (sb_goodV wd_634 wd_636 ws_XM_print wd_8 wd_637) rfl rfl rfl (by decide +kernel) ⟨Nat.le_of_ble_eq_true rfl, Nat.le_of_ble_eq_true rfl⟩) 0 6 rfl rfl rfl rfl (Nat.le_of_ble_eq_true rfl) dXM_gateBit_2 ⟨Nat.le_of_ble_eq_true rfl, Nat.le_of_ble_eq_true rfl⟩ [0, 1, 2] rfl (by decide) ?_
  refine sw_eq (ws' := [(q0, .inr (6, [.int flt, .int (sp_b dn), .int left, .int wr, .int pr, .int (nI sg), .ref q1, .ref q2, .ref q3, .ref q4, .ref q5, .ref q6, .int num, .ref q7, .ref q8])), (q1, .inl (ta.1, 4, .inl (g))), (q2, .inl (ta.1, 160, .inl (w)))]) (lv2 := [(0, .ref q0), (1, .int (-1)), (2, .int (nI 0))]) (pc2 := 5) (st2 := [.int (nI (fpN g 0))]) rfl ?_
  refine sw_istore_n G dXM_gateBit_5 rfl (by decide) (lv' := [(3, .int (nI (fpN g 0))), (0, .ref q0), (1, .int (-1)), (2, .int (nI 0))]) rfl ?_
  refine sw_aload_n G dXM_gateBit_6 rfl 1 rfl ?_
  refine sw_iload_n G dXM_gateBit_7 rfl 2 rfl ?_
  refine sw_iconst (v := nI 0) G dXM_gateBit_8 (by decide) ?_
  refine sw_readV (As := [.int (-1), .int (nI 0)]) (rest := []) G (c_XM_wordS l D ta q0 q1 q2 q3 q4 q5 q6 q7 q8 flt dn left wr pr sg g w num 0 (by omega)) (cwV 2 G.2.2.2.2.1 (sb_goodV wd_638 wd_640 ws_XM_wordOf wd_8 wd_641) rfl rfl rfl (by decide +kernel) ⟨Nat.le_of_ble_eq_true rfl, Nat.le_of_ble_eq_true rfl⟩) 0 6 rfl rfl rfl rfl (Nat.le_of_ble_eq_true rfl) dXM_gateBit_9 ⟨Nat.le_of_ble_eq_true rfl, Nat.le_of_ble_eq_true rfl⟩ [0, 1, 2] rfl (by decide) ?_
  refine sw_eq (ws' := [(q0, .inr (6, [.int flt, .int (sp_b dn), .int left, .int wr, .int pr, .int (nI sg), .ref q1, .ref q2, .ref q3, .ref q4, .ref q5, .ref q6, .int num, .ref q7, .ref q8])), (q1, .inl (ta.1, 4, .inl (g))), (q2, .inl (ta.1, 160, .inl (w)))]) (lv2 := [(3, .int (nI (fpN g 0))), (0, .ref q0), (1, .int (-1)), (2, .int (nI 0))]) (pc2 := 12) (st2 := [.int (g 0)]) rfl ?_
  refine sw_aload_n G dXM_gateBit_12 rfl 1 rfl ?_
  refine sw_iload_n G dXM_gateBit_13 rfl 2 rfl ?_
  refine sw_iconst (v := nI 1) G dXM_gateBit_14 (by decide) ?_
  refine sw_readV (As := [.int (-1), .int (nI 1)]) (rest := [.int (g 0)]) G (c_XM_wordS l D ta q0 q1 q2 q3 q4 q5 q6 q7 q8 flt dn left wr pr sg g w num 1 (by omega)) (cwV 2 G.2.2.2.2.1 (sb_goodV wd_638 wd_640 ws_XM_wordOf wd_8 wd_641) rfl rfl rfl (by decide +kernel) ⟨Nat.le_of_ble_eq_true rfl, Nat.le_of_ble_eq_true rfl⟩) 0 6 rfl rfl rfl rfl (Nat.le_of_ble_eq_true rfl) dXM_gateBit_15 ⟨Nat.le_of_ble_eq_true rfl, Nat.le_of_ble_eq_true rfl⟩ [0, 1, 2] rfl (by decide) ?_
  refine sw_eq (ws' := [(q0, .inr (6, [.int flt, .int (sp_b dn), .int left, .int wr, .int pr, .int (nI sg), .ref q1, .ref q2, .ref q3, .ref q4, .ref q5, .ref q6, .int num, .ref q7, .ref q8])), (q1, .inl (ta.1, 4, .inl (g))), (q2, .inl (ta.1, 160, .inl (w)))]) (lv2 := [(3, .int (nI (fpN g 0))), (0, .ref q0), (1, .int (-1)), (2, .int (nI 0))]) (pc2 := 18) (st2 := [.int (g 1), .int (g 0)]) rfl ?_
  refine sw_ixor (x := g 0) (y := g 1) (v := (g 0) ^^^ (g 1)) G dXM_gateBit_18 (rfl) ?_
  refine sw_aload_n G dXM_gateBit_19 rfl 1 rfl ?_
  refine sw_iload_n G dXM_gateBit_20 rfl 2 rfl ?_
  refine sw_iconst (v := nI 2) G dXM_gateBit_21 (by decide) ?_
  refine sw_readV (As := [.int (-1), .int (nI 2)]) (rest := [.int ((g 0) ^^^ (g 1))]) G (c_XM_wordS l D ta q0 q1 q2 q3 q4 q5 q6 q7 q8 flt dn left wr pr sg g w num 2 (by omega)) (cwV 2 G.2.2.2.2.1 (sb_goodV wd_638 wd_640 ws_XM_wordOf wd_8 wd_641) rfl rfl rfl (by decide +kernel) ⟨Nat.le_of_ble_eq_true rfl, Nat.le_of_ble_eq_true rfl⟩) 0 6 rfl rfl rfl rfl (Nat.le_of_ble_eq_true rfl) dXM_gateBit_22 ⟨Nat.le_of_ble_eq_true rfl, Nat.le_of_ble_eq_true rfl⟩ [0, 1, 2] rfl (by decide) ?_
  refine sw_eq (ws' := [(q0, .inr (6, [.int flt, .int (sp_b dn), .int left, .int wr, .int pr, .int (nI sg), .ref q1, .ref q2, .ref q3, .ref q4, .ref q5, .ref q6, .int num, .ref q7, .ref q8])), (q1, .inl (ta.1, 4, .inl (g))), (q2, .inl (ta.1, 160, .inl (w)))]) (lv2 := [(3, .int (nI (fpN g 0))), (0, .ref q0), (1, .int (-1)), (2, .int (nI 0))]) (pc2 := 25) (st2 := [.int (g 2), .int ((g 0) ^^^ (g 1))]) rfl ?_
  refine sw_ixor (x := (g 0) ^^^ (g 1)) (y := g 2) (v := ((g 0) ^^^ (g 1)) ^^^ (g 2)) G dXM_gateBit_25 (rfl) ?_
  refine sw_aload_n G dXM_gateBit_26 rfl 1 rfl ?_
  refine sw_iload_n G dXM_gateBit_27 rfl 2 rfl ?_
  refine sw_iconst (v := nI 3) G dXM_gateBit_28 (by decide) ?_
  refine sw_readV (As := [.int (-1), .int (nI 3)]) (rest := [.int (((g 0) ^^^ (g 1)) ^^^ (g 2))]) G (c_XM_wordS l D ta q0 q1 q2 q3 q4 q5 q6 q7 q8 flt dn left wr pr sg g w num 3 (by omega)) (cwV 2 G.2.2.2.2.1 (sb_goodV wd_638 wd_640 ws_XM_wordOf wd_8 wd_641) rfl rfl rfl (by decide +kernel) ⟨Nat.le_of_ble_eq_true rfl, Nat.le_of_ble_eq_true rfl⟩) 0 6 rfl rfl rfl rfl (Nat.le_of_ble_eq_true rfl) dXM_gateBit_29 ⟨Nat.le_of_ble_eq_true rfl, Nat.le_of_ble_eq_true rfl⟩ [0, 1, 2] rfl (by decide) ?_
  refine sw_eq (ws' := [(q0, .inr (6, [.int flt, .int (sp_b dn), .int left, .int wr, .int pr, .int (nI sg), .ref q1, .ref q2, .ref q3, .ref q4, .ref q5, .ref q6, .int num, .ref q7, .ref q8])), (q1, .inl (ta.1, 4, .inl (g))), (q2, .inl (ta.1, 160, .inl (w)))]) (lv2 := [(3, .int (nI (fpN g 0))), (0, .ref q0), (1, .int (-1)), (2, .int (nI 0))]) (pc2 := 32) (st2 := [.int (g 3), .int (((g 0) ^^^ (g 1)) ^^^ (g 2))]) rfl ?_
  refine sw_ixor (x := ((g 0) ^^^ (g 1)) ^^^ (g 2)) (y := g 3) (v := fp_m g 0) G dXM_gateBit_32 (rfl) ?_
  refine sw_istore G dXM_gateBit_33 (by decide) (lv' := [(4, .int (fp_m g 0)), (3, .int (nI (fpN g 0))), (0, .ref q0), (1, .int (-1)), (2, .int (nI 0))]) rfl ?_
  refine sw_iload_n G dXM_gateBit_35 rfl 4 rfl ?_
  refine sw_if_ne (x := nI 0) (tgt := 46) G dXM_gateBit_36 (by decide) (fun br36 => ?_) (fun br36 => ?_)
  · exact absurd (by decide) br36
  · refine sw_iload_n G dXM_gateBit_39 rfl 1 rfl ?_
    refine sw_bipush (v := nI 63) G dXM_gateBit_40 (by decide) ?_
    refine sw_iand (x := nI (fpN g 0)) (y := nI 63) (v := nI ((fpN g 0) % 64)) G dXM_gateBit_42 (pk_andN (by omega) 6 (by decide)) ?_
    refine sw_goto (tgt := 62) G dXM_gateBit_43 (by decide) ?_
    exact sr_iret (x := nI ((fpN g 0) % 64)) G hr hlk (rfl) dXM_gateBit_62

set_option maxRecDepth 100000 in
set_option maxHeartbeats 4000000 in
theorem c_XM_gateS1 (l : Launch) (D : va_G) (ta : ClassId × ClassId × ClassId) (q0 : Nat) (q1 : Nat) (q2 : Nat) (q3 : Nat) (q4 : Nat) (q5 : Nat) (q6 : Nat) (q7 : Nat) (q8 : Nat) (flt : Int32) (dn : Bool) (left : Int32) (wr : Int32) (pr : Int32) (sg : Nat) (g : Nat → Int32) (w : Nat → Int32) (num : Int32)  : sr l yXM_gateBit wsXM_gateBit ({ frames := 2, cells := 0, slots := 0, locals := 45 }) D ta [.ref q0, .int (-1), .int (nI 1)] [(q0, .inr (6, [.int flt, .int (sp_b dn), .int left, .int wr, .int pr, .int (nI sg), .ref q1, .ref q2, .ref q3, .ref q4, .ref q5, .ref q6, .int num, .ref q7, .ref q8])), (q1, .inl (ta.1, 4, .inl (g))), (q2, .inl (ta.1, 160, .inl (w)))] (some (.int (nI (fpN g 0 / 4)))) := by
  refine sr_ofW (y := yXM_gateBit) (cc := cXM_gateBit) (nL := 5) (ret := (some .int)) (by decide) (Nat.le_of_ble_eq_true rfl) (fun p e s m below meth c G hr hlk hnm => ?_)
  have hf := fpN_lt g 0
  refine sw_eq (ws' := [(q0, .inr (6, [.int flt, .int (sp_b dn), .int left, .int wr, .int pr, .int (nI sg), .ref q1, .ref q2, .ref q3, .ref q4, .ref q5, .ref q6, .int num, .ref q7, .ref q8])), (q1, .inl (ta.1, 4, .inl (g))), (q2, .inl (ta.1, 160, .inl (w)))]) (lv2 := [(0, .ref q0), (1, .int (-1)), (2, .int (nI 1))]) (pc2 := 0) (st2 := []) rfl ?_
  refine sw_aload_n G dXM_gateBit_0 rfl 0 rfl ?_
  refine sw_iload_n G dXM_gateBit_1 rfl 1 rfl ?_
  refine sw_readV (As := [.int (-1)]) (rest := []) G (c_XM_printS l D ta q0 q1 q2 q3 q4 q5 q6 q7 q8 flt dn left wr pr sg g w num ) (cwV 1 G.2.2.2.2.1 (sb_goodV wd_634 wd_636 ws_XM_print wd_8 wd_637) rfl rfl rfl (by decide +kernel) ⟨Nat.le_of_ble_eq_true rfl, Nat.le_of_ble_eq_true rfl⟩) 0 6 rfl rfl rfl rfl (Nat.le_of_ble_eq_true rfl) dXM_gateBit_2 ⟨Nat.le_of_ble_eq_true rfl, Nat.le_of_ble_eq_true rfl⟩ [0, 1, 2] rfl (by decide) ?_
  refine sw_eq (ws' := [(q0, .inr (6, [.int flt, .int (sp_b dn), .int left, .int wr, .int pr, .int (nI sg), .ref q1, .ref q2, .ref q3, .ref q4, .ref q5, .ref q6, .int num, .ref q7, .ref q8])), (q1, .inl (ta.1, 4, .inl (g))), (q2, .inl (ta.1, 160, .inl (w)))]) (lv2 := [(0, .ref q0), (1, .int (-1)), (2, .int (nI 1))]) (pc2 := 5) (st2 := [.int (nI (fpN g 0))]) rfl ?_
  refine sw_istore_n G dXM_gateBit_5 rfl (by decide) (lv' := [(3, .int (nI (fpN g 0))), (0, .ref q0), (1, .int (-1)), (2, .int (nI 1))]) rfl ?_
  refine sw_aload_n G dXM_gateBit_6 rfl 1 rfl ?_
  refine sw_iload_n G dXM_gateBit_7 rfl 2 rfl ?_
  refine sw_iconst (v := nI 0) G dXM_gateBit_8 (by decide) ?_
  refine sw_readV (As := [.int (-1), .int (nI 0)]) (rest := []) G (c_XM_wordS l D ta q0 q1 q2 q3 q4 q5 q6 q7 q8 flt dn left wr pr sg g w num 0 (by omega)) (cwV 2 G.2.2.2.2.1 (sb_goodV wd_638 wd_640 ws_XM_wordOf wd_8 wd_641) rfl rfl rfl (by decide +kernel) ⟨Nat.le_of_ble_eq_true rfl, Nat.le_of_ble_eq_true rfl⟩) 0 6 rfl rfl rfl rfl (Nat.le_of_ble_eq_true rfl) dXM_gateBit_9 ⟨Nat.le_of_ble_eq_true rfl, Nat.le_of_ble_eq_true rfl⟩ [0, 1, 2] rfl (by decide) ?_
  refine sw_eq (ws' := [(q0, .inr (6, [.int flt, .int (sp_b dn), .int left, .int wr, .int pr, .int (nI sg), .ref q1, .ref q2, .ref q3, .ref q4, .ref q5, .ref q6, .int num, .ref q7, .ref q8])), (q1, .inl (ta.1, 4, .inl (g))), (q2, .inl (ta.1, 160, .inl (w)))]) (lv2 := [(3, .int (nI (fpN g 0))), (0, .ref q0), (1, .int (-1)), (2, .int (nI 1))]) (pc2 := 12) (st2 := [.int (g 0)]) rfl ?_
  refine sw_aload_n G dXM_gateBit_12 rfl 1 rfl ?_
  refine sw_iload_n G dXM_gateBit_13 rfl 2 rfl ?_
  refine sw_iconst (v := nI 1) G dXM_gateBit_14 (by decide) ?_
  refine sw_readV (As := [.int (-1), .int (nI 1)]) (rest := [.int (g 0)]) G (c_XM_wordS l D ta q0 q1 q2 q3 q4 q5 q6 q7 q8 flt dn left wr pr sg g w num 1 (by omega)) (cwV 2 G.2.2.2.2.1 (sb_goodV wd_638 wd_640 ws_XM_wordOf wd_8 wd_641) rfl rfl rfl (by decide +kernel) ⟨Nat.le_of_ble_eq_true rfl, Nat.le_of_ble_eq_true rfl⟩) 0 6 rfl rfl rfl rfl (Nat.le_of_ble_eq_true rfl) dXM_gateBit_15 ⟨Nat.le_of_ble_eq_true rfl, Nat.le_of_ble_eq_true rfl⟩ [0, 1, 2] rfl (by decide) ?_
  refine sw_eq (ws' := [(q0, .inr (6, [.int flt, .int (sp_b dn), .int left, .int wr, .int pr, .int (nI sg), .ref q1, .ref q2, .ref q3, .ref q4, .ref q5, .ref q6, .int num, .ref q7, .ref q8])), (q1, .inl (ta.1, 4, .inl (g))), (q2, .inl (ta.1, 160, .inl (w)))]) (lv2 := [(3, .int (nI (fpN g 0))), (0, .ref q0), (1, .int (-1)), (2, .int (nI 1))]) (pc2 := 18) (st2 := [.int (g 1), .int (g 0)]) rfl ?_
  refine sw_ixor (x := g 0) (y := g 1) (v := (g 0) ^^^ (g 1)) G dXM_gateBit_18 (rfl) ?_
  refine sw_aload_n G dXM_gateBit_19 rfl 1 rfl ?_
  refine sw_iload_n G dXM_gateBit_20 rfl 2 rfl ?_
  refine sw_iconst (v := nI 2) G dXM_gateBit_21 (by decide) ?_
  refine sw_readV (As := [.int (-1), .int (nI 2)]) (rest := [.int ((g 0) ^^^ (g 1))]) G (c_XM_wordS l D ta q0 q1 q2 q3 q4 q5 q6 q7 q8 flt dn left wr pr sg g w num 2 (by omega)) (cwV 2 G.2.2.2.2.1 (sb_goodV wd_638 wd_640 ws_XM_wordOf wd_8 wd_641) rfl rfl rfl (by decide +kernel) ⟨Nat.le_of_ble_eq_true rfl, Nat.le_of_ble_eq_true rfl⟩) 0 6 rfl rfl rfl rfl (Nat.le_of_ble_eq_true rfl) dXM_gateBit_22 ⟨Nat.le_of_ble_eq_true rfl, Nat.le_of_ble_eq_true rfl⟩ [0, 1, 2] rfl (by decide) ?_
  refine sw_eq (ws' := [(q0, .inr (6, [.int flt, .int (sp_b dn), .int left, .int wr, .int pr, .int (nI sg), .ref q1, .ref q2, .ref q3, .ref q4, .ref q5, .ref q6, .int num, .ref q7, .ref q8])), (q1, .inl (ta.1, 4, .inl (g))), (q2, .inl (ta.1, 160, .inl (w)))]) (lv2 := [(3, .int (nI (fpN g 0))), (0, .ref q0), (1, .int (-1)), (2, .int (nI 1))]) (pc2 := 25) (st2 := [.int (g 2), .int ((g 0) ^^^ (g 1))]) rfl ?_
  refine sw_ixor (x := (g 0) ^^^ (g 1)) (y := g 2) (v := ((g 0) ^^^ (g 1)) ^^^ (g 2)) G dXM_gateBit_25 (rfl) ?_
  refine sw_aload_n G dXM_gateBit_26 rfl 1 rfl ?_
  refine sw_iload_n G dXM_gateBit_27 rfl 2 rfl ?_
  refine sw_iconst (v := nI 3) G dXM_gateBit_28 (by decide) ?_
  refine sw_readV (As := [.int (-1), .int (nI 3)]) (rest := [.int (((g 0) ^^^ (g 1)) ^^^ (g 2))]) G (c_XM_wordS l D ta q0 q1 q2 q3 q4 q5 q6 q7 q8 flt dn left wr pr sg g w num 3 (by omega)) (cwV 2 G.2.2.2.2.1 (sb_goodV wd_638 wd_640 ws_XM_wordOf wd_8 wd_641) rfl rfl rfl (by decide +kernel) ⟨Nat.le_of_ble_eq_true rfl, Nat.le_of_ble_eq_true rfl⟩) 0 6 rfl rfl rfl rfl (Nat.le_of_ble_eq_true rfl) dXM_gateBit_29 ⟨Nat.le_of_ble_eq_true rfl, Nat.le_of_ble_eq_true rfl⟩ [0, 1, 2] rfl (by decide) ?_
  refine sw_eq (ws' := [(q0, .inr (6, [.int flt, .int (sp_b dn), .int left, .int wr, .int pr, .int (nI sg), .ref q1, .ref q2, .ref q3, .ref q4, .ref q5, .ref q6, .int num, .ref q7, .ref q8])), (q1, .inl (ta.1, 4, .inl (g))), (q2, .inl (ta.1, 160, .inl (w)))]) (lv2 := [(3, .int (nI (fpN g 0))), (0, .ref q0), (1, .int (-1)), (2, .int (nI 1))]) (pc2 := 32) (st2 := [.int (g 3), .int (((g 0) ^^^ (g 1)) ^^^ (g 2))]) rfl ?_
  refine sw_ixor (x := ((g 0) ^^^ (g 1)) ^^^ (g 2)) (y := g 3) (v := fp_m g 0) G dXM_gateBit_32 (rfl) ?_
  refine sw_istore G dXM_gateBit_33 (by decide) (lv' := [(4, .int (fp_m g 0)), (3, .int (nI (fpN g 0))), (0, .ref q0), (1, .int (-1)), (2, .int (nI 1))]) rfl ?_
  refine sw_iload_n G dXM_gateBit_35 rfl 4 rfl ?_
  refine sw_if_ne (x := nI 1) (tgt := 46) G dXM_gateBit_36 (by decide) (fun br36 => ?_) (fun br36 => ?_)
  · refine sw_iload_n G dXM_gateBit_46 rfl 4 rfl ?_
    refine sw_iconst (v := nI 1) G dXM_gateBit_47 (by decide) ?_
    refine sw_icmpN_ne (a := 1) (b := 1) (tgt := 57) G dXM_gateBit_48 (by decide) (by omega) (by omega) (fun br48 => ?_) (fun br48 => ?_)
    · exact absurd br48 (by decide)
    · refine sw_iload_n G dXM_gateBit_51 rfl 1 rfl ?_
      refine sw_iconst (v := nI 2) G dXM_gateBit_52 (by decide) ?_
      refine sw_ishr (x := nI (fpN g 0)) (y := nI 2) (v := nI ((fpN g 0) / 4)) G dXM_gateBit_53 (pk_shrN (by omega) _ 2 (by decide)) ?_
      refine sw_goto (tgt := 62) G dXM_gateBit_54 (by decide) ?_
      exact sr_iret (x := nI ((fpN g 0) / 4)) G hr hlk (rfl) dXM_gateBit_62
  · exact absurd br36 (by decide)

set_option maxRecDepth 100000 in
set_option maxHeartbeats 4000000 in
theorem c_XM_gateS2 (l : Launch) (D : va_G) (ta : ClassId × ClassId × ClassId) (q0 : Nat) (q1 : Nat) (q2 : Nat) (q3 : Nat) (q4 : Nat) (q5 : Nat) (q6 : Nat) (q7 : Nat) (q8 : Nat) (flt : Int32) (dn : Bool) (left : Int32) (wr : Int32) (pr : Int32) (sg : Nat) (g : Nat → Int32) (w : Nat → Int32) (num : Int32)  : sr l yXM_gateBit wsXM_gateBit ({ frames := 2, cells := 0, slots := 0, locals := 45 }) D ta [.ref q0, .int (-1), .int (nI 2)] [(q0, .inr (6, [.int flt, .int (sp_b dn), .int left, .int wr, .int pr, .int (nI sg), .ref q1, .ref q2, .ref q3, .ref q4, .ref q5, .ref q6, .int num, .ref q7, .ref q8])), (q1, .inl (ta.1, 4, .inl (g))), (q2, .inl (ta.1, 160, .inl (w)))] (some (.int (nI (mixN g 0)))) := by
  refine sr_ofW (y := yXM_gateBit) (cc := cXM_gateBit) (nL := 5) (ret := (some .int)) (by decide) (Nat.le_of_ble_eq_true rfl) (fun p e s m below meth c G hr hlk hnm => ?_)
  have hf := fpN_lt g 0
  refine sw_eq (ws' := [(q0, .inr (6, [.int flt, .int (sp_b dn), .int left, .int wr, .int pr, .int (nI sg), .ref q1, .ref q2, .ref q3, .ref q4, .ref q5, .ref q6, .int num, .ref q7, .ref q8])), (q1, .inl (ta.1, 4, .inl (g))), (q2, .inl (ta.1, 160, .inl (w)))]) (lv2 := [(0, .ref q0), (1, .int (-1)), (2, .int (nI 2))]) (pc2 := 0) (st2 := []) rfl ?_
  refine sw_aload_n G dXM_gateBit_0 rfl 0 rfl ?_
  refine sw_iload_n G dXM_gateBit_1 rfl 1 rfl ?_
  refine sw_readV (As := [.int (-1)]) (rest := []) G (c_XM_printS l D ta q0 q1 q2 q3 q4 q5 q6 q7 q8 flt dn left wr pr sg g w num ) (cwV 1 G.2.2.2.2.1 (sb_goodV wd_634 wd_636 ws_XM_print wd_8 wd_637) rfl rfl rfl (by decide +kernel) ⟨Nat.le_of_ble_eq_true rfl, Nat.le_of_ble_eq_true rfl⟩) 0 6 rfl rfl rfl rfl (Nat.le_of_ble_eq_true rfl) dXM_gateBit_2 ⟨Nat.le_of_ble_eq_true rfl, Nat.le_of_ble_eq_true rfl⟩ [0, 1, 2] rfl (by decide) ?_
  refine sw_eq (ws' := [(q0, .inr (6, [.int flt, .int (sp_b dn), .int left, .int wr, .int pr, .int (nI sg), .ref q1, .ref q2, .ref q3, .ref q4, .ref q5, .ref q6, .int num, .ref q7, .ref q8])), (q1, .inl (ta.1, 4, .inl (g))), (q2, .inl (ta.1, 160, .inl (w)))]) (lv2 := [(0, .ref q0), (1, .int (-1)), (2, .int (nI 2))]) (pc2 := 5) (st2 := [.int (nI (fpN g 0))]) rfl ?_
  refine sw_istore_n G dXM_gateBit_5 rfl (by decide) (lv' := [(3, .int (nI (fpN g 0))), (0, .ref q0), (1, .int (-1)), (2, .int (nI 2))]) rfl ?_
  refine sw_aload_n G dXM_gateBit_6 rfl 1 rfl ?_
  refine sw_iload_n G dXM_gateBit_7 rfl 2 rfl ?_
  refine sw_iconst (v := nI 0) G dXM_gateBit_8 (by decide) ?_
  refine sw_readV (As := [.int (-1), .int (nI 0)]) (rest := []) G (c_XM_wordS l D ta q0 q1 q2 q3 q4 q5 q6 q7 q8 flt dn left wr pr sg g w num 0 (by omega)) (cwV 2 G.2.2.2.2.1 (sb_goodV wd_638 wd_640 ws_XM_wordOf wd_8 wd_641) rfl rfl rfl (by decide +kernel) ⟨Nat.le_of_ble_eq_true rfl, Nat.le_of_ble_eq_true rfl⟩) 0 6 rfl rfl rfl rfl (Nat.le_of_ble_eq_true rfl) dXM_gateBit_9 ⟨Nat.le_of_ble_eq_true rfl, Nat.le_of_ble_eq_true rfl⟩ [0, 1, 2] rfl (by decide) ?_
  refine sw_eq (ws' := [(q0, .inr (6, [.int flt, .int (sp_b dn), .int left, .int wr, .int pr, .int (nI sg), .ref q1, .ref q2, .ref q3, .ref q4, .ref q5, .ref q6, .int num, .ref q7, .ref q8])), (q1, .inl (ta.1, 4, .inl (g))), (q2, .inl (ta.1, 160, .inl (w)))]) (lv2 := [(3, .int (nI (fpN g 0))), (0, .ref q0), (1, .int (-1)), (2, .int (nI 2))]) (pc2 := 12) (st2 := [.int (g 0)]) rfl ?_
  refine sw_aload_n G dXM_gateBit_12 rfl 1 rfl ?_
  refine sw_iload_n G dXM_gateBit_13 rfl 2 rfl ?_
  refine sw_iconst (v := nI 1) G dXM_gateBit_14 (by decide) ?_
  refine sw_readV (As := [.int (-1), .int (nI 1)]) (rest := [.int (g 0)]) G (c_XM_wordS l D ta q0 q1 q2 q3 q4 q5 q6 q7 q8 flt dn left wr pr sg g w num 1 (by omega)) (cwV 2 G.2.2.2.2.1 (sb_goodV wd_638 wd_640 ws_XM_wordOf wd_8 wd_641) rfl rfl rfl (by decide +kernel) ⟨Nat.le_of_ble_eq_true rfl, Nat.le_of_ble_eq_true rfl⟩) 0 6 rfl rfl rfl rfl (Nat.le_of_ble_eq_true rfl) dXM_gateBit_15 ⟨Nat.le_of_ble_eq_true rfl, Nat.le_of_ble_eq_true rfl⟩ [0, 1, 2] rfl (by decide) ?_
  refine sw_eq (ws' := [(q0, .inr (6, [.int flt, .int (sp_b dn), .int left, .int wr, .int pr, .int (nI sg), .ref q1, .ref q2, .ref q3, .ref q4, .ref q5, .ref q6, .int num, .ref q7, .ref q8])), (q1, .inl (ta.1, 4, .inl (g))), (q2, .inl (ta.1, 160, .inl (w)))]) (lv2 := [(3, .int (nI (fpN g 0))), (0, .ref q0), (1, .int (-1)), (2, .int (nI 2))]) (pc2 := 18) (st2 := [.int (g 1), .int (g 0)]) rfl ?_
  refine sw_ixor (x := g 0) (y := g 1) (v := (g 0) ^^^ (g 1)) G dXM_gateBit_18 (rfl) ?_
  refine sw_aload_n G dXM_gateBit_19 rfl 1 rfl ?_
  refine sw_iload_n G dXM_gateBit_20 rfl 2 rfl ?_
  refine sw_iconst (v := nI 2) G dXM_gateBit_21 (by decide) ?_
  refine sw_readV (As := [.int (-1), .int (nI 2)]) (rest := [.int ((g 0) ^^^ (g 1))]) G (c_XM_wordS l D ta q0 q1 q2 q3 q4 q5 q6 q7 q8 flt dn left wr pr sg g w num 2 (by omega)) (cwV 2 G.2.2.2.2.1 (sb_goodV wd_638 wd_640 ws_XM_wordOf wd_8 wd_641) rfl rfl rfl (by decide +kernel) ⟨Nat.le_of_ble_eq_true rfl, Nat.le_of_ble_eq_true rfl⟩) 0 6 rfl rfl rfl rfl (Nat.le_of_ble_eq_true rfl) dXM_gateBit_22 ⟨Nat.le_of_ble_eq_true rfl, Nat.le_of_ble_eq_true rfl⟩ [0, 1, 2] rfl (by decide) ?_
  refine sw_eq (ws' := [(q0, .inr (6, [.int flt, .int (sp_b dn), .int left, .int wr, .int pr, .int (nI sg), .ref q1, .ref q2, .ref q3, .ref q4, .ref q5, .ref q6, .int num, .ref q7, .ref q8])), (q1, .inl (ta.1, 4, .inl (g))), (q2, .inl (ta.1, 160, .inl (w)))]) (lv2 := [(3, .int (nI (fpN g 0))), (0, .ref q0), (1, .int (-1)), (2, .int (nI 2))]) (pc2 := 25) (st2 := [.int (g 2), .int ((g 0) ^^^ (g 1))]) rfl ?_
  refine sw_ixor (x := (g 0) ^^^ (g 1)) (y := g 2) (v := ((g 0) ^^^ (g 1)) ^^^ (g 2)) G dXM_gateBit_25 (rfl) ?_
  refine sw_aload_n G dXM_gateBit_26 rfl 1 rfl ?_
  refine sw_iload_n G dXM_gateBit_27 rfl 2 rfl ?_
  refine sw_iconst (v := nI 3) G dXM_gateBit_28 (by decide) ?_
  refine sw_readV (As := [.int (-1), .int (nI 3)]) (rest := [.int (((g 0) ^^^ (g 1)) ^^^ (g 2))]) G (c_XM_wordS l D ta q0 q1 q2 q3 q4 q5 q6 q7 q8 flt dn left wr pr sg g w num 3 (by omega)) (cwV 2 G.2.2.2.2.1 (sb_goodV wd_638 wd_640 ws_XM_wordOf wd_8 wd_641) rfl rfl rfl (by decide +kernel) ⟨Nat.le_of_ble_eq_true rfl, Nat.le_of_ble_eq_true rfl⟩) 0 6 rfl rfl rfl rfl (Nat.le_of_ble_eq_true rfl) dXM_gateBit_29 ⟨Nat.le_of_ble_eq_true rfl, Nat.le_of_ble_eq_true rfl⟩ [0, 1, 2] rfl (by decide) ?_
  refine sw_eq (ws' := [(q0, .inr (6, [.int flt, .int (sp_b dn), .int left, .int wr, .int pr, .int (nI sg), .ref q1, .ref q2, .ref q3, .ref q4, .ref q5, .ref q6, .int num, .ref q7, .ref q8])), (q1, .inl (ta.1, 4, .inl (g))), (q2, .inl (ta.1, 160, .inl (w)))]) (lv2 := [(3, .int (nI (fpN g 0))), (0, .ref q0), (1, .int (-1)), (2, .int (nI 2))]) (pc2 := 32) (st2 := [.int (g 3), .int (((g 0) ^^^ (g 1)) ^^^ (g 2))]) rfl ?_
  refine sw_ixor (x := ((g 0) ^^^ (g 1)) ^^^ (g 2)) (y := g 3) (v := fp_m g 0) G dXM_gateBit_32 (rfl) ?_
  refine sw_istore G dXM_gateBit_33 (by decide) (lv' := [(4, .int (fp_m g 0)), (3, .int (nI (fpN g 0))), (0, .ref q0), (1, .int (-1)), (2, .int (nI 2))]) rfl ?_
  refine sw_iload_n G dXM_gateBit_35 rfl 4 rfl ?_
  refine sw_if_ne (x := nI 2) (tgt := 46) G dXM_gateBit_36 (by decide) (fun br36 => ?_) (fun br36 => ?_)
  · refine sw_iload_n G dXM_gateBit_46 rfl 4 rfl ?_
    refine sw_iconst (v := nI 1) G dXM_gateBit_47 (by decide) ?_
    refine sw_icmpN_ne (a := 2) (b := 1) (tgt := 57) G dXM_gateBit_48 (by decide) (by omega) (by omega) (fun br48 => ?_) (fun br48 => ?_)
    · refine sw_iload G dXM_gateBit_57 0 rfl ?_
      refine sw_bipush (v := nI 63) G dXM_gateBit_59 (by decide) ?_
      refine sw_iand (x := fp_m g 0) (y := nI 63) (v := nI (mixN g 0)) G dXM_gateBit_61 (mixN_eq _ _) ?_
      exact sr_iret (x := nI (mixN g 0)) G hr hlk (rfl) dXM_gateBit_62
    · exact absurd br48 (by decide)
  · exact absurd br36 (by decide)

set_option maxRecDepth 100000 in
set_option maxHeartbeats 4000000 in
theorem c_XM_gateC0 (l : Launch) (D : va_G) (ta : ClassId × ClassId × ClassId) (q0 : Nat) (q1 : Nat) (q2 : Nat) (q3 : Nat) (q4 : Nat) (q5 : Nat) (q6 : Nat) (q7 : Nat) (q8 : Nat) (flt : Int32) (dn : Bool) (left : Int32) (wr : Int32) (pr : Int32) (sg : Nat) (g : Nat → Int32) (w : Nat → Int32) (num : Int32) (b : Nat) (hb : b < 40) : sr l yXM_gateBit wsXM_gateBit ({ frames := 2, cells := 0, slots := 0, locals := 45 }) D ta [.ref q0, .int (nI b), .int (nI 0)] [(q0, .inr (6, [.int flt, .int (sp_b dn), .int left, .int wr, .int pr, .int (nI sg), .ref q1, .ref q2, .ref q3, .ref q4, .ref q5, .ref q6, .int num, .ref q7, .ref q8])), (q1, .inl (ta.1, 4, .inl (g))), (q2, .inl (ta.1, 160, .inl (w)))] (some (.int (nI (fpN w (b * 4) % 64)))) := by
  refine sr_ofW (y := yXM_gateBit) (cc := cXM_gateBit) (nL := 5) (ret := (some .int)) (by decide) (Nat.le_of_ble_eq_true rfl) (fun p e s m below meth c G hr hlk hnm => ?_)
  have hf := fpN_lt w (b * 4)
  refine sw_eq (ws' := [(q0, .inr (6, [.int flt, .int (sp_b dn), .int left, .int wr, .int pr, .int (nI sg), .ref q1, .ref q2, .ref q3, .ref q4, .ref q5, .ref q6, .int num, .ref q7, .ref q8])), (q1, .inl (ta.1, 4, .inl (g))), (q2, .inl (ta.1, 160, .inl (w)))]) (lv2 := [(0, .ref q0), (1, .int (nI b)), (2, .int (nI 0))]) (pc2 := 0) (st2 := []) rfl ?_
  refine sw_aload_n G dXM_gateBit_0 rfl 0 rfl ?_
  refine sw_iload_n G dXM_gateBit_1 rfl 1 rfl ?_
  refine sw_readV (As := [.int (nI b)]) (rest := []) G (c_XM_printC l D ta q0 q1 q2 q3 q4 q5 q6 q7 q8 flt dn left wr pr sg g w num b (by omega)) (cwV 1 G.2.2.2.2.1 (sb_goodV wd_634 wd_636 ws_XM_print wd_8 wd_637) rfl rfl rfl (by decide +kernel) ⟨Nat.le_of_ble_eq_true rfl, Nat.le_of_ble_eq_true rfl⟩) 0 6 rfl rfl rfl rfl (Nat.le_of_ble_eq_true rfl) dXM_gateBit_2 ⟨Nat.le_of_ble_eq_true rfl, Nat.le_of_ble_eq_true rfl⟩ [0, 1, 2] rfl (by decide) ?_
  refine sw_eq (ws' := [(q0, .inr (6, [.int flt, .int (sp_b dn), .int left, .int wr, .int pr, .int (nI sg), .ref q1, .ref q2, .ref q3, .ref q4, .ref q5, .ref q6, .int num, .ref q7, .ref q8])), (q1, .inl (ta.1, 4, .inl (g))), (q2, .inl (ta.1, 160, .inl (w)))]) (lv2 := [(0, .ref q0), (1, .int (nI b)), (2, .int (nI 0))]) (pc2 := 5) (st2 := [.int (nI (fpN w (b * 4)))]) rfl ?_
  refine sw_istore_n G dXM_gateBit_5 rfl (by decide) (lv' := [(3, .int (nI (fpN w (b * 4)))), (0, .ref q0), (1, .int (nI b)), (2, .int (nI 0))]) rfl ?_
  refine sw_aload_n G dXM_gateBit_6 rfl 1 rfl ?_
  refine sw_iload_n G dXM_gateBit_7 rfl 2 rfl ?_
  refine sw_iconst (v := nI 0) G dXM_gateBit_8 (by decide) ?_
  refine sw_readV (As := [.int (nI b), .int (nI 0)]) (rest := []) G (c_XM_wordC l D ta q0 q1 q2 q3 q4 q5 q6 q7 q8 flt dn left wr pr sg g w num b 0 (by omega) (by omega)) (cwV 2 G.2.2.2.2.1 (sb_goodV wd_638 wd_640 ws_XM_wordOf wd_8 wd_641) rfl rfl rfl (by decide +kernel) ⟨Nat.le_of_ble_eq_true rfl, Nat.le_of_ble_eq_true rfl⟩) 0 6 rfl rfl rfl rfl (Nat.le_of_ble_eq_true rfl) dXM_gateBit_9 ⟨Nat.le_of_ble_eq_true rfl, Nat.le_of_ble_eq_true rfl⟩ [0, 1, 2] rfl (by decide) ?_
  refine sw_eq (ws' := [(q0, .inr (6, [.int flt, .int (sp_b dn), .int left, .int wr, .int pr, .int (nI sg), .ref q1, .ref q2, .ref q3, .ref q4, .ref q5, .ref q6, .int num, .ref q7, .ref q8])), (q1, .inl (ta.1, 4, .inl (g))), (q2, .inl (ta.1, 160, .inl (w)))]) (lv2 := [(3, .int (nI (fpN w (b * 4)))), (0, .ref q0), (1, .int (nI b)), (2, .int (nI 0))]) (pc2 := 12) (st2 := [.int (w (4 * b + 0))]) rfl ?_
  refine sw_aload_n G dXM_gateBit_12 rfl 1 rfl ?_
  refine sw_iload_n G dXM_gateBit_13 rfl 2 rfl ?_
  refine sw_iconst (v := nI 1) G dXM_gateBit_14 (by decide) ?_
  refine sw_readV (As := [.int (nI b), .int (nI 1)]) (rest := [.int (w (4 * b + 0))]) G (c_XM_wordC l D ta q0 q1 q2 q3 q4 q5 q6 q7 q8 flt dn left wr pr sg g w num b 1 (by omega) (by omega)) (cwV 2 G.2.2.2.2.1 (sb_goodV wd_638 wd_640 ws_XM_wordOf wd_8 wd_641) rfl rfl rfl (by decide +kernel) ⟨Nat.le_of_ble_eq_true rfl, Nat.le_of_ble_eq_true rfl⟩) 0 6 rfl rfl rfl rfl (Nat.le_of_ble_eq_true rfl) dXM_gateBit_15 ⟨Nat.le_of_ble_eq_true rfl, Nat.le_of_ble_eq_true rfl⟩ [0, 1, 2] rfl (by decide) ?_
  refine sw_eq (ws' := [(q0, .inr (6, [.int flt, .int (sp_b dn), .int left, .int wr, .int pr, .int (nI sg), .ref q1, .ref q2, .ref q3, .ref q4, .ref q5, .ref q6, .int num, .ref q7, .ref q8])), (q1, .inl (ta.1, 4, .inl (g))), (q2, .inl (ta.1, 160, .inl (w)))]) (lv2 := [(3, .int (nI (fpN w (b * 4)))), (0, .ref q0), (1, .int (nI b)), (2, .int (nI 0))]) (pc2 := 18) (st2 := [.int (w (4 * b + 1)), .int (w (4 * b + 0))]) rfl ?_
  refine sw_ixor (x := w (4 * b + 0)) (y := w (4 * b + 1)) (v := (w (4 * b + 0)) ^^^ (w (4 * b + 1))) G dXM_gateBit_18 (rfl) ?_
  refine sw_aload_n G dXM_gateBit_19 rfl 1 rfl ?_
  refine sw_iload_n G dXM_gateBit_20 rfl 2 rfl ?_
  refine sw_iconst (v := nI 2) G dXM_gateBit_21 (by decide) ?_
  refine sw_readV (As := [.int (nI b), .int (nI 2)]) (rest := [.int ((w (4 * b + 0)) ^^^ (w (4 * b + 1)))]) G (c_XM_wordC l D ta q0 q1 q2 q3 q4 q5 q6 q7 q8 flt dn left wr pr sg g w num b 2 (by omega) (by omega)) (cwV 2 G.2.2.2.2.1 (sb_goodV wd_638 wd_640 ws_XM_wordOf wd_8 wd_641) rfl rfl rfl (by decide +kernel) ⟨Nat.le_of_ble_eq_true rfl, Nat.le_of_ble_eq_true rfl⟩) 0 6 rfl rfl rfl rfl (Nat.le_of_ble_eq_true rfl) dXM_gateBit_22 ⟨Nat.le_of_ble_eq_true rfl, Nat.le_of_ble_eq_true rfl⟩ [0, 1, 2] rfl (by decide) ?_
  refine sw_eq (ws' := [(q0, .inr (6, [.int flt, .int (sp_b dn), .int left, .int wr, .int pr, .int (nI sg), .ref q1, .ref q2, .ref q3, .ref q4, .ref q5, .ref q6, .int num, .ref q7, .ref q8])), (q1, .inl (ta.1, 4, .inl (g))), (q2, .inl (ta.1, 160, .inl (w)))]) (lv2 := [(3, .int (nI (fpN w (b * 4)))), (0, .ref q0), (1, .int (nI b)), (2, .int (nI 0))]) (pc2 := 25) (st2 := [.int (w (4 * b + 2)), .int ((w (4 * b + 0)) ^^^ (w (4 * b + 1)))]) rfl ?_
  refine sw_ixor (x := (w (4 * b + 0)) ^^^ (w (4 * b + 1))) (y := w (4 * b + 2)) (v := ((w (4 * b + 0)) ^^^ (w (4 * b + 1))) ^^^ (w (4 * b + 2))) G dXM_gateBit_25 (rfl) ?_
  refine sw_aload_n G dXM_gateBit_26 rfl 1 rfl ?_
  refine sw_iload_n G dXM_gateBit_27 rfl 2 rfl ?_
  refine sw_iconst (v := nI 3) G dXM_gateBit_28 (by decide) ?_
  refine sw_readV (As := [.int (nI b), .int (nI 3)]) (rest := [.int (((w (4 * b + 0)) ^^^ (w (4 * b + 1))) ^^^ (w (4 * b + 2)))]) G (c_XM_wordC l D ta q0 q1 q2 q3 q4 q5 q6 q7 q8 flt dn left wr pr sg g w num b 3 (by omega) (by omega)) (cwV 2 G.2.2.2.2.1 (sb_goodV wd_638 wd_640 ws_XM_wordOf wd_8 wd_641) rfl rfl rfl (by decide +kernel) ⟨Nat.le_of_ble_eq_true rfl, Nat.le_of_ble_eq_true rfl⟩) 0 6 rfl rfl rfl rfl (Nat.le_of_ble_eq_true rfl) dXM_gateBit_29 ⟨Nat.le_of_ble_eq_true rfl, Nat.le_of_ble_eq_true rfl⟩ [0, 1, 2] rfl (by decide) ?_
  refine sw_eq (ws' := [(q0, .inr (6, [.int flt, .int (sp_b dn), .int left, .int wr, .int pr, .int (nI sg), .ref q1, .ref q2, .ref q3, .ref q4, .ref q5, .ref q6, .int num, .ref q7, .ref q8])), (q1, .inl (ta.1, 4, .inl (g))), (q2, .inl (ta.1, 160, .inl (w)))]) (lv2 := [(3, .int (nI (fpN w (b * 4)))), (0, .ref q0), (1, .int (nI b)), (2, .int (nI 0))]) (pc2 := 32) (st2 := [.int (w (4 * b + 3)), .int (((w (4 * b + 0)) ^^^ (w (4 * b + 1))) ^^^ (w (4 * b + 2)))]) rfl ?_
  refine sw_ixor (x := ((w (4 * b + 0)) ^^^ (w (4 * b + 1))) ^^^ (w (4 * b + 2))) (y := w (4 * b + 3)) (v := fp_m w (b * 4)) G dXM_gateBit_32 (by rw [(show 4 * b = b * 4 from Nat.mul_comm _ _)] <;> rfl) ?_
  refine sw_istore G dXM_gateBit_33 (by decide) (lv' := [(4, .int (fp_m w (b * 4))), (3, .int (nI (fpN w (b * 4)))), (0, .ref q0), (1, .int (nI b)), (2, .int (nI 0))]) rfl ?_
  refine sw_iload_n G dXM_gateBit_35 rfl 4 rfl ?_
  refine sw_if_ne (x := nI 0) (tgt := 46) G dXM_gateBit_36 (by decide) (fun br36 => ?_) (fun br36 => ?_)
  · exact absurd (by decide) br36
  · refine sw_iload_n G dXM_gateBit_39 rfl 1 rfl ?_
    refine sw_bipush (v := nI 63) G dXM_gateBit_40 (by decide) ?_
    refine sw_iand (x := nI (fpN w (b * 4))) (y := nI 63) (v := nI ((fpN w (b * 4)) % 64)) G dXM_gateBit_42 (pk_andN (by omega) 6 (by decide)) ?_
    refine sw_goto (tgt := 62) G dXM_gateBit_43 (by decide) ?_
    exact sr_iret (x := nI ((fpN w (b * 4)) % 64)) G hr hlk (rfl) dXM_gateBit_62

set_option maxRecDepth 100000 in
set_option maxHeartbeats 4000000 in
theorem c_XM_gateC1 (l : Launch) (D : va_G) (ta : ClassId × ClassId × ClassId) (q0 : Nat) (q1 : Nat) (q2 : Nat) (q3 : Nat) (q4 : Nat) (q5 : Nat) (q6 : Nat) (q7 : Nat) (q8 : Nat) (flt : Int32) (dn : Bool) (left : Int32) (wr : Int32) (pr : Int32) (sg : Nat) (g : Nat → Int32) (w : Nat → Int32) (num : Int32) (b : Nat) (hb : b < 40) : sr l yXM_gateBit wsXM_gateBit ({ frames := 2, cells := 0, slots := 0, locals := 45 }) D ta [.ref q0, .int (nI b), .int (nI 1)] [(q0, .inr (6, [.int flt, .int (sp_b dn), .int left, .int wr, .int pr, .int (nI sg), .ref q1, .ref q2, .ref q3, .ref q4, .ref q5, .ref q6, .int num, .ref q7, .ref q8])), (q1, .inl (ta.1, 4, .inl (g))), (q2, .inl (ta.1, 160, .inl (w)))] (some (.int (nI (fpN w (b * 4) / 4)))) := by
  refine sr_ofW (y := yXM_gateBit) (cc := cXM_gateBit) (nL := 5) (ret := (some .int)) (by decide) (Nat.le_of_ble_eq_true rfl) (fun p e s m below meth c G hr hlk hnm => ?_)
  have hf := fpN_lt w (b * 4)
  refine sw_eq (ws' := [(q0, .inr (6, [.int flt, .int (sp_b dn), .int left, .int wr, .int pr, .int (nI sg), .ref q1, .ref q2, .ref q3, .ref q4, .ref q5, .ref q6, .int num, .ref q7, .ref q8])), (q1, .inl (ta.1, 4, .inl (g))), (q2, .inl (ta.1, 160, .inl (w)))]) (lv2 := [(0, .ref q0), (1, .int (nI b)), (2, .int (nI 1))]) (pc2 := 0) (st2 := []) rfl ?_
  refine sw_aload_n G dXM_gateBit_0 rfl 0 rfl ?_
  refine sw_iload_n G dXM_gateBit_1 rfl 1 rfl ?_
  refine sw_readV (As := [.int (nI b)]) (rest := []) G (c_XM_printC l D ta q0 q1 q2 q3 q4 q5 q6 q7 q8 flt dn left wr pr sg g w num b (by omega)) (cwV 1 G.2.2.2.2.1 (sb_goodV wd_634 wd_636 ws_XM_print wd_8 wd_637) rfl rfl rfl (by decide +kernel) ⟨Nat.le_of_ble_eq_true rfl, Nat.le_of_ble_eq_true rfl⟩) 0 6 rfl rfl rfl rfl (Nat.le_of_ble_eq_true rfl) dXM_gateBit_2 ⟨Nat.le_of_ble_eq_true rfl, Nat.le_of_ble_eq_true rfl⟩ [0, 1, 2] rfl (by decide) ?_
  refine sw_eq (ws' := [(q0, .inr (6, [.int flt, .int (sp_b dn), .int left, .int wr, .int pr, .int (nI sg), .ref q1, .ref q2, .ref q3, .ref q4, .ref q5, .ref q6, .int num, .ref q7, .ref q8])), (q1, .inl (ta.1, 4, .inl (g))), (q2, .inl (ta.1, 160, .inl (w)))]) (lv2 := [(0, .ref q0), (1, .int (nI b)), (2, .int (nI 1))]) (pc2 := 5) (st2 := [.int (nI (fpN w (b * 4)))]) rfl ?_
  refine sw_istore_n G dXM_gateBit_5 rfl (by decide) (lv' := [(3, .int (nI (fpN w (b * 4)))), (0, .ref q0), (1, .int (nI b)), (2, .int (nI 1))]) rfl ?_
  refine sw_aload_n G dXM_gateBit_6 rfl 1 rfl ?_
  refine sw_iload_n G dXM_gateBit_7 rfl 2 rfl ?_
  refine sw_iconst (v := nI 0) G dXM_gateBit_8 (by decide) ?_
  refine sw_readV (As := [.int (nI b), .int (nI 0)]) (rest := []) G (c_XM_wordC l D ta q0 q1 q2 q3 q4 q5 q6 q7 q8 flt dn left wr pr sg g w num b 0 (by omega) (by omega)) (cwV 2 G.2.2.2.2.1 (sb_goodV wd_638 wd_640 ws_XM_wordOf wd_8 wd_641) rfl rfl rfl (by decide +kernel) ⟨Nat.le_of_ble_eq_true rfl, Nat.le_of_ble_eq_true rfl⟩) 0 6 rfl rfl rfl rfl (Nat.le_of_ble_eq_true rfl) dXM_gateBit_9 ⟨Nat.le_of_ble_eq_true rfl, Nat.le_of_ble_eq_true rfl⟩ [0, 1, 2] rfl (by decide) ?_
  refine sw_eq (ws' := [(q0, .inr (6, [.int flt, .int (sp_b dn), .int left, .int wr, .int pr, .int (nI sg), .ref q1, .ref q2, .ref q3, .ref q4, .ref q5, .ref q6, .int num, .ref q7, .ref q8])), (q1, .inl (ta.1, 4, .inl (g))), (q2, .inl (ta.1, 160, .inl (w)))]) (lv2 := [(3, .int (nI (fpN w (b * 4)))), (0, .ref q0), (1, .int (nI b)), (2, .int (nI 1))]) (pc2 := 12) (st2 := [.int (w (4 * b + 0))]) rfl ?_
  refine sw_aload_n G dXM_gateBit_12 rfl 1 rfl ?_
  refine sw_iload_n G dXM_gateBit_13 rfl 2 rfl ?_
  refine sw_iconst (v := nI 1) G dXM_gateBit_14 (by decide) ?_
  refine sw_readV (As := [.int (nI b), .int (nI 1)]) (rest := [.int (w (4 * b + 0))]) G (c_XM_wordC l D ta q0 q1 q2 q3 q4 q5 q6 q7 q8 flt dn left wr pr sg g w num b 1 (by omega) (by omega)) (cwV 2 G.2.2.2.2.1 (sb_goodV wd_638 wd_640 ws_XM_wordOf wd_8 wd_641) rfl rfl rfl (by decide +kernel) ⟨Nat.le_of_ble_eq_true rfl, Nat.le_of_ble_eq_true rfl⟩) 0 6 rfl rfl rfl rfl (Nat.le_of_ble_eq_true rfl) dXM_gateBit_15 ⟨Nat.le_of_ble_eq_true rfl, Nat.le_of_ble_eq_true rfl⟩ [0, 1, 2] rfl (by decide) ?_
  refine sw_eq (ws' := [(q0, .inr (6, [.int flt, .int (sp_b dn), .int left, .int wr, .int pr, .int (nI sg), .ref q1, .ref q2, .ref q3, .ref q4, .ref q5, .ref q6, .int num, .ref q7, .ref q8])), (q1, .inl (ta.1, 4, .inl (g))), (q2, .inl (ta.1, 160, .inl (w)))]) (lv2 := [(3, .int (nI (fpN w (b * 4)))), (0, .ref q0), (1, .int (nI b)), (2, .int (nI 1))]) (pc2 := 18) (st2 := [.int (w (4 * b + 1)), .int (w (4 * b + 0))]) rfl ?_
  refine sw_ixor (x := w (4 * b + 0)) (y := w (4 * b + 1)) (v := (w (4 * b + 0)) ^^^ (w (4 * b + 1))) G dXM_gateBit_18 (rfl) ?_
  refine sw_aload_n G dXM_gateBit_19 rfl 1 rfl ?_
  refine sw_iload_n G dXM_gateBit_20 rfl 2 rfl ?_
  refine sw_iconst (v := nI 2) G dXM_gateBit_21 (by decide) ?_
  refine sw_readV (As := [.int (nI b), .int (nI 2)]) (rest := [.int ((w (4 * b + 0)) ^^^ (w (4 * b + 1)))]) G (c_XM_wordC l D ta q0 q1 q2 q3 q4 q5 q6 q7 q8 flt dn left wr pr sg g w num b 2 (by omega) (by omega)) (cwV 2 G.2.2.2.2.1 (sb_goodV wd_638 wd_640 ws_XM_wordOf wd_8 wd_641) rfl rfl rfl (by decide +kernel) ⟨Nat.le_of_ble_eq_true rfl, Nat.le_of_ble_eq_true rfl⟩) 0 6 rfl rfl rfl rfl (Nat.le_of_ble_eq_true rfl) dXM_gateBit_22 ⟨Nat.le_of_ble_eq_true rfl, Nat.le_of_ble_eq_true rfl⟩ [0, 1, 2] rfl (by decide) ?_
  refine sw_eq (ws' := [(q0, .inr (6, [.int flt, .int (sp_b dn), .int left, .int wr, .int pr, .int (nI sg), .ref q1, .ref q2, .ref q3, .ref q4, .ref q5, .ref q6, .int num, .ref q7, .ref q8])), (q1, .inl (ta.1, 4, .inl (g))), (q2, .inl (ta.1, 160, .inl (w)))]) (lv2 := [(3, .int (nI (fpN w (b * 4)))), (0, .ref q0), (1, .int (nI b)), (2, .int (nI 1))]) (pc2 := 25) (st2 := [.int (w (4 * b + 2)), .int ((w (4 * b + 0)) ^^^ (w (4 * b + 1)))]) rfl ?_
  refine sw_ixor (x := (w (4 * b + 0)) ^^^ (w (4 * b + 1))) (y := w (4 * b + 2)) (v := ((w (4 * b + 0)) ^^^ (w (4 * b + 1))) ^^^ (w (4 * b + 2))) G dXM_gateBit_25 (rfl) ?_
  refine sw_aload_n G dXM_gateBit_26 rfl 1 rfl ?_
  refine sw_iload_n G dXM_gateBit_27 rfl 2 rfl ?_
  refine sw_iconst (v := nI 3) G dXM_gateBit_28 (by decide) ?_
  refine sw_readV (As := [.int (nI b), .int (nI 3)]) (rest := [.int (((w (4 * b + 0)) ^^^ (w (4 * b + 1))) ^^^ (w (4 * b + 2)))]) G (c_XM_wordC l D ta q0 q1 q2 q3 q4 q5 q6 q7 q8 flt dn left wr pr sg g w num b 3 (by omega) (by omega)) (cwV 2 G.2.2.2.2.1 (sb_goodV wd_638 wd_640 ws_XM_wordOf wd_8 wd_641) rfl rfl rfl (by decide +kernel) ⟨Nat.le_of_ble_eq_true rfl, Nat.le_of_ble_eq_true rfl⟩) 0 6 rfl rfl rfl rfl (Nat.le_of_ble_eq_true rfl) dXM_gateBit_29 ⟨Nat.le_of_ble_eq_true rfl, Nat.le_of_ble_eq_true rfl⟩ [0, 1, 2] rfl (by decide) ?_
  refine sw_eq (ws' := [(q0, .inr (6, [.int flt, .int (sp_b dn), .int left, .int wr, .int pr, .int (nI sg), .ref q1, .ref q2, .ref q3, .ref q4, .ref q5, .ref q6, .int num, .ref q7, .ref q8])), (q1, .inl (ta.1, 4, .inl (g))), (q2, .inl (ta.1, 160, .inl (w)))]) (lv2 := [(3, .int (nI (fpN w (b * 4)))), (0, .ref q0), (1, .int (nI b)), (2, .int (nI 1))]) (pc2 := 32) (st2 := [.int (w (4 * b + 3)), .int (((w (4 * b + 0)) ^^^ (w (4 * b + 1))) ^^^ (w (4 * b + 2)))]) rfl ?_
  refine sw_ixor (x := ((w (4 * b + 0)) ^^^ (w (4 * b + 1))) ^^^ (w (4 * b + 2))) (y := w (4 * b + 3)) (v := fp_m w (b * 4)) G dXM_gateBit_32 (by rw [(show 4 * b = b * 4 from Nat.mul_comm _ _)] <;> rfl) ?_
  refine sw_istore G dXM_gateBit_33 (by decide) (lv' := [(4, .int (fp_m w (b * 4))), (3, .int (nI (fpN w (b * 4)))), (0, .ref q0), (1, .int (nI b)), (2, .int (nI 1))]) rfl ?_
  refine sw_iload_n G dXM_gateBit_35 rfl 4 rfl ?_
  refine sw_if_ne (x := nI 1) (tgt := 46) G dXM_gateBit_36 (by decide) (fun br36 => ?_) (fun br36 => ?_)
  · refine sw_iload_n G dXM_gateBit_46 rfl 4 rfl ?_
    refine sw_iconst (v := nI 1) G dXM_gateBit_47 (by decide) ?_
    refine sw_icmpN_ne (a := 1) (b := 1) (tgt := 57) G dXM_gateBit_48 (by decide) (by omega) (by omega) (fun br48 => ?_) (fun br48 => ?_)
    · exact absurd br48 (by decide)
    · refine sw_iload_n G dXM_gateBit_51 rfl 1 rfl ?_
      refine sw_iconst (v := nI 2) G dXM_gateBit_52 (by decide) ?_
      refine sw_ishr (x := nI (fpN w (b * 4))) (y := nI 2) (v := nI ((fpN w (b * 4)) / 4)) G dXM_gateBit_53 (pk_shrN (by omega) _ 2 (by decide)) ?_
      refine sw_goto (tgt := 62) G dXM_gateBit_54 (by decide) ?_
      exact sr_iret (x := nI ((fpN w (b * 4)) / 4)) G hr hlk (rfl) dXM_gateBit_62
  · exact absurd br36 (by decide)

set_option maxRecDepth 100000 in
set_option maxHeartbeats 4000000 in
theorem c_XM_gateC2 (l : Launch) (D : va_G) (ta : ClassId × ClassId × ClassId) (q0 : Nat) (q1 : Nat) (q2 : Nat) (q3 : Nat) (q4 : Nat) (q5 : Nat) (q6 : Nat) (q7 : Nat) (q8 : Nat) (flt : Int32) (dn : Bool) (left : Int32) (wr : Int32) (pr : Int32) (sg : Nat) (g : Nat → Int32) (w : Nat → Int32) (num : Int32) (b : Nat) (hb : b < 40) : sr l yXM_gateBit wsXM_gateBit ({ frames := 2, cells := 0, slots := 0, locals := 45 }) D ta [.ref q0, .int (nI b), .int (nI 2)] [(q0, .inr (6, [.int flt, .int (sp_b dn), .int left, .int wr, .int pr, .int (nI sg), .ref q1, .ref q2, .ref q3, .ref q4, .ref q5, .ref q6, .int num, .ref q7, .ref q8])), (q1, .inl (ta.1, 4, .inl (g))), (q2, .inl (ta.1, 160, .inl (w)))] (some (.int (nI (mixN w (b * 4))))) := by
  refine sr_ofW (y := yXM_gateBit) (cc := cXM_gateBit) (nL := 5) (ret := (some .int)) (by decide) (Nat.le_of_ble_eq_true rfl) (fun p e s m below meth c G hr hlk hnm => ?_)
  have hf := fpN_lt w (b * 4)
  refine sw_eq (ws' := [(q0, .inr (6, [.int flt, .int (sp_b dn), .int left, .int wr, .int pr, .int (nI sg), .ref q1, .ref q2, .ref q3, .ref q4, .ref q5, .ref q6, .int num, .ref q7, .ref q8])), (q1, .inl (ta.1, 4, .inl (g))), (q2, .inl (ta.1, 160, .inl (w)))]) (lv2 := [(0, .ref q0), (1, .int (nI b)), (2, .int (nI 2))]) (pc2 := 0) (st2 := []) rfl ?_
  refine sw_aload_n G dXM_gateBit_0 rfl 0 rfl ?_
  refine sw_iload_n G dXM_gateBit_1 rfl 1 rfl ?_
  refine sw_readV (As := [.int (nI b)]) (rest := []) G (c_XM_printC l D ta q0 q1 q2 q3 q4 q5 q6 q7 q8 flt dn left wr pr sg g w num b (by omega)) (cwV 1 G.2.2.2.2.1 (sb_goodV wd_634 wd_636 ws_XM_print wd_8 wd_637) rfl rfl rfl (by decide +kernel) ⟨Nat.le_of_ble_eq_true rfl, Nat.le_of_ble_eq_true rfl⟩) 0 6 rfl rfl rfl rfl (Nat.le_of_ble_eq_true rfl) dXM_gateBit_2 ⟨Nat.le_of_ble_eq_true rfl, Nat.le_of_ble_eq_true rfl⟩ [0, 1, 2] rfl (by decide) ?_
  refine sw_eq (ws' := [(q0, .inr (6, [.int flt, .int (sp_b dn), .int left, .int wr, .int pr, .int (nI sg), .ref q1, .ref q2, .ref q3, .ref q4, .ref q5, .ref q6, .int num, .ref q7, .ref q8])), (q1, .inl (ta.1, 4, .inl (g))), (q2, .inl (ta.1, 160, .inl (w)))]) (lv2 := [(0, .ref q0), (1, .int (nI b)), (2, .int (nI 2))]) (pc2 := 5) (st2 := [.int (nI (fpN w (b * 4)))]) rfl ?_
  refine sw_istore_n G dXM_gateBit_5 rfl (by decide) (lv' := [(3, .int (nI (fpN w (b * 4)))), (0, .ref q0), (1, .int (nI b)), (2, .int (nI 2))]) rfl ?_
  refine sw_aload_n G dXM_gateBit_6 rfl 1 rfl ?_
  refine sw_iload_n G dXM_gateBit_7 rfl 2 rfl ?_
  refine sw_iconst (v := nI 0) G dXM_gateBit_8 (by decide) ?_
  refine sw_readV (As := [.int (nI b), .int (nI 0)]) (rest := []) G (c_XM_wordC l D ta q0 q1 q2 q3 q4 q5 q6 q7 q8 flt dn left wr pr sg g w num b 0 (by omega) (by omega)) (cwV 2 G.2.2.2.2.1 (sb_goodV wd_638 wd_640 ws_XM_wordOf wd_8 wd_641) rfl rfl rfl (by decide +kernel) ⟨Nat.le_of_ble_eq_true rfl, Nat.le_of_ble_eq_true rfl⟩) 0 6 rfl rfl rfl rfl (Nat.le_of_ble_eq_true rfl) dXM_gateBit_9 ⟨Nat.le_of_ble_eq_true rfl, Nat.le_of_ble_eq_true rfl⟩ [0, 1, 2] rfl (by decide) ?_
  refine sw_eq (ws' := [(q0, .inr (6, [.int flt, .int (sp_b dn), .int left, .int wr, .int pr, .int (nI sg), .ref q1, .ref q2, .ref q3, .ref q4, .ref q5, .ref q6, .int num, .ref q7, .ref q8])), (q1, .inl (ta.1, 4, .inl (g))), (q2, .inl (ta.1, 160, .inl (w)))]) (lv2 := [(3, .int (nI (fpN w (b * 4)))), (0, .ref q0), (1, .int (nI b)), (2, .int (nI 2))]) (pc2 := 12) (st2 := [.int (w (4 * b + 0))]) rfl ?_
  refine sw_aload_n G dXM_gateBit_12 rfl 1 rfl ?_
  refine sw_iload_n G dXM_gateBit_13 rfl 2 rfl ?_
  refine sw_iconst (v := nI 1) G dXM_gateBit_14 (by decide) ?_
  refine sw_readV (As := [.int (nI b), .int (nI 1)]) (rest := [.int (w (4 * b + 0))]) G (c_XM_wordC l D ta q0 q1 q2 q3 q4 q5 q6 q7 q8 flt dn left wr pr sg g w num b 1 (by omega) (by omega)) (cwV 2 G.2.2.2.2.1 (sb_goodV wd_638 wd_640 ws_XM_wordOf wd_8 wd_641) rfl rfl rfl (by decide +kernel) ⟨Nat.le_of_ble_eq_true rfl, Nat.le_of_ble_eq_true rfl⟩) 0 6 rfl rfl rfl rfl (Nat.le_of_ble_eq_true rfl) dXM_gateBit_15 ⟨Nat.le_of_ble_eq_true rfl, Nat.le_of_ble_eq_true rfl⟩ [0, 1, 2] rfl (by decide) ?_
  refine sw_eq (ws' := [(q0, .inr (6, [.int flt, .int (sp_b dn), .int left, .int wr, .int pr, .int (nI sg), .ref q1, .ref q2, .ref q3, .ref q4, .ref q5, .ref q6, .int num, .ref q7, .ref q8])), (q1, .inl (ta.1, 4, .inl (g))), (q2, .inl (ta.1, 160, .inl (w)))]) (lv2 := [(3, .int (nI (fpN w (b * 4)))), (0, .ref q0), (1, .int (nI b)), (2, .int (nI 2))]) (pc2 := 18) (st2 := [.int (w (4 * b + 1)), .int (w (4 * b + 0))]) rfl ?_
  refine sw_ixor (x := w (4 * b + 0)) (y := w (4 * b + 1)) (v := (w (4 * b + 0)) ^^^ (w (4 * b + 1))) G dXM_gateBit_18 (rfl) ?_
  refine sw_aload_n G dXM_gateBit_19 rfl 1 rfl ?_
  refine sw_iload_n G dXM_gateBit_20 rfl 2 rfl ?_
  refine sw_iconst (v := nI 2) G dXM_gateBit_21 (by decide) ?_
  refine sw_readV (As := [.int (nI b), .int (nI 2)]) (rest := [.int ((w (4 * b + 0)) ^^^ (w (4 * b + 1)))]) G (c_XM_wordC l D ta q0 q1 q2 q3 q4 q5 q6 q7 q8 flt dn left wr pr sg g w num b 2 (by omega) (by omega)) (cwV 2 G.2.2.2.2.1 (sb_goodV wd_638 wd_640 ws_XM_wordOf wd_8 wd_641) rfl rfl rfl (by decide +kernel) ⟨Nat.le_of_ble_eq_true rfl, Nat.le_of_ble_eq_true rfl⟩) 0 6 rfl rfl rfl rfl (Nat.le_of_ble_eq_true rfl) dXM_gateBit_22 ⟨Nat.le_of_ble_eq_true rfl, Nat.le_of_ble_eq_true rfl⟩ [0, 1, 2] rfl (by decide) ?_
  refine sw_eq (ws' := [(q0, .inr (6, [.int flt, .int (sp_b dn), .int left, .int wr, .int pr, .int (nI sg), .ref q1, .ref q2, .ref q3, .ref q4, .ref q5, .ref q6, .int num, .ref q7, .ref q8])), (q1, .inl (ta.1, 4, .inl (g))), (q2, .inl (ta.1, 160, .inl (w)))]) (lv2 := [(3, .int (nI (fpN w (b * 4)))), (0, .ref q0), (1, .int (nI b)), (2, .int (nI 2))]) (pc2 := 25) (st2 := [.int (w (4 * b + 2)), .int ((w (4 * b + 0)) ^^^ (w (4 * b + 1)))]) rfl ?_
  refine sw_ixor (x := (w (4 * b + 0)) ^^^ (w (4 * b + 1))) (y := w (4 * b + 2)) (v := ((w (4 * b + 0)) ^^^ (w (4 * b + 1))) ^^^ (w (4 * b + 2))) G dXM_gateBit_25 (rfl) ?_
  refine sw_aload_n G dXM_gateBit_26 rfl 1 rfl ?_
  refine sw_iload_n G dXM_gateBit_27 rfl 2 rfl ?_
  refine sw_iconst (v := nI 3) G dXM_gateBit_28 (by decide) ?_
  refine sw_readV (As := [.int (nI b), .int (nI 3)]) (rest := [.int (((w (4 * b + 0)) ^^^ (w (4 * b + 1))) ^^^ (w (4 * b + 2)))]) G (c_XM_wordC l D ta q0 q1 q2 q3 q4 q5 q6 q7 q8 flt dn left wr pr sg g w num b 3 (by omega) (by omega)) (cwV 2 G.2.2.2.2.1 (sb_goodV wd_638 wd_640 ws_XM_wordOf wd_8 wd_641) rfl rfl rfl (by decide +kernel) ⟨Nat.le_of_ble_eq_true rfl, Nat.le_of_ble_eq_true rfl⟩) 0 6 rfl rfl rfl rfl (Nat.le_of_ble_eq_true rfl) dXM_gateBit_29 ⟨Nat.le_of_ble_eq_true rfl, Nat.le_of_ble_eq_true rfl⟩ [0, 1, 2] rfl (by decide) ?_
  refine sw_eq (ws' := [(q0, .inr (6, [.int flt, .int (sp_b dn), .int left, .int wr, .int pr, .int (nI sg), .ref q1, .ref q2, .ref q3, .ref q4, .ref q5, .ref q6, .int num, .ref q7, .ref q8])), (q1, .inl (ta.1, 4, .inl (g))), (q2, .inl (ta.1, 160, .inl (w)))]) (lv2 := [(3, .int (nI (fpN w (b * 4)))), (0, .ref q0), (1, .int (nI b)), (2, .int (nI 2))]) (pc2 := 32) (st2 := [.int (w (4 * b + 3)), .int (((w (4 * b + 0)) ^^^ (w (4 * b + 1))) ^^^ (w (4 * b + 2)))]) rfl ?_
  refine sw_ixor (x := ((w (4 * b + 0)) ^^^ (w (4 * b + 1))) ^^^ (w (4 * b + 2))) (y := w (4 * b + 3)) (v := fp_m w (b * 4)) G dXM_gateBit_32 (by rw [(show 4 * b = b * 4 from Nat.mul_comm _ _)] <;> rfl) ?_
  refine sw_istore G dXM_gateBit_33 (by decide) (lv' := [(4, .int (fp_m w (b * 4))), (3, .int (nI (fpN w (b * 4)))), (0, .ref q0), (1, .int (nI b)), (2, .int (nI 2))]) rfl ?_
  refine sw_iload_n G dXM_gateBit_35 rfl 4 rfl ?_
  refine sw_if_ne (x := nI 2) (tgt := 46) G dXM_gateBit_36 (by decide) (fun br36 => ?_) (fun br36 => ?_)
  · refine sw_iload_n G dXM_gateBit_46 rfl 4 rfl ?_
    refine sw_iconst (v := nI 1) G dXM_gateBit_47 (by decide) ?_
    refine sw_icmpN_ne (a := 2) (b := 1) (tgt := 57) G dXM_gateBit_48 (by decide) (by omega) (by omega) (fun br48 => ?_) (fun br48 => ?_)
    · refine sw_iload G dXM_gateBit_57 0 rfl ?_
      refine sw_bipush (v := nI 63) G dXM_gateBit_59 (by decide) ?_
      refine sw_iand (x := fp_m w (b * 4)) (y := nI 63) (v := nI (mixN w (b * 4))) G dXM_gateBit_61 (mixN_eq _ _) ?_
      exact sr_iret (x := nI (mixN w (b * 4))) G hr hlk (rfl) dXM_gateBit_62
    · exact absurd br48 (by decide)
  · exact absurd br36 (by decide)

set_option maxRecDepth 100000 in
set_option maxHeartbeats 4000000 in
theorem c_XM_isSame (l : Launch) (D : va_G) (ta : ClassId × ClassId × ClassId) (q0 : Nat) (q1 : Nat) (q2 : Nat) (q3 : Nat) (q4 : Nat) (q5 : Nat) (q6 : Nat) (q7 : Nat) (q8 : Nat) (flt : Int32) (dn : Bool) (left : Int32) (wr : Int32) (pr : Int32) (sg : Nat) (g : Nat → Int32) (w : Nat → Int32) (num : Int32) (b : Nat) (hb : b < 40) : sr l yXM_isSame wsXM_isSame ({ frames := 0, cells := 0, slots := 0, locals := 0 }) D ta [.ref q0, .int (nI b)] [(q0, .inr (6, [.int flt, .int (sp_b dn), .int left, .int wr, .int pr, .int (nI sg), .ref q1, .ref q2, .ref q3, .ref q4, .ref q5, .ref q6, .int num, .ref q7, .ref q8])), (q1, .inl (ta.1, 4, .inl (g))), (q2, .inl (ta.1, 160, .inl (w)))] (some (.int (sp_b (dk_same w b g)))) := by
  refine sr_ofW (y := yXM_isSame) (cc := cXM_isSame) (nL := 4) (ret := (some .boolean)) (by decide) (Nat.le_of_ble_eq_true rfl) (fun p e s m below meth c G hr hlk hnm => ?_)
  refine sw_eq (ws' := [(q0, .inr (6, [.int flt, .int (sp_b dn), .int left, .int wr, .int pr, .int (nI sg), .ref q1, .ref q2, .ref q3, .ref q4, .ref q5, .ref q6, .int num, .ref q7, .ref q8])), (q1, .inl (ta.1, 4, .inl (g))), (q2, .inl (ta.1, 160, .inl (w)))]) (lv2 := [(0, .ref q0), (1, .int (nI b))]) (pc2 := 0) (st2 := []) rfl ?_
  refine sw_iconst (v := nI 1) G dXM_isSame_0 (by decide) ?_
  refine sw_istore_n G dXM_isSame_1 rfl (by decide) (lv' := [(2, .int (nI 1)), (0, .ref q0), (1, .int (nI b))]) rfl ?_
  refine sw_iconst (v := nI 0) G dXM_isSame_2 (by decide) ?_
  refine sw_istore_n G dXM_isSame_3 rfl (by decide) (lv' := [(3, .int (nI 0)), (2, .int (nI 1)), (0, .ref q0), (1, .int (nI b))]) rfl ?_
  refine sw_iload_n G dXM_isSame_4 rfl 0 rfl ?_
  refine sw_iconst (v := nI 4) G dXM_isSame_5 (by decide) ?_
  refine sw_icmpN_ge (a := 0) (b := 4) (tgt := 44) G dXM_isSame_6 (by decide) (by omega) (by omega) (fun br6 => ?_) (fun br6 => ?_)
  · exact absurd br6 (by decide)
  · refine sw_iload_n G dXM_isSame_9 rfl 1 rfl ?_
    refine sw_if_eq (x := nI 1) (tgt := 36) G dXM_isSame_10 (by decide) (fun br10 => ?_) (fun br10 => ?_)
    · exact absurd br10 (by decide)
    · refine sw_aload_n G dXM_isSame_13 rfl 2 rfl ?_
      refine sw_get (C := RXM) (T := TXM) (ref := RXM) (N := 15) G inXM 0 rfl rfl 6 (by decide) wd_558 rfl rfl dXM_isSame_14 ?_
      refine sw_iload_n G dXM_isSame_17 rfl 0 rfl ?_
      refine sw_ialdN (j := 0) (v := g 0) G 1 rfl (by omega) (by decide) (rfl) dXM_isSame_18 ?_
      refine sw_aload_n G dXM_isSame_19 rfl 2 rfl ?_
      refine sw_get (C := RXM) (T := TXM) (ref := RXM) (N := 15) G inXM 0 rfl rfl 7 (by decide) wd_559 rfl rfl dXM_isSame_20 ?_
      refine sw_iconst (v := nI 4) G dXM_isSame_23 (by decide) ?_
      refine sw_iload_n G dXM_isSame_24 rfl 3 rfl ?_
      refine sw_imul (x := nI 4) (y := nI b) (v := nI (4 * b)) G dXM_isSame_25 (pk_mul _ _) ?_
      refine sw_iload_n G dXM_isSame_26 rfl 0 rfl ?_
      refine sw_iadd (x := nI (4 * b)) (y := nI 0) (v := nI ((4 * b) + 0)) G dXM_isSame_27 (sp_add _ _) ?_
      refine sw_ialdN (j := (4 * b) + 0) (v := w ((4 * b) + 0)) G 2 rfl (by omega) (by decide) (rfl) dXM_isSame_28 ?_
      refine sw_icmp_ne (x := g 0) (y := w ((4 * b) + 0)) (tgt := 36) G dXM_isSame_29 (by decide) (fun br29 => ?_) (fun br29 => ?_)
      · refine sw_iconst (v := nI 0) G dXM_isSame_36 (by decide) ?_
        refine sw_istore_n G dXM_isSame_37 rfl (by decide) (lv' := [(2, .int (nI 0)), (3, .int (nI 0)), (0, .ref q0), (1, .int (nI b))]) rfl ?_
        refine sw_iinc (x := nI 0) (v := nI 1) G dXM_isSame_38 (q := 1) rfl (by decide) (by decide) (lv' := [(3, .int (nI 1)), (2, .int (nI 0)), (0, .ref q0), (1, .int (nI b))]) rfl ?_
        refine sw_goto (tgt := 4) G dXM_isSame_41 (by decide) ?_
        refine sw_iload_n G dXM_isSame_4 rfl 0 rfl ?_
        refine sw_iconst (v := nI 4) G dXM_isSame_5 (by decide) ?_
        refine sw_icmpN_ge (a := 1) (b := 4) (tgt := 44) G dXM_isSame_6 (by decide) (by omega) (by omega) (fun br6_1 => ?_) (fun br6_1 => ?_)
        · exact absurd br6_1 (by decide)
        · refine sw_iload_n G dXM_isSame_9 rfl 1 rfl ?_
          refine sw_if_eq (x := nI 0) (tgt := 36) G dXM_isSame_10 (by decide) (fun br10_1 => ?_) (fun br10_1 => ?_)
          · refine sw_iconst (v := nI 0) G dXM_isSame_36 (by decide) ?_
            refine sw_istore_n G dXM_isSame_37 rfl (by decide) (lv' := [(2, .int (nI 0)), (3, .int (nI 1)), (0, .ref q0), (1, .int (nI b))]) rfl ?_
            refine sw_iinc (x := nI 1) (v := nI 2) G dXM_isSame_38 (q := 1) rfl (by decide) (by decide) (lv' := [(3, .int (nI 2)), (2, .int (nI 0)), (0, .ref q0), (1, .int (nI b))]) rfl ?_
            refine sw_goto (tgt := 4) G dXM_isSame_41 (by decide) ?_
            refine sw_iload_n G dXM_isSame_4 rfl 0 rfl ?_
            refine sw_iconst (v := nI 4) G dXM_isSame_5 (by decide) ?_
            refine sw_icmpN_ge (a := 2) (b := 4) (tgt := 44) G dXM_isSame_6 (by decide) (by omega) (by omega) (fun br6_2 => ?_) (fun br6_2 => ?_)
            · exact absurd br6_2 (by decide)
            · refine sw_iload_n G dXM_isSame_9 rfl 1 rfl ?_
              refine sw_if_eq (x := nI 0) (tgt := 36) G dXM_isSame_10 (by decide) (fun br10_2 => ?_) (fun br10_2 => ?_)
              · refine sw_iconst (v := nI 0) G dXM_isSame_36 (by decide) ?_
                refine sw_istore_n G dXM_isSame_37 rfl (by decide) (lv' := [(2, .int (nI 0)), (3, .int (nI 2)), (0, .ref q0), (1, .int (nI b))]) rfl ?_
                refine sw_iinc (x := nI 2) (v := nI 3) G dXM_isSame_38 (q := 1) rfl (by decide) (by decide) (lv' := [(3, .int (nI 3)), (2, .int (nI 0)), (0, .ref q0), (1, .int (nI b))]) rfl ?_
                refine sw_goto (tgt := 4) G dXM_isSame_41 (by decide) ?_
                refine sw_iload_n G dXM_isSame_4 rfl 0 rfl ?_
                refine sw_iconst (v := nI 4) G dXM_isSame_5 (by decide) ?_
                refine sw_icmpN_ge (a := 3) (b := 4) (tgt := 44) G dXM_isSame_6 (by decide) (by omega) (by omega) (fun br6_3 => ?_) (fun br6_3 => ?_)
                · exact absurd br6_3 (by decide)
                · refine sw_iload_n G dXM_isSame_9 rfl 1 rfl ?_
                  refine sw_if_eq (x := nI 0) (tgt := 36) G dXM_isSame_10 (by decide) (fun br10_3 => ?_) (fun br10_3 => ?_)
                  · refine sw_iconst (v := nI 0) G dXM_isSame_36 (by decide) ?_
                    refine sw_istore_n G dXM_isSame_37 rfl (by decide) (lv' := [(2, .int (nI 0)), (3, .int (nI 3)), (0, .ref q0), (1, .int (nI b))]) rfl ?_
                    refine sw_iinc (x := nI 3) (v := nI 4) G dXM_isSame_38 (q := 1) rfl (by decide) (by decide) (lv' := [(3, .int (nI 4)), (2, .int (nI 0)), (0, .ref q0), (1, .int (nI b))]) rfl ?_
                    refine sw_goto (tgt := 4) G dXM_isSame_41 (by decide) ?_
                    refine sw_iload_n G dXM_isSame_4 rfl 0 rfl ?_
                    refine sw_iconst (v := nI 4) G dXM_isSame_5 (by decide) ?_
                    refine sw_icmpN_ge (a := 4) (b := 4) (tgt := 44) G dXM_isSame_6 (by decide) (by omega) (by omega) (fun br6_4 => ?_) (fun br6_4 => ?_)
                    · refine sw_iload_n G dXM_isSame_44 rfl 1 rfl ?_
                      exact sr_zret (x := nI 0) G hr hlk (by rw [show dk_same w b g = false by rw [dk_same, decide_eq_false (show ¬ w (b * 4 + 0) = g 0 by rw [Nat.mul_comm b 4]; exact fun q => br29 q.symm)] <;> rfl] <;> rfl) (rfl) dXM_isSame_45
                    · exact absurd br6_4 (by decide)
                  · exact absurd (by decide) br10_3
              · exact absurd (by decide) br10_2
          · exact absurd (by decide) br10_1
      · refine sw_iconst (v := nI 1) G dXM_isSame_32 (by decide) ?_
        refine sw_goto (tgt := 37) G dXM_isSame_33 (by decide) ?_
        refine sw_istore_n G dXM_isSame_37 rfl (by decide) (lv' := [(2, .int (nI 1)), (3, .int (nI 0)), (0, .ref q0), (1, .int (nI b))]) rfl ?_
        refine sw_iinc (x := nI 0) (v := nI 1) G dXM_isSame_38 (q := 1) rfl (by decide) (by decide) (lv' := [(3, .int (nI 1)), (2, .int (nI 1)), (0, .ref q0), (1, .int (nI b))]) rfl ?_
        refine sw_goto (tgt := 4) G dXM_isSame_41 (by decide) ?_
        refine sw_iload_n G dXM_isSame_4 rfl 0 rfl ?_
        refine sw_iconst (v := nI 4) G dXM_isSame_5 (by decide) ?_
        refine sw_icmpN_ge (a := 1) (b := 4) (tgt := 44) G dXM_isSame_6 (by decide) (by omega) (by omega) (fun br6_1 => ?_) (fun br6_1 => ?_)
        · exact absurd br6_1 (by decide)
        · refine sw_iload_n G dXM_isSame_9 rfl 1 rfl ?_
          refine sw_if_eq (x := nI 1) (tgt := 36) G dXM_isSame_10 (by decide) (fun br10_1 => ?_) (fun br10_1 => ?_)
          · exact absurd br10_1 (by decide)
          · refine sw_aload_n G dXM_isSame_13 rfl 2 rfl ?_
            refine sw_get (C := RXM) (T := TXM) (ref := RXM) (N := 15) G inXM 0 rfl rfl 6 (by decide) wd_558 rfl rfl dXM_isSame_14 ?_
            refine sw_iload_n G dXM_isSame_17 rfl 0 rfl ?_
            refine sw_ialdN (j := 1) (v := g 1) G 1 rfl (by omega) (by decide) (rfl) dXM_isSame_18 ?_
            refine sw_aload_n G dXM_isSame_19 rfl 2 rfl ?_
            refine sw_get (C := RXM) (T := TXM) (ref := RXM) (N := 15) G inXM 0 rfl rfl 7 (by decide) wd_559 rfl rfl dXM_isSame_20 ?_
            refine sw_iconst (v := nI 4) G dXM_isSame_23 (by decide) ?_
            refine sw_iload_n G dXM_isSame_24 rfl 3 rfl ?_
            refine sw_imul (x := nI 4) (y := nI b) (v := nI (4 * b)) G dXM_isSame_25 (pk_mul _ _) ?_
            refine sw_iload_n G dXM_isSame_26 rfl 0 rfl ?_
            refine sw_iadd (x := nI (4 * b)) (y := nI 1) (v := nI ((4 * b) + 1)) G dXM_isSame_27 (sp_add _ _) ?_
            refine sw_ialdN (j := (4 * b) + 1) (v := w ((4 * b) + 1)) G 2 rfl (by omega) (by decide) (rfl) dXM_isSame_28 ?_
            refine sw_icmp_ne (x := g 1) (y := w ((4 * b) + 1)) (tgt := 36) G dXM_isSame_29 (by decide) (fun br29_1 => ?_) (fun br29_1 => ?_)
            · refine sw_iconst (v := nI 0) G dXM_isSame_36 (by decide) ?_
              refine sw_istore_n G dXM_isSame_37 rfl (by decide) (lv' := [(2, .int (nI 0)), (3, .int (nI 1)), (0, .ref q0), (1, .int (nI b))]) rfl ?_
              refine sw_iinc (x := nI 1) (v := nI 2) G dXM_isSame_38 (q := 1) rfl (by decide) (by decide) (lv' := [(3, .int (nI 2)), (2, .int (nI 0)), (0, .ref q0), (1, .int (nI b))]) rfl ?_
              refine sw_goto (tgt := 4) G dXM_isSame_41 (by decide) ?_
              refine sw_iload_n G dXM_isSame_4 rfl 0 rfl ?_
              refine sw_iconst (v := nI 4) G dXM_isSame_5 (by decide) ?_
              refine sw_icmpN_ge (a := 2) (b := 4) (tgt := 44) G dXM_isSame_6 (by decide) (by omega) (by omega) (fun br6_2 => ?_) (fun br6_2 => ?_)
              · exact absurd br6_2 (by decide)
              · refine sw_iload_n G dXM_isSame_9 rfl 1 rfl ?_
                refine sw_if_eq (x := nI 0) (tgt := 36) G dXM_isSame_10 (by decide) (fun br10_2 => ?_) (fun br10_2 => ?_)
                · refine sw_iconst (v := nI 0) G dXM_isSame_36 (by decide) ?_
                  refine sw_istore_n G dXM_isSame_37 rfl (by decide) (lv' := [(2, .int (nI 0)), (3, .int (nI 2)), (0, .ref q0), (1, .int (nI b))]) rfl ?_
                  refine sw_iinc (x := nI 2) (v := nI 3) G dXM_isSame_38 (q := 1) rfl (by decide) (by decide) (lv' := [(3, .int (nI 3)), (2, .int (nI 0)), (0, .ref q0), (1, .int (nI b))]) rfl ?_
                  refine sw_goto (tgt := 4) G dXM_isSame_41 (by decide) ?_
                  refine sw_iload_n G dXM_isSame_4 rfl 0 rfl ?_
                  refine sw_iconst (v := nI 4) G dXM_isSame_5 (by decide) ?_
                  refine sw_icmpN_ge (a := 3) (b := 4) (tgt := 44) G dXM_isSame_6 (by decide) (by omega) (by omega) (fun br6_3 => ?_) (fun br6_3 => ?_)
                  · exact absurd br6_3 (by decide)
                  · refine sw_iload_n G dXM_isSame_9 rfl 1 rfl ?_
                    refine sw_if_eq (x := nI 0) (tgt := 36) G dXM_isSame_10 (by decide) (fun br10_3 => ?_) (fun br10_3 => ?_)
                    · refine sw_iconst (v := nI 0) G dXM_isSame_36 (by decide) ?_
                      refine sw_istore_n G dXM_isSame_37 rfl (by decide) (lv' := [(2, .int (nI 0)), (3, .int (nI 3)), (0, .ref q0), (1, .int (nI b))]) rfl ?_
                      refine sw_iinc (x := nI 3) (v := nI 4) G dXM_isSame_38 (q := 1) rfl (by decide) (by decide) (lv' := [(3, .int (nI 4)), (2, .int (nI 0)), (0, .ref q0), (1, .int (nI b))]) rfl ?_
                      refine sw_goto (tgt := 4) G dXM_isSame_41 (by decide) ?_
                      refine sw_iload_n G dXM_isSame_4 rfl 0 rfl ?_
                      refine sw_iconst (v := nI 4) G dXM_isSame_5 (by decide) ?_
                      refine sw_icmpN_ge (a := 4) (b := 4) (tgt := 44) G dXM_isSame_6 (by decide) (by omega) (by omega) (fun br6_4 => ?_) (fun br6_4 => ?_)
                      · refine sw_iload_n G dXM_isSame_44 rfl 1 rfl ?_
                        exact sr_zret (x := nI 0) G hr hlk (by rw [show dk_same w b g = false by rw [dk_same, decide_eq_true (show w (b * 4 + 0) = g 0 by rw [Nat.mul_comm b 4]; exact br29.symm), decide_eq_false (show ¬ w (b * 4 + 1) = g 1 by rw [Nat.mul_comm b 4]; exact fun q => br29_1 q.symm)] <;> rfl] <;> rfl) (rfl) dXM_isSame_45
                      · exact absurd br6_4 (by decide)
                    · exact absurd (by decide) br10_3
                · exact absurd (by decide) br10_2
            · refine sw_iconst (v := nI 1) G dXM_isSame_32 (by decide) ?_
              refine sw_goto (tgt := 37) G dXM_isSame_33 (by decide) ?_
              refine sw_istore_n G dXM_isSame_37 rfl (by decide) (lv' := [(2, .int (nI 1)), (3, .int (nI 1)), (0, .ref q0), (1, .int (nI b))]) rfl ?_
              refine sw_iinc (x := nI 1) (v := nI 2) G dXM_isSame_38 (q := 1) rfl (by decide) (by decide) (lv' := [(3, .int (nI 2)), (2, .int (nI 1)), (0, .ref q0), (1, .int (nI b))]) rfl ?_
              refine sw_goto (tgt := 4) G dXM_isSame_41 (by decide) ?_
              refine sw_iload_n G dXM_isSame_4 rfl 0 rfl ?_
              refine sw_iconst (v := nI 4) G dXM_isSame_5 (by decide) ?_
              refine sw_icmpN_ge (a := 2) (b := 4) (tgt := 44) G dXM_isSame_6 (by decide) (by omega) (by omega) (fun br6_2 => ?_) (fun br6_2 => ?_)
              · exact absurd br6_2 (by decide)
              · refine sw_iload_n G dXM_isSame_9 rfl 1 rfl ?_
                refine sw_if_eq (x := nI 1) (tgt := 36) G dXM_isSame_10 (by decide) (fun br10_2 => ?_) (fun br10_2 => ?_)
                · exact absurd br10_2 (by decide)
                · refine sw_aload_n G dXM_isSame_13 rfl 2 rfl ?_
                  refine sw_get (C := RXM) (T := TXM) (ref := RXM) (N := 15) G inXM 0 rfl rfl 6 (by decide) wd_558 rfl rfl dXM_isSame_14 ?_
                  refine sw_iload_n G dXM_isSame_17 rfl 0 rfl ?_
                  refine sw_ialdN (j := 2) (v := g 2) G 1 rfl (by omega) (by decide) (rfl) dXM_isSame_18 ?_
                  refine sw_aload_n G dXM_isSame_19 rfl 2 rfl ?_
                  refine sw_get (C := RXM) (T := TXM) (ref := RXM) (N := 15) G inXM 0 rfl rfl 7 (by decide) wd_559 rfl rfl dXM_isSame_20 ?_
                  refine sw_iconst (v := nI 4) G dXM_isSame_23 (by decide) ?_
                  refine sw_iload_n G dXM_isSame_24 rfl 3 rfl ?_
                  refine sw_imul (x := nI 4) (y := nI b) (v := nI (4 * b)) G dXM_isSame_25 (pk_mul _ _) ?_
                  refine sw_iload_n G dXM_isSame_26 rfl 0 rfl ?_
                  refine sw_iadd (x := nI (4 * b)) (y := nI 2) (v := nI ((4 * b) + 2)) G dXM_isSame_27 (sp_add _ _) ?_
                  refine sw_ialdN (j := (4 * b) + 2) (v := w ((4 * b) + 2)) G 2 rfl (by omega) (by decide) (rfl) dXM_isSame_28 ?_
                  refine sw_icmp_ne (x := g 2) (y := w ((4 * b) + 2)) (tgt := 36) G dXM_isSame_29 (by decide) (fun br29_2 => ?_) (fun br29_2 => ?_)
                  · refine sw_iconst (v := nI 0) G dXM_isSame_36 (by decide) ?_
                    refine sw_istore_n G dXM_isSame_37 rfl (by decide) (lv' := [(2, .int (nI 0)), (3, .int (nI 2)), (0, .ref q0), (1, .int (nI b))]) rfl ?_
                    refine sw_iinc (x := nI 2) (v := nI 3) G dXM_isSame_38 (q := 1) rfl (by decide) (by decide) (lv' := [(3, .int (nI 3)), (2, .int (nI 0)), (0, .ref q0), (1, .int (nI b))]) rfl ?_
                    refine sw_goto (tgt := 4) G dXM_isSame_41 (by decide) ?_
                    refine sw_iload_n G dXM_isSame_4 rfl 0 rfl ?_
                    refine sw_iconst (v := nI 4) G dXM_isSame_5 (by decide) ?_
                    refine sw_icmpN_ge (a := 3) (b := 4) (tgt := 44) G dXM_isSame_6 (by decide) (by omega) (by omega) (fun br6_3 => ?_) (fun br6_3 => ?_)
                    · exact absurd br6_3 (by decide)
                    · refine sw_iload_n G dXM_isSame_9 rfl 1 rfl ?_
                      refine sw_if_eq (x := nI 0) (tgt := 36) G dXM_isSame_10 (by decide) (fun br10_3 => ?_) (fun br10_3 => ?_)
                      · refine sw_iconst (v := nI 0) G dXM_isSame_36 (by decide) ?_
                        refine sw_istore_n G dXM_isSame_37 rfl (by decide) (lv' := [(2, .int (nI 0)), (3, .int (nI 3)), (0, .ref q0), (1, .int (nI b))]) rfl ?_
                        refine sw_iinc (x := nI 3) (v := nI 4) G dXM_isSame_38 (q := 1) rfl (by decide) (by decide) (lv' := [(3, .int (nI 4)), (2, .int (nI 0)), (0, .ref q0), (1, .int (nI b))]) rfl ?_
                        refine sw_goto (tgt := 4) G dXM_isSame_41 (by decide) ?_
                        refine sw_iload_n G dXM_isSame_4 rfl 0 rfl ?_
                        refine sw_iconst (v := nI 4) G dXM_isSame_5 (by decide) ?_
                        refine sw_icmpN_ge (a := 4) (b := 4) (tgt := 44) G dXM_isSame_6 (by decide) (by omega) (by omega) (fun br6_4 => ?_) (fun br6_4 => ?_)
                        · refine sw_iload_n G dXM_isSame_44 rfl 1 rfl ?_
                          exact sr_zret (x := nI 0) G hr hlk (by rw [show dk_same w b g = false by rw [dk_same, decide_eq_true (show w (b * 4 + 0) = g 0 by rw [Nat.mul_comm b 4]; exact br29.symm), decide_eq_true (show w (b * 4 + 1) = g 1 by rw [Nat.mul_comm b 4]; exact br29_1.symm), decide_eq_false (show ¬ w (b * 4 + 2) = g 2 by rw [Nat.mul_comm b 4]; exact fun q => br29_2 q.symm)] <;> rfl] <;> rfl) (rfl) dXM_isSame_45
                        · exact absurd br6_4 (by decide)
                      · exact absurd (by decide) br10_3
                  · refine sw_iconst (v := nI 1) G dXM_isSame_32 (by decide) ?_
                    refine sw_goto (tgt := 37) G dXM_isSame_33 (by decide) ?_
                    refine sw_istore_n G dXM_isSame_37 rfl (by decide) (lv' := [(2, .int (nI 1)), (3, .int (nI 2)), (0, .ref q0), (1, .int (nI b))]) rfl ?_
                    refine sw_iinc (x := nI 2) (v := nI 3) G dXM_isSame_38 (q := 1) rfl (by decide) (by decide) (lv' := [(3, .int (nI 3)), (2, .int (nI 1)), (0, .ref q0), (1, .int (nI b))]) rfl ?_
                    refine sw_goto (tgt := 4) G dXM_isSame_41 (by decide) ?_
                    refine sw_iload_n G dXM_isSame_4 rfl 0 rfl ?_
                    refine sw_iconst (v := nI 4) G dXM_isSame_5 (by decide) ?_
                    refine sw_icmpN_ge (a := 3) (b := 4) (tgt := 44) G dXM_isSame_6 (by decide) (by omega) (by omega) (fun br6_3 => ?_) (fun br6_3 => ?_)
                    · exact absurd br6_3 (by decide)
                    · refine sw_iload_n G dXM_isSame_9 rfl 1 rfl ?_
                      refine sw_if_eq (x := nI 1) (tgt := 36) G dXM_isSame_10 (by decide) (fun br10_3 => ?_) (fun br10_3 => ?_)
                      · exact absurd br10_3 (by decide)
                      · refine sw_aload_n G dXM_isSame_13 rfl 2 rfl ?_
                        refine sw_get (C := RXM) (T := TXM) (ref := RXM) (N := 15) G inXM 0 rfl rfl 6 (by decide) wd_558 rfl rfl dXM_isSame_14 ?_
                        refine sw_iload_n G dXM_isSame_17 rfl 0 rfl ?_
                        refine sw_ialdN (j := 3) (v := g 3) G 1 rfl (by omega) (by decide) (rfl) dXM_isSame_18 ?_
                        refine sw_aload_n G dXM_isSame_19 rfl 2 rfl ?_
                        refine sw_get (C := RXM) (T := TXM) (ref := RXM) (N := 15) G inXM 0 rfl rfl 7 (by decide) wd_559 rfl rfl dXM_isSame_20 ?_
                        refine sw_iconst (v := nI 4) G dXM_isSame_23 (by decide) ?_
                        refine sw_iload_n G dXM_isSame_24 rfl 3 rfl ?_
                        refine sw_imul (x := nI 4) (y := nI b) (v := nI (4 * b)) G dXM_isSame_25 (pk_mul _ _) ?_
                        refine sw_iload_n G dXM_isSame_26 rfl 0 rfl ?_
                        refine sw_iadd (x := nI (4 * b)) (y := nI 3) (v := nI ((4 * b) + 3)) G dXM_isSame_27 (sp_add _ _) ?_
                        refine sw_ialdN (j := (4 * b) + 3) (v := w ((4 * b) + 3)) G 2 rfl (by omega) (by decide) (rfl) dXM_isSame_28 ?_
                        refine sw_icmp_ne (x := g 3) (y := w ((4 * b) + 3)) (tgt := 36) G dXM_isSame_29 (by decide) (fun br29_3 => ?_) (fun br29_3 => ?_)
                        · refine sw_iconst (v := nI 0) G dXM_isSame_36 (by decide) ?_
                          refine sw_istore_n G dXM_isSame_37 rfl (by decide) (lv' := [(2, .int (nI 0)), (3, .int (nI 3)), (0, .ref q0), (1, .int (nI b))]) rfl ?_
                          refine sw_iinc (x := nI 3) (v := nI 4) G dXM_isSame_38 (q := 1) rfl (by decide) (by decide) (lv' := [(3, .int (nI 4)), (2, .int (nI 0)), (0, .ref q0), (1, .int (nI b))]) rfl ?_
                          refine sw_goto (tgt := 4) G dXM_isSame_41 (by decide) ?_
                          refine sw_iload_n G dXM_isSame_4 rfl 0 rfl ?_
                          refine sw_iconst (v := nI 4) G dXM_isSame_5 (by decide) ?_
                          refine sw_icmpN_ge (a := 4) (b := 4) (tgt := 44) G dXM_isSame_6 (by decide) (by omega) (by omega) (fun br6_4 => ?_) (fun br6_4 => ?_)
                          · refine sw_iload_n G dXM_isSame_44 rfl 1 rfl ?_
                            exact sr_zret (x := nI 0) G hr hlk (by rw [show dk_same w b g = false by rw [dk_same, decide_eq_true (show w (b * 4 + 0) = g 0 by rw [Nat.mul_comm b 4]; exact br29.symm), decide_eq_true (show w (b * 4 + 1) = g 1 by rw [Nat.mul_comm b 4]; exact br29_1.symm), decide_eq_true (show w (b * 4 + 2) = g 2 by rw [Nat.mul_comm b 4]; exact br29_2.symm), decide_eq_false (show ¬ w (b * 4 + 3) = g 3 by rw [Nat.mul_comm b 4]; exact fun q => br29_3 q.symm)] <;> rfl] <;> rfl) (rfl) dXM_isSame_45
                          · exact absurd br6_4 (by decide)
                        · refine sw_iconst (v := nI 1) G dXM_isSame_32 (by decide) ?_
                          refine sw_goto (tgt := 37) G dXM_isSame_33 (by decide) ?_
                          refine sw_istore_n G dXM_isSame_37 rfl (by decide) (lv' := [(2, .int (nI 1)), (3, .int (nI 3)), (0, .ref q0), (1, .int (nI b))]) rfl ?_
                          refine sw_iinc (x := nI 3) (v := nI 4) G dXM_isSame_38 (q := 1) rfl (by decide) (by decide) (lv' := [(3, .int (nI 4)), (2, .int (nI 1)), (0, .ref q0), (1, .int (nI b))]) rfl ?_
                          refine sw_goto (tgt := 4) G dXM_isSame_41 (by decide) ?_
                          refine sw_iload_n G dXM_isSame_4 rfl 0 rfl ?_
                          refine sw_iconst (v := nI 4) G dXM_isSame_5 (by decide) ?_
                          refine sw_icmpN_ge (a := 4) (b := 4) (tgt := 44) G dXM_isSame_6 (by decide) (by omega) (by omega) (fun br6_4 => ?_) (fun br6_4 => ?_)
                          · refine sw_iload_n G dXM_isSame_44 rfl 1 rfl ?_
                            exact sr_zret (x := nI 1) G hr hlk (by rw [show dk_same w b g = true by rw [dk_same, decide_eq_true (show w (b * 4 + 0) = g 0 by rw [Nat.mul_comm b 4]; exact br29.symm), decide_eq_true (show w (b * 4 + 1) = g 1 by rw [Nat.mul_comm b 4]; exact br29_1.symm), decide_eq_true (show w (b * 4 + 2) = g 2 by rw [Nat.mul_comm b 4]; exact br29_2.symm), decide_eq_true (show w (b * 4 + 3) = g 3 by rw [Nat.mul_comm b 4]; exact br29_3.symm)] <;> rfl] <;> rfl) (rfl) dXM_isSame_45
                          · exact absurd br6_4 (by decide)

set_option maxRecDepth 100000 in
set_option maxHeartbeats 4000000 in
theorem c_XM_lookUp (l : Launch) (D : va_G) (ta : ClassId × ClassId × ClassId) (q0 : Nat) (q1 : Nat) (q2 : Nat) (q3 : Nat) (q4 : Nat) (q5 : Nat) (q6 : Nat) (q7 : Nat) (q8 : Nat) (flt : Int32) (dn : Bool) (left : Int32) (wr : Int32) (pr : Int32) (sg : Nat) (g : Nat → Int32) (w : Nat → Int32) (num : Int32) (cel : Nat → Option Nat) (t : Nat) (ht : t < 64) (hgo : ∀ u, u < t → ∃ b, cel ((fpN g 0 % 64 + u) % 64) = some b ∧ dk_same w b g = false) (hst : cel ((fpN g 0 % 64 + t) % 64) = none ∨ ∃ b, cel ((fpN g 0 % 64 + t) % 64) = some b ∧ dk_same w b g = true) (hbd : ∀ j b, j < 64 → cel j = some b → b < 40) : sm (S := Unit) l yXM_lookUp wsXM_lookUp ({ frames := 2, cells := 0, slots := 0, locals := 45 }) D ta [.ref q0] [(q0, .inr (6, [.int flt, .int (sp_b dn), .int left, .int wr, .int pr, .int (nI sg), .ref q1, .ref q2, .ref q3, .ref q4, .ref q5, .ref q6, .int num, .ref q7, .ref q8])), (q1, .inl (ta.1, 4, .inl (g))), (q2, .inl (ta.1, 160, .inl (w))), (q7, .inl (ta.1, 64, .inl (fun jx => sp_o (cel jx))))] (fun _ => True) (fun _ => some (.int (sp_o (cel ((fpN g 0 % 64 + t) % 64))))) (fun _ => [(q0, .inr (6, [.int flt, .int (sp_b dn), .int left, .int wr, .int (pr + nI (t + 1)), .int (nI sg), .ref q1, .ref q2, .ref q3, .ref q4, .ref q5, .ref q6, .int num, .ref q7, .ref q8])), (q1, .inl (ta.1, 4, .inl (g))), (q2, .inl (ta.1, 160, .inl (w))), (q7, .inl (ta.1, 64, .inl (fun jx => sp_o (cel jx))))]) := by
  refine sm_ofW (y := yXM_lookUp) (cc := cXM_lookUp) (nL := 2) (ret := (some .int)) (by decide) (Nat.le_of_ble_eq_true rfl) (fun p e s m below meth c G hr hlk hnm => ?_)
  have hf := fpN_lt g 0
  refine sw_eq (ws' := [(q0, .inr (6, [.int flt, .int (sp_b dn), .int left, .int wr, .int pr, .int (nI sg), .ref q1, .ref q2, .ref q3, .ref q4, .ref q5, .ref q6, .int num, .ref q7, .ref q8])), (q1, .inl (ta.1, 4, .inl (g))), (q2, .inl (ta.1, 160, .inl (w))), (q7, .inl (ta.1, 64, .inl (fun jx => sp_o (cel jx))))]) (lv2 := [(0, .ref q0)]) (pc2 := 0) (st2 := []) rfl ?_
  refine sw_aload_n G dXM_lookUp_0 rfl 0 rfl ?_
  refine sw_iconst (v := -1) G dXM_lookUp_1 (by decide) ?_
  refine sw_readV (As := [.int (-1)]) (rest := []) G (c_XM_printS l D ta q0 q1 q2 q3 q4 q5 q6 q7 q8 flt dn left wr pr sg g w num ) (cwV 1 G.2.2.2.2.1 (sb_goodV wd_634 wd_636 ws_XM_print wd_8 wd_637) rfl rfl rfl (by decide +kernel) ⟨Nat.le_of_ble_eq_true rfl, Nat.le_of_ble_eq_true rfl⟩) 0 6 rfl rfl rfl rfl (Nat.le_of_ble_eq_true rfl) dXM_lookUp_2 ⟨Nat.le_of_ble_eq_true rfl, Nat.le_of_ble_eq_true rfl⟩ [0, 1, 2] rfl (by decide) ?_
  refine sw_eq (ws' := [(q0, .inr (6, [.int flt, .int (sp_b dn), .int left, .int wr, .int pr, .int (nI sg), .ref q1, .ref q2, .ref q3, .ref q4, .ref q5, .ref q6, .int num, .ref q7, .ref q8])), (q1, .inl (ta.1, 4, .inl (g))), (q2, .inl (ta.1, 160, .inl (w))), (q7, .inl (ta.1, 64, .inl (fun jx => sp_o (cel jx))))]) (lv2 := [(0, .ref q0)]) (pc2 := 5) (st2 := [.int (nI (fpN g 0))]) rfl ?_
  refine sw_bipush (v := nI 63) G dXM_lookUp_5 (by decide) ?_
  refine sw_iand (x := nI (fpN g 0)) (y := nI 63) (v := nI ((fpN g 0) % 64)) G dXM_lookUp_7 (pk_andN (by omega) 6 (by decide)) ?_
  refine sw_istore_n G dXM_lookUp_8 rfl (by decide) (lv' := [(1, .int (nI ((fpN g 0) % 64))), (0, .ref q0)]) rfl ?_
  refine sw_aload_n G dXM_lookUp_9 rfl 1 rfl ?_
  refine sw_dup G dXM_lookUp_10 rfl ?_
  refine sw_get (C := RXM) (T := TXM) (ref := RXM) (N := 15) G inXM 0 rfl rfl 4 (by decide) wd_556 rfl rfl dXM_lookUp_11 ?_
  refine sw_iconst (v := nI 1) G dXM_lookUp_14 (by decide) ?_
  refine sw_iadd (x := pr) (y := nI 1) (v := pr + (nI 1)) G dXM_lookUp_15 (rfl) ?_
  refine sw_put (ty := .int) (v := .int (pr + (nI 1))) (C := RXM) (T := TXM) (ref := RXM) (N := 15) G inXM tyXM tyXM_ok nmXM 0 rfl rfl 4 (by decide) wd_556 rfl rfl (by decide +kernel) (rfl) (rfl) (Nat.le_of_ble_eq_true rfl) dXM_lookUp_16 (fs' := [.int flt, .int (sp_b dn), .int left, .int wr, .int (pr + (nI 1)), .int (nI sg), .ref q1, .ref q2, .ref q3, .ref q4, .ref q5, .ref q6, .int num, .ref q7, .ref q8]) rfl (ws' := [(q0, .inr (6, [.int flt, .int (sp_b dn), .int left, .int wr, .int (pr + (nI 1)), .int (nI sg), .ref q1, .ref q2, .ref q3, .ref q4, .ref q5, .ref q6, .int num, .ref q7, .ref q8])), (q1, .inl (ta.1, 4, .inl (g))), (q2, .inl (ta.1, 160, .inl (w))), (q7, .inl (ta.1, 64, .inl (fun jx => sp_o (cel jx))))]) rfl ?_
  refine sw_lv [1, 0] (lv' := [(0, .ref q0), (1, .int (nI ((fpN g 0) % 64)))]) rfl ?_
  refine sw_eq (ws' := [(q0, .inr (6, [.int flt, .int (sp_b dn), .int left, .int wr, .int (pr + nI (0 + 1)), .int (nI sg), .ref q1, .ref q2, .ref q3, .ref q4, .ref q5, .ref q6, .int num, .ref q7, .ref q8])), (q1, .inl (ta.1, 4, .inl (g))), (q2, .inl (ta.1, 160, .inl (w))), (q7, .inl (ta.1, 64, .inl (fun jx => sp_o (cel jx))))]) (lv2 := [(0, .ref q0), (1, .int (nI ((fpN g 0 % 64 + 0) % 64)))]) (pc2 := 19) (st2 := []) (by rw [show (fpN g 0 % 64 + 0) % 64 = fpN g 0 % 64 by omega] <;> rfl) ?_
  have L19 : ∀ (NN : Nat) (u : Nat), t - u < NN → (u ≤ t) → sw p l e ({ frames := 2, cells := 0, slots := 0, locals := 45 }) s m ([.ref q0]).toArray below meth c 2 D (va_A [(q0, .inr (6, [.int flt, .int (sp_b dn), .int left, .int wr, .int pr, .int (nI sg), .ref q1, .ref q2, .ref q3, .ref q4, .ref q5, .ref q6, .int num, .ref q7, .ref q8])), (q1, .inl (ta.1, 4, .inl (g))), (q2, .inl (ta.1, 160, .inl (w))), (q7, .inl (ta.1, 64, .inl (fun jx => sp_o (cel jx))))] s.heap.size) (MQ below (sb_Q D ta [(q0, .inr (6, [.int flt, .int (sp_b dn), .int left, .int wr, .int pr, .int (nI sg), .ref q1, .ref q2, .ref q3, .ref q4, .ref q5, .ref q6, .int num, .ref q7, .ref q8])), (q1, .inl (ta.1, 4, .inl (g))), (q2, .inl (ta.1, 160, .inl (w))), (q7, .inl (ta.1, 64, .inl (fun jx => sp_o (cel jx))))] s.heap.size (fun _ : Unit => True) (fun _ => some (.int (sp_o (cel ((fpN g 0 % 64 + t) % 64))))) (fun _ => [(q0, .inr (6, [.int flt, .int (sp_b dn), .int left, .int wr, .int (pr + nI (t + 1)), .int (nI sg), .ref q1, .ref q2, .ref q3, .ref q4, .ref q5, .ref q6, .int num, .ref q7, .ref q8])), (q1, .inl (ta.1, 4, .inl (g))), (q2, .inl (ta.1, 160, .inl (w))), (q7, .inl (ta.1, 64, .inl (fun jx => sp_o (cel jx))))])) ([.ref q0]).toArray s 0 0 (va_A [(q0, .inr (6, [.int flt, .int (sp_b dn), .int left, .int wr, .int pr, .int (nI sg), .ref q1, .ref q2, .ref q3, .ref q4, .ref q5, .ref q6, .int num, .ref q7, .ref q8])), (q1, .inl (ta.1, 4, .inl (g))), (q2, .inl (ta.1, 160, .inl (w))), (q7, .inl (ta.1, 64, .inl (fun jx => sp_o (cel jx))))] s.heap.size)) false 0 0 [(q0, .inr (6, [.int flt, .int (sp_b dn), .int left, .int wr, .int (pr + nI (u + 1)), .int (nI sg), .ref q1, .ref q2, .ref q3, .ref q4, .ref q5, .ref q6, .int num, .ref q7, .ref q8])), (q1, .inl (ta.1, 4, .inl (g))), (q2, .inl (ta.1, 160, .inl (w))), (q7, .inl (ta.1, 64, .inl (fun jx => sp_o (cel jx))))] [(0, .ref q0), (1, .int (nI ((fpN g 0 % 64 + u) % 64)))] 19 [] := by
    intro NN
    induction NN with
    | zero => intro u hNN; exact absurd hNN (Nat.not_lt_zero _)
    | succ NN ih19 =>
      intro u hNN hu
      refine sw_aload_n G dXM_lookUp_19 rfl 0 rfl ?_
      rcases hcx : cel ((fpN g 0 % 64 + u) % 64) with _ | b
      · refine sw_get (C := RXM) (T := TXM) (ref := RXM) (N := 15) G inXM 0 rfl rfl 13 (by decide) wd_565 rfl rfl dXM_lookUp_20 ?_
        refine sw_iload_n G dXM_lookUp_23 rfl 1 rfl ?_
        refine sw_ialdN (j := (fpN g 0 % 64 + u) % 64) (v := -1) G 3 rfl (by omega) (by decide) (by rw [hcx]; rfl) dXM_lookUp_24 ?_
        refine sw_if_lt (x := -1) (tgt := 61) G dXM_lookUp_25 (by decide) (fun br25 => ?_) (fun br25 => ?_)
        · refine sw_aload_n G dXM_lookUp_61 rfl 0 rfl ?_
          refine sw_get (C := RXM) (T := TXM) (ref := RXM) (N := 15) G inXM 0 rfl rfl 13 (by decide) wd_565 rfl rfl dXM_lookUp_62 ?_
          refine sw_iload_n G dXM_lookUp_65 rfl 1 rfl ?_
          refine sw_ialdN (j := (fpN g 0 % 64 + u) % 64) (v := -1) G 3 rfl (by omega) (by decide) (by rw [hcx]; rfl) dXM_lookUp_66 ?_
          have e : u = t := by
            rcases Nat.lt_or_ge u t with h | h
            · obtain ⟨b1, hb1, hb2⟩ := hgo u h
              rw [hcx] at hb1
              cases hb1
            · omega
          refine sw_sub [0, 1, 2, 3] (by decide) (ws' := [(q0, .inr (6, [.int flt, .int (sp_b dn), .int left, .int wr, .int (pr + nI (u + 1)), .int (nI sg), .ref q1, .ref q2, .ref q3, .ref q4, .ref q5, .ref q6, .int num, .ref q7, .ref q8])), (q1, .inl (ta.1, 4, .inl (g))), (q2, .inl (ta.1, 160, .inl (w))), (q7, .inl (ta.1, 64, .inl (fun jx => sp_o (cel jx))))]) rfl rfl ?_
          refine sw_eq (ws' := [(q0, .inr (6, [.int flt, .int (sp_b dn), .int left, .int wr, .int (pr + nI (t + 1)), .int (nI sg), .ref q1, .ref q2, .ref q3, .ref q4, .ref q5, .ref q6, .int num, .ref q7, .ref q8])), (q1, .inl (ta.1, 4, .inl (g))), (q2, .inl (ta.1, 160, .inl (w))), (q7, .inl (ta.1, 64, .inl (fun jx => sp_o (cel jx))))]) (lv2 := [(0, .ref q0), (1, .int (nI ((fpN g 0 % 64 + u) % 64)))]) (pc2 := 67) (st2 := [.int (-1)]) (by rw [e]) ?_
          exact sw_iret (x := -1) G hr hlk () trivial (by rw [← e, hcx]; rfl) [0, 1, 2, 3] (by decide) rfl rfl dXM_lookUp_67
        · exact absurd (by decide) br25
      · refine sw_get (C := RXM) (T := TXM) (ref := RXM) (N := 15) G inXM 0 rfl rfl 13 (by decide) wd_565 rfl rfl dXM_lookUp_20 ?_
        have hb := hbd _ _ (Nat.mod_lt _ (by decide)) hcx
        refine sw_iload_n G dXM_lookUp_23 rfl 1 rfl ?_
        refine sw_ialdN (j := (fpN g 0 % 64 + u) % 64) (v := nI b) G 3 rfl (by omega) (by decide) (by rw [hcx]; rfl) dXM_lookUp_24 ?_
        refine sw_if_lt (x := nI b) (tgt := 61) G dXM_lookUp_25 (by decide) (fun br25 => ?_) (fun br25 => ?_)
        · exact absurd br25 (nI_pos (by omega))
        · refine sw_aload_n G dXM_lookUp_28 rfl 0 rfl ?_
          refine sw_aload_n G dXM_lookUp_29 rfl 0 rfl ?_
          refine sw_get (C := RXM) (T := TXM) (ref := RXM) (N := 15) G inXM 0 rfl rfl 13 (by decide) wd_565 rfl rfl dXM_lookUp_30 ?_
          refine sw_iload_n G dXM_lookUp_33 rfl 1 rfl ?_
          refine sw_ialdN (j := (fpN g 0 % 64 + u) % 64) (v := nI b) G 3 rfl (by omega) (by decide) (by rw [hcx]; rfl) dXM_lookUp_34 ?_
          refine sw_readV (As := [.int (nI b)]) (rest := []) G (c_XM_isSame l D ta q0 q1 q2 q3 q4 q5 q6 q7 q8 flt dn left wr (pr + nI (u + 1)) sg g w num b (by omega)) (cwV 1 G.2.2.2.2.1 (sb_goodV wd_646 wd_648 ws_XM_isSame wd_8 wd_649) rfl rfl rfl (by decide +kernel) ⟨Nat.le_of_ble_eq_true rfl, Nat.le_of_ble_eq_true rfl⟩) 0 6 rfl rfl rfl rfl (Nat.le_of_ble_eq_true rfl) dXM_lookUp_35 ⟨Nat.le_of_ble_eq_true rfl, Nat.le_of_ble_eq_true rfl⟩ [0, 1, 2] rfl (by decide) ?_
          refine sw_eq (ws' := [(q0, .inr (6, [.int flt, .int (sp_b dn), .int left, .int wr, .int (pr + nI (u + 1)), .int (nI sg), .ref q1, .ref q2, .ref q3, .ref q4, .ref q5, .ref q6, .int num, .ref q7, .ref q8])), (q1, .inl (ta.1, 4, .inl (g))), (q2, .inl (ta.1, 160, .inl (w))), (q7, .inl (ta.1, 64, .inl (fun jx => sp_o (cel jx))))]) (lv2 := [(0, .ref q0), (1, .int (nI ((fpN g 0 % 64 + u) % 64)))]) (pc2 := 38) (st2 := [.int (sp_b (dk_same w b g))]) rfl ?_
          refine sw_if_ne (x := sp_b (dk_same w b g)) (tgt := 61) G dXM_lookUp_38 (by decide) (fun br38 => ?_) (fun br38 => ?_)
          · refine sw_aload_n G dXM_lookUp_61 rfl 0 rfl ?_
            refine sw_get (C := RXM) (T := TXM) (ref := RXM) (N := 15) G inXM 0 rfl rfl 13 (by decide) wd_565 rfl rfl dXM_lookUp_62 ?_
            refine sw_iload_n G dXM_lookUp_65 rfl 1 rfl ?_
            refine sw_ialdN (j := (fpN g 0 % 64 + u) % 64) (v := nI b) G 3 rfl (by omega) (by decide) (by rw [hcx]; rfl) dXM_lookUp_66 ?_
            have e : u = t := by
              rcases Nat.lt_or_ge u t with h | h
              · obtain ⟨b1, hb1, hb2⟩ := hgo u h
                rw [hcx] at hb1
                cases hb1
                rw [(sp_b_ne _).mp br38] at hb2
                cases hb2
              · omega
            refine sw_sub [0, 1, 2, 3] (by decide) (ws' := [(q0, .inr (6, [.int flt, .int (sp_b dn), .int left, .int wr, .int (pr + nI (u + 1)), .int (nI sg), .ref q1, .ref q2, .ref q3, .ref q4, .ref q5, .ref q6, .int num, .ref q7, .ref q8])), (q1, .inl (ta.1, 4, .inl (g))), (q2, .inl (ta.1, 160, .inl (w))), (q7, .inl (ta.1, 64, .inl (fun jx => sp_o (cel jx))))]) rfl rfl ?_
            refine sw_eq (ws' := [(q0, .inr (6, [.int flt, .int (sp_b dn), .int left, .int wr, .int (pr + nI (t + 1)), .int (nI sg), .ref q1, .ref q2, .ref q3, .ref q4, .ref q5, .ref q6, .int num, .ref q7, .ref q8])), (q1, .inl (ta.1, 4, .inl (g))), (q2, .inl (ta.1, 160, .inl (w))), (q7, .inl (ta.1, 64, .inl (fun jx => sp_o (cel jx))))]) (lv2 := [(0, .ref q0), (1, .int (nI ((fpN g 0 % 64 + u) % 64)))]) (pc2 := 67) (st2 := [.int (nI b)]) (by rw [e]) ?_
            exact sw_iret (x := nI b) G hr hlk () trivial (by rw [← e, hcx]; rfl) [0, 1, 2, 3] (by decide) rfl rfl dXM_lookUp_67
          · refine sw_iload_n G dXM_lookUp_41 rfl 1 rfl ?_
            refine sw_iconst (v := nI 1) G dXM_lookUp_42 (by decide) ?_
            refine sw_iadd (x := nI ((fpN g 0 % 64 + u) % 64)) (y := nI 1) (v := nI (((fpN g 0 % 64 + u) % 64) + 1)) G dXM_lookUp_43 (sp_add _ _) ?_
            refine sw_bipush (v := nI 64) G dXM_lookUp_44 (by decide) ?_
            refine sw_irem (x := nI (((fpN g 0 % 64 + u) % 64) + 1)) (y := nI 64) (v := nI ((((fpN g 0 % 64 + u) % 64) + 1) % 64)) G dXM_lookUp_46 (by decide) (pk_rem (by omega) (by decide) (by decide)) ?_
            refine sw_istore_n G dXM_lookUp_47 rfl (by decide) (lv' := [(1, .int (nI ((((fpN g 0 % 64 + u) % 64) + 1) % 64))), (0, .ref q0)]) rfl ?_
            refine sw_aload_n G dXM_lookUp_48 rfl 1 rfl ?_
            refine sw_dup G dXM_lookUp_49 rfl ?_
            refine sw_get (C := RXM) (T := TXM) (ref := RXM) (N := 15) G inXM 0 rfl rfl 4 (by decide) wd_556 rfl rfl dXM_lookUp_50 ?_
            refine sw_iconst (v := nI 1) G dXM_lookUp_53 (by decide) ?_
            refine sw_iadd (x := pr + nI (u + 1)) (y := nI 1) (v := pr + nI (u + 1 + 1)) G dXM_lookUp_54 (sp_addI _ _) ?_
            refine sw_put (ty := .int) (v := .int (pr + nI (u + 1 + 1))) (C := RXM) (T := TXM) (ref := RXM) (N := 15) G inXM tyXM tyXM_ok nmXM 0 rfl rfl 4 (by decide) wd_556 rfl rfl (by decide +kernel) (rfl) (rfl) (Nat.le_of_ble_eq_true rfl) dXM_lookUp_55 (fs' := [.int flt, .int (sp_b dn), .int left, .int wr, .int (pr + nI (u + 1 + 1)), .int (nI sg), .ref q1, .ref q2, .ref q3, .ref q4, .ref q5, .ref q6, .int num, .ref q7, .ref q8]) rfl (ws' := [(q0, .inr (6, [.int flt, .int (sp_b dn), .int left, .int wr, .int (pr + nI (u + 1 + 1)), .int (nI sg), .ref q1, .ref q2, .ref q3, .ref q4, .ref q5, .ref q6, .int num, .ref q7, .ref q8])), (q1, .inl (ta.1, 4, .inl (g))), (q2, .inl (ta.1, 160, .inl (w))), (q7, .inl (ta.1, 64, .inl (fun jx => sp_o (cel jx))))]) rfl ?_
            refine sw_goto (tgt := 19) G dXM_lookUp_58 (by decide) ?_
            refine sw_lv [1, 0] (lv' := [(0, .ref q0), (1, .int (nI ((((fpN g 0 % 64 + u) % 64) + 1) % 64)))]) rfl ?_
            have hlt : u < t := by
              rcases Nat.lt_or_ge u t with h | h
              · exact h
              · exfalso
                have e : u = t := by omega
                rw [← e] at hst
                rcases hst with h1 | ⟨b1, h1, h2⟩
                · rw [hcx] at h1; cases h1
                · rw [hcx] at h1; cases h1
                  rw [(sp_b_eq _).mp br38] at h2; cases h2
            refine sw_eq (ws' := [(q0, .inr (6, [.int flt, .int (sp_b dn), .int left, .int wr, .int (pr + nI ((u + 1) + 1)), .int (nI sg), .ref q1, .ref q2, .ref q3, .ref q4, .ref q5, .ref q6, .int num, .ref q7, .ref q8])), (q1, .inl (ta.1, 4, .inl (g))), (q2, .inl (ta.1, 160, .inl (w))), (q7, .inl (ta.1, 64, .inl (fun jx => sp_o (cel jx))))]) (lv2 := [(0, .ref q0), (1, .int (nI ((fpN g 0 % 64 + (u + 1)) % 64)))]) (pc2 := 19) (st2 := []) (by rw [show (((fpN g 0 % 64 + u) % 64) + 1) % 64 = (fpN g 0 % 64 + (u + 1)) % 64 by omega]) ?_
            exact ih19 (u + 1) (by omega) (by omega)
  exact L19 _ 0 (Nat.lt_succ_self _) (Nat.zero_le _)

set_option maxRecDepth 100000 in
set_option maxHeartbeats 4000000 in
theorem c_XM_place (l : Launch) (D : va_G) (ta : ClassId × ClassId × ClassId) (q0 : Nat) (q1 : Nat) (q2 : Nat) (q3 : Nat) (q4 : Nat) (q5 : Nat) (q6 : Nat) (q7 : Nat) (q8 : Nat) (flt : Int32) (dn : Bool) (left : Int32) (wr : Int32) (pr : Int32) (sg : Nat) (g : Nat → Int32) (w : Nat → Int32) (num : Int32) (cel : Nat → Option Nat) (b : Nat) (t : Nat) (hb : b < 40) (ht : t < 64) (hfree : cel ((hmN w b + t) % 64) = none) (hocc : ∀ u, u < t → cel ((hmN w b + u) % 64) ≠ none) (hbd : ∀ j b, j < 64 → cel j = some b → b < 40) : sm (S := Unit) l yXM_place wsXM_place ({ frames := 2, cells := 0, slots := 0, locals := 45 }) D ta [.ref q0, .int (nI b)] [(q0, .inr (6, [.int flt, .int (sp_b dn), .int left, .int wr, .int pr, .int (nI sg), .ref q1, .ref q2, .ref q3, .ref q4, .ref q5, .ref q6, .int num, .ref q7, .ref q8])), (q1, .inl (ta.1, 4, .inl (g))), (q2, .inl (ta.1, 160, .inl (w))), (q7, .inl (ta.1, 64, .inl (fun jx => sp_o (cel jx))))] (fun _ => True) (fun _ => none) (fun _ => [(q0, .inr (6, [.int flt, .int (sp_b dn), .int left, .int wr, .int pr, .int (nI sg), .ref q1, .ref q2, .ref q3, .ref q4, .ref q5, .ref q6, .int num, .ref q7, .ref q8])), (q1, .inl (ta.1, 4, .inl (g))), (q2, .inl (ta.1, 160, .inl (w))), (q7, .inl (ta.1, 64, .inl (fun jx => sp_o ((va_up cel ((hmN w b + t) % 64) (some b)) jx))))]) := by
  refine sm_ofW (y := yXM_place) (cc := cXM_place) (nL := 3) (ret := none) (by decide) (Nat.le_of_ble_eq_true rfl) (fun p e s m below meth c G hr hlk hnm => ?_)
  have hf := hmN_lt w b
  have hf2 := fpN_lt w (b * 4)
  refine sw_eq (ws' := [(q0, .inr (6, [.int flt, .int (sp_b dn), .int left, .int wr, .int pr, .int (nI sg), .ref q1, .ref q2, .ref q3, .ref q4, .ref q5, .ref q6, .int num, .ref q7, .ref q8])), (q1, .inl (ta.1, 4, .inl (g))), (q2, .inl (ta.1, 160, .inl (w))), (q7, .inl (ta.1, 64, .inl (fun jx => sp_o (cel jx))))]) (lv2 := [(0, .ref q0), (1, .int (nI b))]) (pc2 := 0) (st2 := []) rfl ?_
  refine sw_aload_n G dXM_place_0 rfl 0 rfl ?_
  refine sw_iload_n G dXM_place_1 rfl 1 rfl ?_
  refine sw_readV (As := [.int (nI b)]) (rest := []) G (c_XM_printC l D ta q0 q1 q2 q3 q4 q5 q6 q7 q8 flt dn left wr pr sg g w num b (by omega)) (cwV 1 G.2.2.2.2.1 (sb_goodV wd_634 wd_636 ws_XM_print wd_8 wd_637) rfl rfl rfl (by decide +kernel) ⟨Nat.le_of_ble_eq_true rfl, Nat.le_of_ble_eq_true rfl⟩) 0 6 rfl rfl rfl rfl (Nat.le_of_ble_eq_true rfl) dXM_place_2 ⟨Nat.le_of_ble_eq_true rfl, Nat.le_of_ble_eq_true rfl⟩ [0, 1, 2] rfl (by decide) ?_
  refine sw_eq (ws' := [(q0, .inr (6, [.int flt, .int (sp_b dn), .int left, .int wr, .int pr, .int (nI sg), .ref q1, .ref q2, .ref q3, .ref q4, .ref q5, .ref q6, .int num, .ref q7, .ref q8])), (q1, .inl (ta.1, 4, .inl (g))), (q2, .inl (ta.1, 160, .inl (w))), (q7, .inl (ta.1, 64, .inl (fun jx => sp_o (cel jx))))]) (lv2 := [(0, .ref q0), (1, .int (nI b))]) (pc2 := 5) (st2 := [.int (nI (fpN w (b * 4)))]) rfl ?_
  refine sw_bipush (v := nI 63) G dXM_place_5 (by decide) ?_
  refine sw_iand (x := nI (fpN w (b * 4))) (y := nI 63) (v := nI ((fpN w (b * 4)) % 64)) G dXM_place_7 (pk_andN (by omega) 6 (by decide)) ?_
  refine sw_istore_n G dXM_place_8 rfl (by decide) (lv' := [(2, .int (nI ((fpN w (b * 4)) % 64))), (0, .ref q0), (1, .int (nI b))]) rfl ?_
  refine sw_lv [1, 2, 0] (lv' := [(0, .ref q0), (1, .int (nI b)), (2, .int (nI ((fpN w (b * 4)) % 64)))]) rfl ?_
  refine sw_eq (ws' := [(q0, .inr (6, [.int flt, .int (sp_b dn), .int left, .int wr, .int pr, .int (nI sg), .ref q1, .ref q2, .ref q3, .ref q4, .ref q5, .ref q6, .int num, .ref q7, .ref q8])), (q1, .inl (ta.1, 4, .inl (g))), (q2, .inl (ta.1, 160, .inl (w))), (q7, .inl (ta.1, 64, .inl (fun jx => sp_o (cel jx))))]) (lv2 := [(0, .ref q0), (1, .int (nI b)), (2, .int (nI ((hmN w b + 0) % 64)))]) (pc2 := 9) (st2 := []) (by rw [show (hmN w b + 0) % 64 = fpN w (b * 4) % 64 by unfold hmN at *; omega]) ?_
  have L9 : ∀ (NN : Nat) (u : Nat), t - u < NN → (u ≤ t) → sw p l e ({ frames := 2, cells := 0, slots := 0, locals := 45 }) s m ([.ref q0, .int (nI b)]).toArray below meth c 3 D (va_A [(q0, .inr (6, [.int flt, .int (sp_b dn), .int left, .int wr, .int pr, .int (nI sg), .ref q1, .ref q2, .ref q3, .ref q4, .ref q5, .ref q6, .int num, .ref q7, .ref q8])), (q1, .inl (ta.1, 4, .inl (g))), (q2, .inl (ta.1, 160, .inl (w))), (q7, .inl (ta.1, 64, .inl (fun jx => sp_o (cel jx))))] s.heap.size) (MQ below (sb_Q D ta [(q0, .inr (6, [.int flt, .int (sp_b dn), .int left, .int wr, .int pr, .int (nI sg), .ref q1, .ref q2, .ref q3, .ref q4, .ref q5, .ref q6, .int num, .ref q7, .ref q8])), (q1, .inl (ta.1, 4, .inl (g))), (q2, .inl (ta.1, 160, .inl (w))), (q7, .inl (ta.1, 64, .inl (fun jx => sp_o (cel jx))))] s.heap.size (fun _ : Unit => True) (fun _ => none) (fun _ => [(q0, .inr (6, [.int flt, .int (sp_b dn), .int left, .int wr, .int pr, .int (nI sg), .ref q1, .ref q2, .ref q3, .ref q4, .ref q5, .ref q6, .int num, .ref q7, .ref q8])), (q1, .inl (ta.1, 4, .inl (g))), (q2, .inl (ta.1, 160, .inl (w))), (q7, .inl (ta.1, 64, .inl (fun jx => sp_o ((va_up cel ((hmN w b + t) % 64) (some b)) jx))))])) ([.ref q0, .int (nI b)]).toArray s 0 0 (va_A [(q0, .inr (6, [.int flt, .int (sp_b dn), .int left, .int wr, .int pr, .int (nI sg), .ref q1, .ref q2, .ref q3, .ref q4, .ref q5, .ref q6, .int num, .ref q7, .ref q8])), (q1, .inl (ta.1, 4, .inl (g))), (q2, .inl (ta.1, 160, .inl (w))), (q7, .inl (ta.1, 64, .inl (fun jx => sp_o (cel jx))))] s.heap.size)) true 0 0 [(q0, .inr (6, [.int flt, .int (sp_b dn), .int left, .int wr, .int pr, .int (nI sg), .ref q1, .ref q2, .ref q3, .ref q4, .ref q5, .ref q6, .int num, .ref q7, .ref q8])), (q1, .inl (ta.1, 4, .inl (g))), (q2, .inl (ta.1, 160, .inl (w))), (q7, .inl (ta.1, 64, .inl (fun jx => sp_o (cel jx))))] [(0, .ref q0), (1, .int (nI b)), (2, .int (nI ((hmN w b + u) % 64)))] 9 [] := by
    intro NN
    induction NN with
    | zero => intro u hNN; exact absurd hNN (Nat.not_lt_zero _)
    | succ NN ih9 =>
      intro u hNN hu
      refine sw_aload_n G dXM_place_9 rfl 0 rfl ?_
      refine sw_get (C := RXM) (T := TXM) (ref := RXM) (N := 15) G inXM 0 rfl rfl 13 (by decide) wd_565 rfl rfl dXM_place_10 ?_
      refine sw_iload_n G dXM_place_13 rfl 2 rfl ?_
      refine sw_ialdN (j := (hmN w b + u) % 64) (v := sp_o (cel ((hmN w b + u) % 64))) G 3 rfl (by omega) (by decide) (rfl) dXM_place_14 ?_
      refine sw_if_lt (x := sp_o (cel ((hmN w b + u) % 64))) (tgt := 28) G dXM_place_15 (by decide) (fun br15 => ?_) (fun br15 => ?_)
      · have hn := (sp_o_lt (fun b1 hb1 => by have := hbd _ b1 (Nat.mod_lt _ (by decide)) hb1; omega)).mp br15
        have e : u = t := by
          rcases Nat.lt_or_ge u t with h | h
          · exact absurd hn (hocc u h)
          · omega
        refine sw_aload_n G dXM_place_28 rfl 0 rfl ?_
        refine sw_get (C := RXM) (T := TXM) (ref := RXM) (N := 15) G inXM 0 rfl rfl 13 (by decide) wd_565 rfl rfl dXM_place_29 ?_
        refine sw_iload_n G dXM_place_32 rfl 2 rfl ?_
        refine sw_iload_n G dXM_place_33 rfl 1 rfl ?_
        refine sw_iastN (j := (hmN w b + u) % 64) (x := nI b) G 3 rfl (by omega) (by decide) dXM_place_34 (f' := fun jx => sp_o ((va_up cel ((hmN w b + u) % 64) (some b)) jx)) (sp_upO _ _ (some b)) (ws' := [(q0, .inr (6, [.int flt, .int (sp_b dn), .int left, .int wr, .int pr, .int (nI sg), .ref q1, .ref q2, .ref q3, .ref q4, .ref q5, .ref q6, .int num, .ref q7, .ref q8])), (q1, .inl (ta.1, 4, .inl (g))), (q2, .inl (ta.1, 160, .inl (w))), (q7, .inl (ta.1, 64, .inl (fun jx => sp_o ((va_up cel ((hmN w b + u) % 64) (some b)) jx))))]) rfl ?_
        refine sw_sub [0, 1, 2, 3] (by decide) (ws' := [(q0, .inr (6, [.int flt, .int (sp_b dn), .int left, .int wr, .int pr, .int (nI sg), .ref q1, .ref q2, .ref q3, .ref q4, .ref q5, .ref q6, .int num, .ref q7, .ref q8])), (q1, .inl (ta.1, 4, .inl (g))), (q2, .inl (ta.1, 160, .inl (w))), (q7, .inl (ta.1, 64, .inl (fun jx => sp_o ((va_up cel ((hmN w b + u) % 64) (some b)) jx))))]) rfl rfl ?_
        refine sw_eq (ws' := [(q0, .inr (6, [.int flt, .int (sp_b dn), .int left, .int wr, .int pr, .int (nI sg), .ref q1, .ref q2, .ref q3, .ref q4, .ref q5, .ref q6, .int num, .ref q7, .ref q8])), (q1, .inl (ta.1, 4, .inl (g))), (q2, .inl (ta.1, 160, .inl (w))), (q7, .inl (ta.1, 64, .inl (fun jx => sp_o ((va_up cel ((hmN w b + t) % 64) (some b)) jx))))]) (lv2 := [(0, .ref q0), (1, .int (nI b)), (2, .int (nI ((hmN w b + u) % 64)))]) (pc2 := 35) (st2 := []) (by rw [e]) ?_
        exact sw_vret G hr hlk () trivial (rfl) [0, 1, 2, 3] (by decide) rfl rfl dXM_place_35
      · refine sw_iload_n G dXM_place_18 rfl 2 rfl ?_
        refine sw_iconst (v := nI 1) G dXM_place_19 (by decide) ?_
        refine sw_iadd (x := nI ((hmN w b + u) % 64)) (y := nI 1) (v := nI (((hmN w b + u) % 64) + 1)) G dXM_place_20 (sp_add _ _) ?_
        refine sw_bipush (v := nI 64) G dXM_place_21 (by decide) ?_
        refine sw_irem (x := nI (((hmN w b + u) % 64) + 1)) (y := nI 64) (v := nI ((((hmN w b + u) % 64) + 1) % 64)) G dXM_place_23 (by decide) (pk_rem (by omega) (by decide) (by decide)) ?_
        refine sw_istore_n G dXM_place_24 rfl (by decide) (lv' := [(2, .int (nI ((((hmN w b + u) % 64) + 1) % 64))), (0, .ref q0), (1, .int (nI b))]) rfl ?_
        refine sw_goto (tgt := 9) G dXM_place_25 (by decide) ?_
        refine sw_lv [1, 2, 0] (lv' := [(0, .ref q0), (1, .int (nI b)), (2, .int (nI ((((hmN w b + u) % 64) + 1) % 64)))]) rfl ?_
        have hlt : u < t := by
          rcases Nat.lt_or_ge u t with h | h
          · exact h
          · exfalso
            have e : u = t := by omega
            exact br15 (by rw [e, hfree]; decide)
        refine sw_eq (ws' := [(q0, .inr (6, [.int flt, .int (sp_b dn), .int left, .int wr, .int pr, .int (nI sg), .ref q1, .ref q2, .ref q3, .ref q4, .ref q5, .ref q6, .int num, .ref q7, .ref q8])), (q1, .inl (ta.1, 4, .inl (g))), (q2, .inl (ta.1, 160, .inl (w))), (q7, .inl (ta.1, 64, .inl (fun jx => sp_o (cel jx))))]) (lv2 := [(0, .ref q0), (1, .int (nI b)), (2, .int (nI ((hmN w b + (u + 1)) % 64)))]) (pc2 := 9) (st2 := []) (by rw [show (((hmN w b + u) % 64) + 1) % 64 = (hmN w b + (u + 1)) % 64 by omega]) ?_
        exact ih9 (u + 1) (by omega) (by omega)
  exact L9 _ 0 (Nat.lt_succ_self _) (Nat.zero_le _)

set_option maxRecDepth 100000 in
set_option maxHeartbeats 4000000 in
theorem c_XM_putIn (l : Launch) (D : va_G) (ta : ClassId × ClassId × ClassId) (q0 : Nat) (q1 : Nat) (q2 : Nat) (q3 : Nat) (q4 : Nat) (q5 : Nat) (q6 : Nat) (q7 : Nat) (q8 : Nat) (flt : Int32) (dn : Bool) (left : Int32) (wr : Int32) (pr : Int32) (sg : Nat) (g : Nat → Int32) (w : Nat → Int32) (num : Int32) (cel : Nat → Option Nat) (gt : Nat → Bool) (b : Nat) (t : Nat) (hb : b < 40) (ht : t < 64) (hfree : cel ((hmN w b + t) % 64) = none) (hocc : ∀ u, u < t → cel ((hmN w b + u) % 64) ≠ none) (hbd : ∀ j b, j < 64 → cel j = some b → b < 40) : sm (S := Unit) l yXM_putIn wsXM_putIn ({ frames := 3, cells := 0, slots := 0, locals := 69 }) D ta [.ref q0, .int (nI b)] [(q0, .inr (6, [.int flt, .int (sp_b dn), .int left, .int wr, .int pr, .int (nI sg), .ref q1, .ref q2, .ref q3, .ref q4, .ref q5, .ref q6, .int num, .ref q7, .ref q8])), (q1, .inl (ta.1, 4, .inl (g))), (q2, .inl (ta.1, 160, .inl (w))), (q7, .inl (ta.1, 64, .inl (fun jx => sp_o (cel jx)))), (q8, .inl (ta.2.1, 64, .inl (fun jx => sp_b (gt jx))))] (fun _ => True) (fun _ => none) (fun _ => [(q0, .inr (6, [.int flt, .int (sp_b dn), .int left, .int wr, .int pr, .int (nI sg), .ref q1, .ref q2, .ref q3, .ref q4, .ref q5, .ref q6, .int num, .ref q7, .ref q8])), (q1, .inl (ta.1, 4, .inl (g))), (q2, .inl (ta.1, 160, .inl (w))), (q7, .inl (ta.1, 64, .inl (fun jx => sp_o ((va_up cel ((hmN w b + t) % 64) (some b)) jx)))), (q8, .inl (ta.2.1, 64, .inl (fun jx => sp_b ((gset gt w b) jx))))]) := by
  refine sm_ofW (y := yXM_putIn) (cc := cXM_putIn) (nL := 3) (ret := none) (by decide) (Nat.le_of_ble_eq_true rfl) (fun p e s m below meth c G hr hlk hnm => ?_)
  have hf := fpN_lt w (b * 4)
  have hf2 := mixN_lt w (b * 4)
  refine sw_eq (ws' := [(q0, .inr (6, [.int flt, .int (sp_b dn), .int left, .int wr, .int pr, .int (nI sg), .ref q1, .ref q2, .ref q3, .ref q4, .ref q5, .ref q6, .int num, .ref q7, .ref q8])), (q1, .inl (ta.1, 4, .inl (g))), (q2, .inl (ta.1, 160, .inl (w))), (q7, .inl (ta.1, 64, .inl (fun jx => sp_o (cel jx)))), (q8, .inl (ta.2.1, 64, .inl (fun jx => sp_b (gt jx))))]) (lv2 := [(0, .ref q0), (1, .int (nI b))]) (pc2 := 0) (st2 := []) rfl ?_
  refine sw_aload_n G dXM_putIn_0 rfl 0 rfl ?_
  refine sw_iload_n G dXM_putIn_1 rfl 1 rfl ?_
  refine sw_callV (As := [.int (nI b)]) (rest := []) G (c_XM_place l D ta q0 q1 q2 q3 q4 q5 q6 q7 q8 flt dn left wr pr sg g w num cel b t (hb) (ht) (hfree) (hocc) (hbd)) (cwV 1 G.2.2.2.2.1 (sb_goodV wd_666 wd_668 ws_XM_place wd_8 wd_669) rfl rfl rfl (by decide +kernel) ⟨Nat.le_of_ble_eq_true rfl, Nat.le_of_ble_eq_true rfl⟩) 0 6 rfl rfl rfl rfl (Nat.le_of_ble_eq_true rfl) dXM_putIn_2 ⟨Nat.le_of_ble_eq_true rfl, Nat.le_of_ble_eq_true rfl⟩ [0, 1, 2, 3] [4] rfl (wr := [(q8, .inl (ta.2.1, 64, .inl (fun jx => sp_b (gt jx))))]) rfl (by decide) (by decide) (by decide) (fun _ _ => ?_)
  refine sw_eq (ws' := [(q8, .inl (ta.2.1, 64, .inl (fun jx => sp_b (gt jx)))), (q0, .inr (6, [.int flt, .int (sp_b dn), .int left, .int wr, .int pr, .int (nI sg), .ref q1, .ref q2, .ref q3, .ref q4, .ref q5, .ref q6, .int num, .ref q7, .ref q8])), (q1, .inl (ta.1, 4, .inl (g))), (q2, .inl (ta.1, 160, .inl (w))), (q7, .inl (ta.1, 64, .inl (fun jx => sp_o ((va_up cel ((hmN w b + t) % 64) (some b)) jx))))]) (lv2 := [(0, .ref q0), (1, .int (nI b))]) (pc2 := 5) (st2 := []) rfl ?_
  refine sw_sub [1, 2, 3, 4, 0] (by decide) (ws' := [(q0, .inr (6, [.int flt, .int (sp_b dn), .int left, .int wr, .int pr, .int (nI sg), .ref q1, .ref q2, .ref q3, .ref q4, .ref q5, .ref q6, .int num, .ref q7, .ref q8])), (q1, .inl (ta.1, 4, .inl (g))), (q2, .inl (ta.1, 160, .inl (w))), (q7, .inl (ta.1, 64, .inl (fun jx => sp_o ((va_up cel ((hmN w b + t) % 64) (some b)) jx)))), (q8, .inl (ta.2.1, 64, .inl (fun jx => sp_b (gt jx))))]) rfl rfl ?_
  refine sw_iconst (v := nI 0) G dXM_putIn_5 (by decide) ?_
  refine sw_istore_n G dXM_putIn_6 rfl (by decide) (lv' := [(2, .int (nI 0)), (0, .ref q0), (1, .int (nI b))]) rfl ?_
  refine sw_iload_n G dXM_putIn_7 rfl 0 rfl ?_
  refine sw_iconst (v := nI 3) G dXM_putIn_8 (by decide) ?_
  refine sw_icmpN_ge (a := 0) (b := 3) (tgt := 30) G dXM_putIn_9 (by decide) (by omega) (by omega) (fun br9 => ?_) (fun br9 => ?_)
  · exact absurd br9 (by decide)
  · refine sw_aload_n G dXM_putIn_12 rfl 1 rfl ?_
    refine sw_get (C := RXM) (T := TXM) (ref := RXM) (N := 15) G inXM 0 rfl rfl 14 (by decide) wd_566 rfl rfl dXM_putIn_13 ?_
    refine sw_aload_n G dXM_putIn_16 rfl 1 rfl ?_
    refine sw_iload_n G dXM_putIn_17 rfl 2 rfl ?_
    refine sw_iload_n G dXM_putIn_18 rfl 0 rfl ?_
    refine sw_readV (As := [.int (nI b), .int (nI 0)]) (rest := [.ref q8]) G (c_XM_gateC0 l D ta q0 q1 q2 q3 q4 q5 q6 q7 q8 flt dn left wr pr sg g w num b (by omega)) (cwV 2 G.2.2.2.2.1 (sb_goodV wd_630 wd_632 ws_XM_gateBit wd_8 wd_633) rfl rfl rfl (by decide +kernel) ⟨Nat.le_of_ble_eq_true rfl, Nat.le_of_ble_eq_true rfl⟩) 0 6 rfl rfl rfl rfl (Nat.le_of_ble_eq_true rfl) dXM_putIn_19 ⟨Nat.le_of_ble_eq_true rfl, Nat.le_of_ble_eq_true rfl⟩ [0, 1, 2] rfl (by decide) ?_
    refine sw_eq (ws' := [(q0, .inr (6, [.int flt, .int (sp_b dn), .int left, .int wr, .int pr, .int (nI sg), .ref q1, .ref q2, .ref q3, .ref q4, .ref q5, .ref q6, .int num, .ref q7, .ref q8])), (q1, .inl (ta.1, 4, .inl (g))), (q2, .inl (ta.1, 160, .inl (w))), (q7, .inl (ta.1, 64, .inl (fun jx => sp_o ((va_up cel ((hmN w b + t) % 64) (some b)) jx)))), (q8, .inl (ta.2.1, 64, .inl (fun jx => sp_b (gt jx))))]) (lv2 := [(2, .int (nI 0)), (0, .ref q0), (1, .int (nI b))]) (pc2 := 22) (st2 := [.int (nI (fpN w (b * 4) % 64)), .ref q8]) rfl ?_
    refine sw_iconst (v := nI 1) G dXM_putIn_22 (by decide) ?_
    refine sw_zastN (j := fpN w (b * 4) % 64) (x := nI 1) G 4 rfl (by omega) (by decide) (by decide) dXM_putIn_23 (f' := fun jx => sp_b ((va_up gt (fpN w (b * 4) % 64) true) jx)) (sp_upB1 _ _) (ws' := [(q0, .inr (6, [.int flt, .int (sp_b dn), .int left, .int wr, .int pr, .int (nI sg), .ref q1, .ref q2, .ref q3, .ref q4, .ref q5, .ref q6, .int num, .ref q7, .ref q8])), (q1, .inl (ta.1, 4, .inl (g))), (q2, .inl (ta.1, 160, .inl (w))), (q7, .inl (ta.1, 64, .inl (fun jx => sp_o ((va_up cel ((hmN w b + t) % 64) (some b)) jx)))), (q8, .inl (ta.2.1, 64, .inl (fun jx => sp_b ((va_up gt (fpN w (b * 4) % 64) true) jx))))]) rfl ?_
    refine sw_iinc (x := nI 0) (v := nI 1) G dXM_putIn_24 (q := 0) rfl (by decide) (by decide) (lv' := [(2, .int (nI 1)), (0, .ref q0), (1, .int (nI b))]) rfl ?_
    refine sw_goto (tgt := 7) G dXM_putIn_27 (by decide) ?_
    refine sw_iload_n G dXM_putIn_7 rfl 0 rfl ?_
    refine sw_iconst (v := nI 3) G dXM_putIn_8 (by decide) ?_
    refine sw_icmpN_ge (a := 1) (b := 3) (tgt := 30) G dXM_putIn_9 (by decide) (by omega) (by omega) (fun br9_1 => ?_) (fun br9_1 => ?_)
    · exact absurd br9_1 (by decide)
    · refine sw_aload_n G dXM_putIn_12 rfl 1 rfl ?_
      refine sw_get (C := RXM) (T := TXM) (ref := RXM) (N := 15) G inXM 0 rfl rfl 14 (by decide) wd_566 rfl rfl dXM_putIn_13 ?_
      refine sw_aload_n G dXM_putIn_16 rfl 1 rfl ?_
      refine sw_iload_n G dXM_putIn_17 rfl 2 rfl ?_
      refine sw_iload_n G dXM_putIn_18 rfl 0 rfl ?_
      refine sw_readV (As := [.int (nI b), .int (nI 1)]) (rest := [.ref q8]) G (c_XM_gateC1 l D ta q0 q1 q2 q3 q4 q5 q6 q7 q8 flt dn left wr pr sg g w num b (by omega)) (cwV 2 G.2.2.2.2.1 (sb_goodV wd_630 wd_632 ws_XM_gateBit wd_8 wd_633) rfl rfl rfl (by decide +kernel) ⟨Nat.le_of_ble_eq_true rfl, Nat.le_of_ble_eq_true rfl⟩) 0 6 rfl rfl rfl rfl (Nat.le_of_ble_eq_true rfl) dXM_putIn_19 ⟨Nat.le_of_ble_eq_true rfl, Nat.le_of_ble_eq_true rfl⟩ [0, 1, 2] rfl (by decide) ?_
      refine sw_eq (ws' := [(q0, .inr (6, [.int flt, .int (sp_b dn), .int left, .int wr, .int pr, .int (nI sg), .ref q1, .ref q2, .ref q3, .ref q4, .ref q5, .ref q6, .int num, .ref q7, .ref q8])), (q1, .inl (ta.1, 4, .inl (g))), (q2, .inl (ta.1, 160, .inl (w))), (q7, .inl (ta.1, 64, .inl (fun jx => sp_o ((va_up cel ((hmN w b + t) % 64) (some b)) jx)))), (q8, .inl (ta.2.1, 64, .inl (fun jx => sp_b ((va_up gt (fpN w (b * 4) % 64) true) jx))))]) (lv2 := [(2, .int (nI 1)), (0, .ref q0), (1, .int (nI b))]) (pc2 := 22) (st2 := [.int (nI (fpN w (b * 4) / 4)), .ref q8]) rfl ?_
      refine sw_iconst (v := nI 1) G dXM_putIn_22 (by decide) ?_
      refine sw_zastN (j := fpN w (b * 4) / 4) (x := nI 1) G 4 rfl (by omega) (by decide) (by decide) dXM_putIn_23 (f' := fun jx => sp_b ((va_up (va_up gt (fpN w (b * 4) % 64) true) (fpN w (b * 4) / 4) true) jx)) (sp_upB1 _ _) (ws' := [(q0, .inr (6, [.int flt, .int (sp_b dn), .int left, .int wr, .int pr, .int (nI sg), .ref q1, .ref q2, .ref q3, .ref q4, .ref q5, .ref q6, .int num, .ref q7, .ref q8])), (q1, .inl (ta.1, 4, .inl (g))), (q2, .inl (ta.1, 160, .inl (w))), (q7, .inl (ta.1, 64, .inl (fun jx => sp_o ((va_up cel ((hmN w b + t) % 64) (some b)) jx)))), (q8, .inl (ta.2.1, 64, .inl (fun jx => sp_b ((va_up (va_up gt (fpN w (b * 4) % 64) true) (fpN w (b * 4) / 4) true) jx))))]) rfl ?_
      refine sw_iinc (x := nI 1) (v := nI 2) G dXM_putIn_24 (q := 0) rfl (by decide) (by decide) (lv' := [(2, .int (nI 2)), (0, .ref q0), (1, .int (nI b))]) rfl ?_
      refine sw_goto (tgt := 7) G dXM_putIn_27 (by decide) ?_
      refine sw_iload_n G dXM_putIn_7 rfl 0 rfl ?_
      refine sw_iconst (v := nI 3) G dXM_putIn_8 (by decide) ?_
      refine sw_icmpN_ge (a := 2) (b := 3) (tgt := 30) G dXM_putIn_9 (by decide) (by omega) (by omega) (fun br9_2 => ?_) (fun br9_2 => ?_)
      · exact absurd br9_2 (by decide)
      · refine sw_aload_n G dXM_putIn_12 rfl 1 rfl ?_
        refine sw_get (C := RXM) (T := TXM) (ref := RXM) (N := 15) G inXM 0 rfl rfl 14 (by decide) wd_566 rfl rfl dXM_putIn_13 ?_
        refine sw_aload_n G dXM_putIn_16 rfl 1 rfl ?_
        refine sw_iload_n G dXM_putIn_17 rfl 2 rfl ?_
        refine sw_iload_n G dXM_putIn_18 rfl 0 rfl ?_
        refine sw_readV (As := [.int (nI b), .int (nI 2)]) (rest := [.ref q8]) G (c_XM_gateC2 l D ta q0 q1 q2 q3 q4 q5 q6 q7 q8 flt dn left wr pr sg g w num b (by omega)) (cwV 2 G.2.2.2.2.1 (sb_goodV wd_630 wd_632 ws_XM_gateBit wd_8 wd_633) rfl rfl rfl (by decide +kernel) ⟨Nat.le_of_ble_eq_true rfl, Nat.le_of_ble_eq_true rfl⟩) 0 6 rfl rfl rfl rfl (Nat.le_of_ble_eq_true rfl) dXM_putIn_19 ⟨Nat.le_of_ble_eq_true rfl, Nat.le_of_ble_eq_true rfl⟩ [0, 1, 2] rfl (by decide) ?_
        refine sw_eq (ws' := [(q0, .inr (6, [.int flt, .int (sp_b dn), .int left, .int wr, .int pr, .int (nI sg), .ref q1, .ref q2, .ref q3, .ref q4, .ref q5, .ref q6, .int num, .ref q7, .ref q8])), (q1, .inl (ta.1, 4, .inl (g))), (q2, .inl (ta.1, 160, .inl (w))), (q7, .inl (ta.1, 64, .inl (fun jx => sp_o ((va_up cel ((hmN w b + t) % 64) (some b)) jx)))), (q8, .inl (ta.2.1, 64, .inl (fun jx => sp_b ((va_up (va_up gt (fpN w (b * 4) % 64) true) (fpN w (b * 4) / 4) true) jx))))]) (lv2 := [(2, .int (nI 2)), (0, .ref q0), (1, .int (nI b))]) (pc2 := 22) (st2 := [.int (nI (mixN w (b * 4))), .ref q8]) rfl ?_
        refine sw_iconst (v := nI 1) G dXM_putIn_22 (by decide) ?_
        refine sw_zastN (j := mixN w (b * 4)) (x := nI 1) G 4 rfl (by omega) (by decide) (by decide) dXM_putIn_23 (f' := fun jx => sp_b ((va_up (va_up (va_up gt (fpN w (b * 4) % 64) true) (fpN w (b * 4) / 4) true) (mixN w (b * 4)) true) jx)) (sp_upB1 _ _) (ws' := [(q0, .inr (6, [.int flt, .int (sp_b dn), .int left, .int wr, .int pr, .int (nI sg), .ref q1, .ref q2, .ref q3, .ref q4, .ref q5, .ref q6, .int num, .ref q7, .ref q8])), (q1, .inl (ta.1, 4, .inl (g))), (q2, .inl (ta.1, 160, .inl (w))), (q7, .inl (ta.1, 64, .inl (fun jx => sp_o ((va_up cel ((hmN w b + t) % 64) (some b)) jx)))), (q8, .inl (ta.2.1, 64, .inl (fun jx => sp_b ((va_up (va_up (va_up gt (fpN w (b * 4) % 64) true) (fpN w (b * 4) / 4) true) (mixN w (b * 4)) true) jx))))]) rfl ?_
        refine sw_iinc (x := nI 2) (v := nI 3) G dXM_putIn_24 (q := 0) rfl (by decide) (by decide) (lv' := [(2, .int (nI 3)), (0, .ref q0), (1, .int (nI b))]) rfl ?_
        refine sw_goto (tgt := 7) G dXM_putIn_27 (by decide) ?_
        refine sw_iload_n G dXM_putIn_7 rfl 0 rfl ?_
        refine sw_iconst (v := nI 3) G dXM_putIn_8 (by decide) ?_
        refine sw_icmpN_ge (a := 3) (b := 3) (tgt := 30) G dXM_putIn_9 (by decide) (by omega) (by omega) (fun br9_3 => ?_) (fun br9_3 => ?_)
        · refine sw_sub [0, 1, 2, 3, 4] (by decide) (ws' := [(q0, .inr (6, [.int flt, .int (sp_b dn), .int left, .int wr, .int pr, .int (nI sg), .ref q1, .ref q2, .ref q3, .ref q4, .ref q5, .ref q6, .int num, .ref q7, .ref q8])), (q1, .inl (ta.1, 4, .inl (g))), (q2, .inl (ta.1, 160, .inl (w))), (q7, .inl (ta.1, 64, .inl (fun jx => sp_o ((va_up cel ((hmN w b + t) % 64) (some b)) jx)))), (q8, .inl (ta.2.1, 64, .inl (fun jx => sp_b ((va_up (va_up (va_up gt (fpN w (b * 4) % 64) true) (fpN w (b * 4) / 4) true) (mixN w (b * 4)) true) jx))))]) rfl rfl ?_
          refine sw_eq (ws' := [(q0, .inr (6, [.int flt, .int (sp_b dn), .int left, .int wr, .int pr, .int (nI sg), .ref q1, .ref q2, .ref q3, .ref q4, .ref q5, .ref q6, .int num, .ref q7, .ref q8])), (q1, .inl (ta.1, 4, .inl (g))), (q2, .inl (ta.1, 160, .inl (w))), (q7, .inl (ta.1, 64, .inl (fun jx => sp_o ((va_up cel ((hmN w b + t) % 64) (some b)) jx)))), (q8, .inl (ta.2.1, 64, .inl (fun jx => sp_b ((gset gt w b) jx))))]) (lv2 := [(2, .int (nI 3)), (0, .ref q0), (1, .int (nI b))]) (pc2 := 30) (st2 := []) (rfl) ?_
          exact sw_vret G hr hlk () trivial (rfl) [0, 1, 2, 3, 4] (by decide) rfl rfl dXM_putIn_30
        · exact absurd br9_3 (by decide)
