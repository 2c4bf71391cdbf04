abbrev cXR_replaceRow : ByteArray := prog_6_method_7_code
abbrev yXR_replaceRow : MethodName := ⟨RXR, "replaceRow", "(ILSharedBlockStore$Rows;I)V"⟩
abbrev wsXR_replaceRow : List Cond := .code yXR_replaceRow cXR_replaceRow 6 none :: sbT
theorem dXR_replaceRow_0 : decode cXR_replaceRow 0 = .ok (.aload_n 0, 1) := by decide +kernel
theorem dXR_replaceRow_1 : decode cXR_replaceRow 1 = .ok (.iload_n 1, 1) := by decide +kernel
theorem dXR_replaceRow_2 : decode cXR_replaceRow 2 = .ok (.iconst 0, 1) := by decide +kernel
theorem dXR_replaceRow_3 : decode cXR_replaceRow 3 = .ok (.invokevirtual 25, 3) := by decide +kernel
theorem dXR_replaceRow_6 : decode cXR_replaceRow 6 = .ok (.aload_n 2, 1) := by decide +kernel
theorem dXR_replaceRow_7 : decode cXR_replaceRow 7 = .ok (.iload_n 3, 1) := by decide +kernel
theorem dXR_replaceRow_8 : decode cXR_replaceRow 8 = .ok (.invokevirtual 29, 3) := by decide +kernel
theorem dXR_replaceRow_11 : decode cXR_replaceRow 11 = .ok (.istore 4, 2) := by decide +kernel
theorem dXR_replaceRow_13 : decode cXR_replaceRow 13 = .ok (.iconst 0, 1) := by decide +kernel
theorem dXR_replaceRow_14 : decode cXR_replaceRow 14 = .ok (.istore 5, 2) := by decide +kernel
theorem dXR_replaceRow_16 : decode cXR_replaceRow 16 = .ok (.iload 5, 2) := by decide +kernel
theorem dXR_replaceRow_18 : decode cXR_replaceRow 18 = .ok (.iload 4, 2) := by decide +kernel
theorem dXR_replaceRow_20 : decode cXR_replaceRow 20 = .ok (.if_icmp .ge 21, 3) := by decide +kernel
theorem dXR_replaceRow_23 : decode cXR_replaceRow 23 = .ok (.aload_n 0, 1) := by decide +kernel
theorem dXR_replaceRow_24 : decode cXR_replaceRow 24 = .ok (.iload_n 1, 1) := by decide +kernel
theorem dXR_replaceRow_25 : decode cXR_replaceRow 25 = .ok (.aload_n 2, 1) := by decide +kernel
theorem dXR_replaceRow_26 : decode cXR_replaceRow 26 = .ok (.iload_n 3, 1) := by decide +kernel
theorem dXR_replaceRow_27 : decode cXR_replaceRow 27 = .ok (.iload 5, 2) := by decide +kernel
theorem dXR_replaceRow_29 : decode cXR_replaceRow 29 = .ok (.invokevirtual 21, 3) := by decide +kernel
theorem dXR_replaceRow_32 : decode cXR_replaceRow 32 = .ok (.invokevirtual 33, 3) := by decide +kernel
theorem dXR_replaceRow_35 : decode cXR_replaceRow 35 = .ok (.iinc 5 1, 3) := by decide +kernel
theorem dXR_replaceRow_38 : decode cXR_replaceRow 38 = .ok (.goto (-22), 3) := by decide +kernel
theorem dXR_replaceRow_41 : decode cXR_replaceRow 41 = .ok (.return_, 1) := by decide +kernel
abbrev cXI_clear : ByteArray := prog_4_method_2_code
abbrev yXI_clear : MethodName := ⟨RXI, "clear", "()V"⟩
abbrev wsXI_clear : List Cond := .code yXI_clear cXI_clear 1 none :: sbT
theorem dXI_clear_0 : decode cXI_clear 0 = .ok (.aload_n 0, 1) := by decide +kernel
theorem dXI_clear_1 : decode cXI_clear 1 = .ok (.getfield 15, 3) := by decide +kernel
theorem dXI_clear_4 : decode cXI_clear 4 = .ok (.iconst (-1), 1) := by decide +kernel
theorem dXI_clear_5 : decode cXI_clear 5 = .ok (.invokestatic 22, 3) := by decide +kernel
theorem dXI_clear_8 : decode cXI_clear 8 = .ok (.aload_n 0, 1) := by decide +kernel
theorem dXI_clear_9 : decode cXI_clear 9 = .ok (.getfield 19, 3) := by decide +kernel
theorem dXI_clear_12 : decode cXI_clear 12 = .ok (.iconst (-1), 1) := by decide +kernel
theorem dXI_clear_13 : decode cXI_clear 13 = .ok (.invokestatic 22, 3) := by decide +kernel
theorem dXI_clear_16 : decode cXI_clear 16 = .ok (.aload_n 0, 1) := by decide +kernel
theorem dXI_clear_17 : decode cXI_clear 17 = .ok (.lconst 0, 1) := by decide +kernel
theorem dXI_clear_18 : decode cXI_clear 18 = .ok (.putfield 28, 3) := by decide +kernel
theorem dXI_clear_21 : decode cXI_clear 21 = .ok (.return_, 1) := by decide +kernel
abbrev cXI_inCell : ByteArray := prog_4_method_3_code
abbrev yXI_inCell : MethodName := ⟨RXI, "inCell", "(I)I"⟩
abbrev wsXI_inCell : List Cond := .code yXI_inCell cXI_inCell 2 (some .int) :: sbT
theorem dXI_inCell_0 : decode cXI_inCell 0 = .ok (.aload_n 0, 1) := by decide +kernel
theorem dXI_inCell_1 : decode cXI_inCell 1 = .ok (.getfield 15, 3) := by decide +kernel
theorem dXI_inCell_4 : decode cXI_inCell 4 = .ok (.iload_n 1, 1) := by decide +kernel
theorem dXI_inCell_5 : decode cXI_inCell 5 = .ok (.iaload, 1) := by decide +kernel
theorem dXI_inCell_6 : decode cXI_inCell 6 = .ok (.ireturn, 1) := by decide +kernel
abbrev cXI_gateBits : ByteArray := prog_4_method_4_code
abbrev yXI_gateBits : MethodName := ⟨RXI, "gateBits", "()I"⟩
abbrev wsXI_gateBits : List Cond := .code yXI_gateBits cXI_gateBits 1 (some .int) :: sbT
theorem dXI_gateBits_0 : decode cXI_gateBits 0 = .ok (.aload_n 0, 1) := by decide +kernel
theorem dXI_gateBits_1 : decode cXI_gateBits 1 = .ok (.getfield 28, 3) := by decide +kernel
theorem dXI_gateBits_4 : decode cXI_gateBits 4 = .ok (.invokestatic 32, 3) := by decide +kernel
theorem dXI_gateBits_7 : decode cXI_gateBits 7 = .ok (.ireturn, 1) := by decide +kernel
abbrev cXI_probesMade : ByteArray := prog_4_method_5_code
abbrev yXI_probesMade : MethodName := ⟨RXI, "probesMade", "()I"⟩
abbrev wsXI_probesMade : List Cond := .code yXI_probesMade cXI_probesMade 1 (some .int) :: sbT
theorem dXI_probesMade_0 : decode cXI_probesMade 0 = .ok (.aload_n 0, 1) := by decide +kernel
theorem dXI_probesMade_1 : decode cXI_probesMade 1 = .ok (.getfield 38, 3) := by decide +kernel
theorem dXI_probesMade_4 : decode cXI_probesMade 4 = .ok (.ireturn, 1) := by decide +kernel
abbrev cXI_gateLets : ByteArray := prog_4_method_6_code
abbrev yXI_gateLets : MethodName := ⟨RXI, "gateLets", "([I)Z"⟩
abbrev wsXI_gateLets : List Cond := .code yXI_gateLets cXI_gateLets 4 (some .boolean) :: sbT
theorem dXI_gateLets_0 : decode cXI_gateLets 0 = .ok (.aload_n 1, 1) := by decide +kernel
theorem dXI_gateLets_1 : decode cXI_gateLets 1 = .ok (.iconst 0, 1) := by decide +kernel
theorem dXI_gateLets_2 : decode cXI_gateLets 2 = .ok (.invokestatic 42, 3) := by decide +kernel
theorem dXI_gateLets_5 : decode cXI_gateLets 5 = .ok (.lstore_n 2, 1) := by decide +kernel
theorem dXI_gateLets_6 : decode cXI_gateLets 6 = .ok (.aload_n 0, 1) := by decide +kernel
theorem dXI_gateLets_7 : decode cXI_gateLets 7 = .ok (.getfield 28, 3) := by decide +kernel
theorem dXI_gateLets_10 : decode cXI_gateLets 10 = .ok (.lload_n 2, 1) := by decide +kernel
theorem dXI_gateLets_11 : decode cXI_gateLets 11 = .ok (.land, 1) := by decide +kernel
theorem dXI_gateLets_12 : decode cXI_gateLets 12 = .ok (.lload_n 2, 1) := by decide +kernel
theorem dXI_gateLets_13 : decode cXI_gateLets 13 = .ok (.lcmp, 1) := by decide +kernel
theorem dXI_gateLets_14 : decode cXI_gateLets 14 = .ok (.ifCond .ne 7, 3) := by decide +kernel
theorem dXI_gateLets_17 : decode cXI_gateLets 17 = .ok (.iconst 1, 1) := by decide +kernel
theorem dXI_gateLets_18 : decode cXI_gateLets 18 = .ok (.goto 4, 3) := by decide +kernel
theorem dXI_gateLets_21 : decode cXI_gateLets 21 = .ok (.iconst 0, 1) := by decide +kernel
theorem dXI_gateLets_22 : decode cXI_gateLets 22 = .ok (.ireturn, 1) := by decide +kernel
abbrev cXI_lookUp : ByteArray := prog_4_method_7_code
abbrev yXI_lookUp : MethodName := ⟨RXI, "lookUp", "([I)I"⟩
abbrev wsXI_lookUp : List Cond := .code yXI_lookUp cXI_lookUp 5 (some .int) :: sbT
theorem dXI_lookUp_0 : decode cXI_lookUp 0 = .ok (.aload_n 1, 1) := by decide +kernel
theorem dXI_lookUp_1 : decode cXI_lookUp 1 = .ok (.iconst 0, 1) := by decide +kernel
theorem dXI_lookUp_2 : decode cXI_lookUp 2 = .ok (.invokestatic 48, 3) := by decide +kernel
theorem dXI_lookUp_5 : decode cXI_lookUp 5 = .ok (.bipush 63, 2) := by decide +kernel
theorem dXI_lookUp_7 : decode cXI_lookUp 7 = .ok (.iand, 1) := by decide +kernel
theorem dXI_lookUp_8 : decode cXI_lookUp 8 = .ok (.istore_n 2, 1) := by decide +kernel
theorem dXI_lookUp_9 : decode cXI_lookUp 9 = .ok (.iconst 0, 1) := by decide +kernel
theorem dXI_lookUp_10 : decode cXI_lookUp 10 = .ok (.istore_n 3, 1) := by decide +kernel
theorem dXI_lookUp_11 : decode cXI_lookUp 11 = .ok (.iload_n 3, 1) := by decide +kernel
theorem dXI_lookUp_12 : decode cXI_lookUp 12 = .ok (.bipush 64, 2) := by decide +kernel
theorem dXI_lookUp_14 : decode cXI_lookUp 14 = .ok (.if_icmp .ge 54, 3) := by decide +kernel
theorem dXI_lookUp_17 : decode cXI_lookUp 17 = .ok (.aload_n 0, 1) := by decide +kernel
theorem dXI_lookUp_18 : decode cXI_lookUp 18 = .ok (.getfield 15, 3) := by decide +kernel
theorem dXI_lookUp_21 : decode cXI_lookUp 21 = .ok (.iload_n 2, 1) := by decide +kernel
theorem dXI_lookUp_22 : decode cXI_lookUp 22 = .ok (.iload_n 3, 1) := by decide +kernel
theorem dXI_lookUp_23 : decode cXI_lookUp 23 = .ok (.iadd, 1) := by decide +kernel
theorem dXI_lookUp_24 : decode cXI_lookUp 24 = .ok (.bipush 63, 2) := by decide +kernel
theorem dXI_lookUp_26 : decode cXI_lookUp 26 = .ok (.iand, 1) := by decide +kernel
theorem dXI_lookUp_27 : decode cXI_lookUp 27 = .ok (.iaload, 1) := by decide +kernel
theorem dXI_lookUp_28 : decode cXI_lookUp 28 = .ok (.istore 4, 2) := by decide +kernel
theorem dXI_lookUp_30 : decode cXI_lookUp 30 = .ok (.aload_n 0, 1) := by decide +kernel
theorem dXI_lookUp_31 : decode cXI_lookUp 31 = .ok (.dup, 1) := by decide +kernel
theorem dXI_lookUp_32 : decode cXI_lookUp 32 = .ok (.getfield 38, 3) := by decide +kernel
theorem dXI_lookUp_35 : decode cXI_lookUp 35 = .ok (.iconst 1, 1) := by decide +kernel
theorem dXI_lookUp_36 : decode cXI_lookUp 36 = .ok (.iadd, 1) := by decide +kernel
theorem dXI_lookUp_37 : decode cXI_lookUp 37 = .ok (.putfield 38, 3) := by decide +kernel
theorem dXI_lookUp_40 : decode cXI_lookUp 40 = .ok (.iload 4, 2) := by decide +kernel
theorem dXI_lookUp_42 : decode cXI_lookUp 42 = .ok (.iconst (-1), 1) := by decide +kernel
theorem dXI_lookUp_43 : decode cXI_lookUp 43 = .ok (.if_icmp .eq 16, 3) := by decide +kernel
theorem dXI_lookUp_46 : decode cXI_lookUp 46 = .ok (.aload_n 0, 1) := by decide +kernel
theorem dXI_lookUp_47 : decode cXI_lookUp 47 = .ok (.getfield 9, 3) := by decide +kernel
theorem dXI_lookUp_50 : decode cXI_lookUp 50 = .ok (.iload 4, 2) := by decide +kernel
theorem dXI_lookUp_52 : decode cXI_lookUp 52 = .ok (.aload_n 1, 1) := by decide +kernel
theorem dXI_lookUp_53 : decode cXI_lookUp 53 = .ok (.invokevirtual 52, 3) := by decide +kernel
theorem dXI_lookUp_56 : decode cXI_lookUp 56 = .ok (.ifCond .eq 6, 3) := by decide +kernel
theorem dXI_lookUp_59 : decode cXI_lookUp 59 = .ok (.iload 4, 2) := by decide +kernel
theorem dXI_lookUp_61 : decode cXI_lookUp 61 = .ok (.ireturn, 1) := by decide +kernel
theorem dXI_lookUp_62 : decode cXI_lookUp 62 = .ok (.iinc 3 1, 3) := by decide +kernel
theorem dXI_lookUp_65 : decode cXI_lookUp 65 = .ok (.goto (-54), 3) := by decide +kernel
theorem dXI_lookUp_68 : decode cXI_lookUp 68 = .ok (.iconst (-1), 1) := by decide +kernel
theorem dXI_lookUp_69 : decode cXI_lookUp 69 = .ok (.ireturn, 1) := by decide +kernel
abbrev cXI_putIn : ByteArray := prog_4_method_11_code
abbrev yXI_putIn : MethodName := ⟨RXI, "putIn", "(I)V"⟩
abbrev wsXI_putIn : List Cond := .code yXI_putIn cXI_putIn 5 none :: sbT
theorem dXI_putIn_0 : decode cXI_putIn 0 = .ok (.aload_n 0, 1) := by decide +kernel
theorem dXI_putIn_1 : decode cXI_putIn 1 = .ok (.getfield 9, 3) := by decide +kernel
theorem dXI_putIn_4 : decode cXI_putIn 4 = .ok (.iload_n 1, 1) := by decide +kernel
theorem dXI_putIn_5 : decode cXI_putIn 5 = .ok (.invokevirtual 69, 3) := by decide +kernel
theorem dXI_putIn_8 : decode cXI_putIn 8 = .ok (.istore_n 2, 1) := by decide +kernel
theorem dXI_putIn_9 : decode cXI_putIn 9 = .ok (.iconst 0, 1) := by decide +kernel
theorem dXI_putIn_10 : decode cXI_putIn 10 = .ok (.istore_n 3, 1) := by decide +kernel
theorem dXI_putIn_11 : decode cXI_putIn 11 = .ok (.iload_n 3, 1) := by decide +kernel
theorem dXI_putIn_12 : decode cXI_putIn 12 = .ok (.bipush 64, 2) := by decide +kernel
theorem dXI_putIn_14 : decode cXI_putIn 14 = .ok (.if_icmp .ge 45, 3) := by decide +kernel
theorem dXI_putIn_17 : decode cXI_putIn 17 = .ok (.iload_n 2, 1) := by decide +kernel
theorem dXI_putIn_18 : decode cXI_putIn 18 = .ok (.iload_n 3, 1) := by decide +kernel
theorem dXI_putIn_19 : decode cXI_putIn 19 = .ok (.iadd, 1) := by decide +kernel
theorem dXI_putIn_20 : decode cXI_putIn 20 = .ok (.bipush 63, 2) := by decide +kernel
theorem dXI_putIn_22 : decode cXI_putIn 22 = .ok (.iand, 1) := by decide +kernel
theorem dXI_putIn_23 : decode cXI_putIn 23 = .ok (.istore 4, 2) := by decide +kernel
theorem dXI_putIn_25 : decode cXI_putIn 25 = .ok (.aload_n 0, 1) := by decide +kernel
theorem dXI_putIn_26 : decode cXI_putIn 26 = .ok (.getfield 15, 3) := by decide +kernel
theorem dXI_putIn_29 : decode cXI_putIn 29 = .ok (.iload 4, 2) := by decide +kernel
theorem dXI_putIn_31 : decode cXI_putIn 31 = .ok (.iaload, 1) := by decide +kernel
theorem dXI_putIn_32 : decode cXI_putIn 32 = .ok (.iconst (-1), 1) := by decide +kernel
theorem dXI_putIn_33 : decode cXI_putIn 33 = .ok (.if_icmp .ne 20, 3) := by decide +kernel
theorem dXI_putIn_36 : decode cXI_putIn 36 = .ok (.aload_n 0, 1) := by decide +kernel
theorem dXI_putIn_37 : decode cXI_putIn 37 = .ok (.getfield 15, 3) := by decide +kernel
theorem dXI_putIn_40 : decode cXI_putIn 40 = .ok (.iload 4, 2) := by decide +kernel
theorem dXI_putIn_42 : decode cXI_putIn 42 = .ok (.iload_n 1, 1) := by decide +kernel
theorem dXI_putIn_43 : decode cXI_putIn 43 = .ok (.iastore, 1) := by decide +kernel
theorem dXI_putIn_44 : decode cXI_putIn 44 = .ok (.aload_n 0, 1) := by decide +kernel
theorem dXI_putIn_45 : decode cXI_putIn 45 = .ok (.getfield 19, 3) := by decide +kernel
theorem dXI_putIn_48 : decode cXI_putIn 48 = .ok (.iload_n 1, 1) := by decide +kernel
theorem dXI_putIn_49 : decode cXI_putIn 49 = .ok (.iload 4, 2) := by decide +kernel
theorem dXI_putIn_51 : decode cXI_putIn 51 = .ok (.iastore, 1) := by decide +kernel
theorem dXI_putIn_52 : decode cXI_putIn 52 = .ok (.return_, 1) := by decide +kernel
theorem dXI_putIn_53 : decode cXI_putIn 53 = .ok (.iinc 3 1, 3) := by decide +kernel
theorem dXI_putIn_56 : decode cXI_putIn 56 = .ok (.goto (-45), 3) := by decide +kernel
theorem dXI_putIn_59 : decode cXI_putIn 59 = .ok (.return_, 1) := by decide +kernel
abbrev cXI_admit : ByteArray := prog_4_method_8_code
abbrev yXI_admit : MethodName := ⟨RXI, String.ofList ['a', 'd', 'm', 'i', 't'], "(I)V"⟩
abbrev wsXI_admit : List Cond := .code yXI_admit cXI_admit 2 none :: sbT
theorem dXI_admit_0 : decode cXI_admit 0 = .ok (.aload_n 0, 1) := by decide +kernel
theorem dXI_admit_1 : decode cXI_admit 1 = .ok (.dup, 1) := by decide +kernel
theorem dXI_admit_2 : decode cXI_admit 2 = .ok (.getfield 28, 3) := by decide +kernel
theorem dXI_admit_5 : decode cXI_admit 5 = .ok (.aload_n 0, 1) := by decide +kernel
theorem dXI_admit_6 : decode cXI_admit 6 = .ok (.getfield 9, 3) := by decide +kernel
theorem dXI_admit_9 : decode cXI_admit 9 = .ok (.iload_n 1, 1) := by decide +kernel
theorem dXI_admit_10 : decode cXI_admit 10 = .ok (.invokevirtual 58, 3) := by decide +kernel
theorem dXI_admit_13 : decode cXI_admit 13 = .ok (.lor, 1) := by decide +kernel
theorem dXI_admit_14 : decode cXI_admit 14 = .ok (.putfield 28, 3) := by decide +kernel
theorem dXI_admit_17 : decode cXI_admit 17 = .ok (.aload_n 0, 1) := by decide +kernel
theorem dXI_admit_18 : decode cXI_admit 18 = .ok (.iload_n 1, 1) := by decide +kernel
theorem dXI_admit_19 : decode cXI_admit 19 = .ok (.invokevirtual 62, 3) := by decide +kernel
theorem dXI_admit_22 : decode cXI_admit 22 = .ok (.return_, 1) := by decide +kernel
abbrev cXI_putInAnewBehind : ByteArray := prog_4_method_10_code
abbrev yXI_putInAnewBehind : MethodName := ⟨RXI, "putInAnewBehind", "(I)V"⟩
abbrev wsXI_putInAnewBehind : List Cond := .code yXI_putInAnewBehind cXI_putInAnewBehind 5 none :: sbT
theorem dXI_putInAnewBehind_0 : decode cXI_putInAnewBehind 0 = .ok (.iconst 1, 1) := by decide +kernel
theorem dXI_putInAnewBehind_1 : decode cXI_putInAnewBehind 1 = .ok (.istore_n 2, 1) := by decide +kernel
theorem dXI_putInAnewBehind_2 : decode cXI_putInAnewBehind 2 = .ok (.iload_n 2, 1) := by decide +kernel
theorem dXI_putInAnewBehind_3 : decode cXI_putInAnewBehind 3 = .ok (.bipush 64, 2) := by decide +kernel
theorem dXI_putInAnewBehind_5 : decode cXI_putInAnewBehind 5 = .ok (.if_icmp .ge 44, 3) := by decide +kernel
theorem dXI_putInAnewBehind_8 : decode cXI_putInAnewBehind 8 = .ok (.iload_n 1, 1) := by decide +kernel
theorem dXI_putInAnewBehind_9 : decode cXI_putInAnewBehind 9 = .ok (.iload_n 2, 1) := by decide +kernel
theorem dXI_putInAnewBehind_10 : decode cXI_putInAnewBehind 10 = .ok (.iadd, 1) := by decide +kernel
theorem dXI_putInAnewBehind_11 : decode cXI_putInAnewBehind 11 = .ok (.bipush 63, 2) := by decide +kernel
theorem dXI_putInAnewBehind_13 : decode cXI_putInAnewBehind 13 = .ok (.iand, 1) := by decide +kernel
theorem dXI_putInAnewBehind_14 : decode cXI_putInAnewBehind 14 = .ok (.istore_n 3, 1) := by decide +kernel
theorem dXI_putInAnewBehind_15 : decode cXI_putInAnewBehind 15 = .ok (.aload_n 0, 1) := by decide +kernel
theorem dXI_putInAnewBehind_16 : decode cXI_putInAnewBehind 16 = .ok (.getfield 15, 3) := by decide +kernel
theorem dXI_putInAnewBehind_19 : decode cXI_putInAnewBehind 19 = .ok (.iload_n 3, 1) := by decide +kernel
theorem dXI_putInAnewBehind_20 : decode cXI_putInAnewBehind 20 = .ok (.iaload, 1) := by decide +kernel
theorem dXI_putInAnewBehind_21 : decode cXI_putInAnewBehind 21 = .ok (.istore 4, 2) := by decide +kernel
theorem dXI_putInAnewBehind_23 : decode cXI_putInAnewBehind 23 = .ok (.iload 4, 2) := by decide +kernel
theorem dXI_putInAnewBehind_25 : decode cXI_putInAnewBehind 25 = .ok (.iconst (-1), 1) := by decide +kernel
theorem dXI_putInAnewBehind_26 : decode cXI_putInAnewBehind 26 = .ok (.if_icmp .ne 4, 3) := by decide +kernel
theorem dXI_putInAnewBehind_29 : decode cXI_putInAnewBehind 29 = .ok (.return_, 1) := by decide +kernel
theorem dXI_putInAnewBehind_30 : decode cXI_putInAnewBehind 30 = .ok (.aload_n 0, 1) := by decide +kernel
theorem dXI_putInAnewBehind_31 : decode cXI_putInAnewBehind 31 = .ok (.getfield 15, 3) := by decide +kernel
theorem dXI_putInAnewBehind_34 : decode cXI_putInAnewBehind 34 = .ok (.iload_n 3, 1) := by decide +kernel
theorem dXI_putInAnewBehind_35 : decode cXI_putInAnewBehind 35 = .ok (.iconst (-1), 1) := by decide +kernel
theorem dXI_putInAnewBehind_36 : decode cXI_putInAnewBehind 36 = .ok (.iastore, 1) := by decide +kernel
theorem dXI_putInAnewBehind_37 : decode cXI_putInAnewBehind 37 = .ok (.aload_n 0, 1) := by decide +kernel
theorem dXI_putInAnewBehind_38 : decode cXI_putInAnewBehind 38 = .ok (.iload 4, 2) := by decide +kernel
theorem dXI_putInAnewBehind_40 : decode cXI_putInAnewBehind 40 = .ok (.invokevirtual 62, 3) := by decide +kernel
theorem dXI_putInAnewBehind_43 : decode cXI_putInAnewBehind 43 = .ok (.iinc 2 1, 3) := by decide +kernel
theorem dXI_putInAnewBehind_46 : decode cXI_putInAnewBehind 46 = .ok (.goto (-44), 3) := by decide +kernel
theorem dXI_putInAnewBehind_49 : decode cXI_putInAnewBehind 49 = .ok (.return_, 1) := by decide +kernel
abbrev cXI_takeOut : ByteArray := prog_4_method_9_code
abbrev yXI_takeOut : MethodName := ⟨RXI, "takeOut", "(I)Z"⟩
abbrev wsXI_takeOut : List Cond := .code yXI_takeOut cXI_takeOut 3 (some .boolean) :: sbT
theorem dXI_takeOut_0 : decode cXI_takeOut 0 = .ok (.aload_n 0, 1) := by decide +kernel
theorem dXI_takeOut_1 : decode cXI_takeOut 1 = .ok (.getfield 19, 3) := by decide +kernel
theorem dXI_takeOut_4 : decode cXI_takeOut 4 = .ok (.iload_n 1, 1) := by decide +kernel
theorem dXI_takeOut_5 : decode cXI_takeOut 5 = .ok (.iaload, 1) := by decide +kernel
theorem dXI_takeOut_6 : decode cXI_takeOut 6 = .ok (.istore_n 2, 1) := by decide +kernel
theorem dXI_takeOut_7 : decode cXI_takeOut 7 = .ok (.iload_n 2, 1) := by decide +kernel
theorem dXI_takeOut_8 : decode cXI_takeOut 8 = .ok (.iconst (-1), 1) := by decide +kernel
theorem dXI_takeOut_9 : decode cXI_takeOut 9 = .ok (.if_icmp .ne 5, 3) := by decide +kernel
theorem dXI_takeOut_12 : decode cXI_takeOut 12 = .ok (.iconst 0, 1) := by decide +kernel
theorem dXI_takeOut_13 : decode cXI_takeOut 13 = .ok (.ireturn, 1) := by decide +kernel
theorem dXI_takeOut_14 : decode cXI_takeOut 14 = .ok (.aload_n 0, 1) := by decide +kernel
theorem dXI_takeOut_15 : decode cXI_takeOut 15 = .ok (.getfield 15, 3) := by decide +kernel
theorem dXI_takeOut_18 : decode cXI_takeOut 18 = .ok (.iload_n 2, 1) := by decide +kernel
theorem dXI_takeOut_19 : decode cXI_takeOut 19 = .ok (.iconst (-1), 1) := by decide +kernel
theorem dXI_takeOut_20 : decode cXI_takeOut 20 = .ok (.iastore, 1) := by decide +kernel
theorem dXI_takeOut_21 : decode cXI_takeOut 21 = .ok (.aload_n 0, 1) := by decide +kernel
theorem dXI_takeOut_22 : decode cXI_takeOut 22 = .ok (.getfield 19, 3) := by decide +kernel
theorem dXI_takeOut_25 : decode cXI_takeOut 25 = .ok (.iload_n 1, 1) := by decide +kernel
theorem dXI_takeOut_26 : decode cXI_takeOut 26 = .ok (.iconst (-1), 1) := by decide +kernel
theorem dXI_takeOut_27 : decode cXI_takeOut 27 = .ok (.iastore, 1) := by decide +kernel
theorem dXI_takeOut_28 : decode cXI_takeOut 28 = .ok (.aload_n 0, 1) := by decide +kernel
theorem dXI_takeOut_29 : decode cXI_takeOut 29 = .ok (.iload_n 2, 1) := by decide +kernel
theorem dXI_takeOut_30 : decode cXI_takeOut 30 = .ok (.invokevirtual 66, 3) := by decide +kernel
theorem dXI_takeOut_33 : decode cXI_takeOut 33 = .ok (.iconst 1, 1) := by decide +kernel
theorem dXI_takeOut_34 : decode cXI_takeOut 34 = .ok (.ireturn, 1) := by decide +kernel
theorem wd_158 : Cond.methodLink RXR 25 yXR_shorten ∈ sbT := sb_in 158 (by decide +kernel) rfl
theorem wd_159 : Cond.instanceMethod yXR_shorten ∈ sbT := sb_in 159 (by decide +kernel) rfl
theorem wd_160 : Cond.selects RXR yXR_shorten yXR_shorten ∈ sbT := sb_in 160 (by decide +kernel) rfl
theorem wd_161 : Cond.code yXR_shorten cXR_shorten 4 none ∈ sbT := sb_in 161 (by decide +kernel) rfl
theorem wd_166 : Cond.methodLink RXR 29 yXR_length ∈ sbT := sb_in 166 (by decide +kernel) rfl
theorem wd_167 : Cond.instanceMethod yXR_length ∈ sbT := sb_in 167 (by decide +kernel) rfl
theorem wd_168 : Cond.selects RXR yXR_length yXR_length ∈ sbT := sb_in 168 (by decide +kernel) rfl
theorem wd_169 : Cond.code yXR_length cXR_length 2 (some .int) ∈ sbT := sb_in 169 (by decide +kernel) rfl
theorem wd_170 : Cond.methodLink RXR 33 yXR_add ∈ sbT := sb_in 170 (by decide +kernel) rfl
theorem wd_171 : Cond.instanceMethod yXR_add ∈ sbT := sb_in 171 (by decide +kernel) rfl
theorem wd_172 : Cond.selects RXR yXR_add yXR_add ∈ sbT := sb_in 172 (by decide +kernel) rfl
theorem wd_173 : Cond.code yXR_add cXR_add 3 none ∈ sbT := sb_in 173 (by decide +kernel) rfl
theorem wd_47 : Cond.fieldLink RXI 15 RXI "blockIn" "[I" ∈ sbT := sb_in 47 (by decide +kernel) rfl
theorem wd_43 : Cond.methodLink RXI 22 yXA_fill ∈ sbT := sb_in 43 (by decide +kernel) rfl
theorem wd_44 : Cond.static yXA_fill ∈ sbT := sb_in 44 (by decide +kernel) rfl
theorem wd_4 : Cond.initialized RXA ∈ sbT := sb_in 4 (by decide +kernel) rfl
theorem wd_45 : Cond.code yXA_fill cXA_fill 4 none ∈ sbT := sb_in 45 (by decide +kernel) rfl
theorem wd_48 : Cond.fieldLink RXI 19 RXI "cellOf" "[I" ∈ sbT := sb_in 48 (by decide +kernel) rfl
theorem wd_49 : Cond.fieldLink RXI 28 RXI "gate" "J" ∈ sbT := sb_in 49 (by decide +kernel) rfl
theorem wd_490 : Cond.methodLink RXI 32 yXG_bitCount ∈ sbT := sb_in 490 (by decide +kernel) rfl
theorem wd_491 : Cond.static yXG_bitCount ∈ sbT := sb_in 491 (by decide +kernel) rfl
theorem wd_16 : Cond.initialized RXG ∈ sbT := sb_in 16 (by decide +kernel) rfl
theorem wd_492 : Cond.code yXG_bitCount cXG_bitCount 2 (some .int) ∈ sbT := sb_in 492 (by decide +kernel) rfl
theorem wd_50 : Cond.fieldLink RXI 38 RXI "probed" "I" ∈ sbT := sb_in 50 (by decide +kernel) rfl
theorem wd_359 : Cond.methodLink RXI 42 yXC_bitsOfGate ∈ sbT := sb_in 359 (by decide +kernel) rfl
theorem wd_364 : Cond.methodLink RXI 48 yXC_fingerprint ∈ sbT := sb_in 364 (by decide +kernel) rfl
theorem wd_46 : Cond.fieldLink RXI 9 RXI "disk" "LSharedBlockStore$Disk;" ∈ sbT := sb_in 46 (by decide +kernel) rfl
theorem wd_365 : Cond.methodLink RXI 52 yXD_holds ∈ sbT := sb_in 365 (by decide +kernel) rfl
theorem wd_366 : Cond.instanceMethod yXD_holds ∈ sbT := sb_in 366 (by decide +kernel) rfl
theorem wd_367 : Cond.selects RXD yXD_holds yXD_holds ∈ sbT := sb_in 367 (by decide +kernel) rfl
theorem wd_368 : Cond.code yXD_holds cXD_holds 4 (some .boolean) ∈ sbT := sb_in 368 (by decide +kernel) rfl
theorem wd_208 : Cond.methodLink RXI 69 yXD_homeOf ∈ sbT := sb_in 208 (by decide +kernel) rfl
theorem wd_209 : Cond.instanceMethod yXD_homeOf ∈ sbT := sb_in 209 (by decide +kernel) rfl
theorem wd_210 : Cond.selects RXD yXD_homeOf yXD_homeOf ∈ sbT := sb_in 210 (by decide +kernel) rfl
theorem wd_211 : Cond.code yXD_homeOf cXD_homeOf 2 (some .int) ∈ sbT := sb_in 211 (by decide +kernel) rfl
theorem wd_194 : Cond.methodLink RXI 58 yXD_bitsOf ∈ sbT := sb_in 194 (by decide +kernel) rfl
theorem wd_195 : Cond.instanceMethod yXD_bitsOf ∈ sbT := sb_in 195 (by decide +kernel) rfl
theorem wd_196 : Cond.selects RXD yXD_bitsOf yXD_bitsOf ∈ sbT := sb_in 196 (by decide +kernel) rfl
theorem wd_197 : Cond.code yXD_bitsOf cXD_bitsOf 2 (some .long) ∈ sbT := sb_in 197 (by decide +kernel) rfl
theorem wd_204 : Cond.methodLink RXI 62 yXI_putIn ∈ sbT := sb_in 204 (by decide +kernel) rfl
theorem wd_206 : Cond.instanceMethod yXI_putIn ∈ sbT := sb_in 206 (by decide +kernel) rfl
theorem ws_XI_putIn : Cond.selects RXI yXI_putIn yXI_putIn ∈ sbT := sb_sel (q := (yXI_putIn, 5)) 2 (by decide +kernel)
theorem wd_3 : Cond.initialized RXI ∈ sbT := sb_in 3 (by decide +kernel) rfl
theorem wd_207 : Cond.code yXI_putIn cXI_putIn 5 none ∈ sbT := sb_in 207 (by decide +kernel) rfl
theorem wd_406 : Cond.methodLink RXI 66 yXI_putInAnewBehind ∈ sbT := sb_in 406 (by decide +kernel) rfl
theorem wd_408 : Cond.instanceMethod yXI_putInAnewBehind ∈ sbT := sb_in 408 (by decide +kernel) rfl
theorem ws_XI_putInAnewBehind : Cond.selects RXI yXI_putInAnewBehind yXI_putInAnewBehind ∈ sbT := sb_sel (q := (yXI_putInAnewBehind, 5)) 8 (by decide +kernel)
theorem wd_409 : Cond.code yXI_putInAnewBehind cXI_putInAnewBehind 5 none ∈ sbT := sb_in 409 (by decide +kernel) rfl
set_option maxRecDepth 100000 in
set_option maxHeartbeats 4000000 in
theorem c_XR_replaceRow (l : Launch) (D : va_G) (ta : ClassId × ClassId × ClassId) (h0 : Nat) (h1 : Nat) (h2 : Nat) (h3 : Nat) (len : Nat → Nat) (ent : Nat → Nat) (cnt : Nat → Int32) (g0 : Nat) (g1 : Nat) (g2 : Nat) (g3 : Nat) (len2 : Nat → Nat) (ent2 : Nat → Nat) (cnt2 : Nat → Int32) (k : Nat) (sr : Nat) (hk : k < 6) (hs : sr < 6) (hl : len k ≤ 12) (he : ∀ b, b < len k → ent (k * 12 + b) < 40) (hl2 : len2 sr ≤ 12) (he2 : ∀ b, b < len2 sr → ent2 (sr * 12 + b) < 40) : sm (S := Unit) l yXR_replaceRow wsXR_replaceRow ({ frames := 2, cells := 0, slots := 0, locals := 45 }) D ta [.ref h0, .int (nI k), .ref g0, .int (nI sr)] [(h0, .inr (3, [.ref h1, .ref h2, .ref h3])), (h1, .inl (ta.1, 6, .inl (fun jx => nI (len jx)))), (h2, .inl (ta.1, 72, .inl (fun jx => nI (ent jx)))), (h3, .inl (ta.1, 40, .inl (cnt))), (g0, .inr (3, [.ref g1, .ref g2, .ref g3])), (g1, .inl (ta.1, 6, .inl (fun jx => nI (len2 jx)))), (g2, .inl (ta.1, 72, .inl (fun jx => nI (ent2 jx)))), (g3, .inl (ta.1, 40, .inl (cnt2)))] (fun _ => True) (fun _ => none) (fun _ => [(h0, .inr (3, [.ref h1, .ref h2, .ref h3])), (h1, .inl (ta.1, 6, .inl (fun jx => nI ((va_up len k (len2 sr)) jx)))), (h2, .inl (ta.1, 72, .inl (fun jx => nI ((rw_cp ent ent2 k sr (len2 sr)) jx)))), (h3, .inl (ta.1, 40, .inl ((rw_inc (rw_dec cnt ent k 0 (len k - 0)) ent2 sr (len2 sr))))), (g0, .inr (3, [.ref g1, .ref g2, .ref g3])), (g1, .inl (ta.1, 6, .inl (fun jx => nI (len2 jx)))), (g2, .inl (ta.1, 72, .inl (fun jx => nI (ent2 jx)))), (g3, .inl (ta.1, 40, .inl (cnt2)))]) := by
  refine sm_ofW (y := yXR_replaceRow) (cc := cXR_replaceRow) (nL := 6) (ret := none) (by decide) (Nat.le_of_ble_eq_true rfl) (fun p e s m below meth c G hr hlk hnm => ?_)
  refine sw_eq (ws' := [(h0, .inr (3, [.ref h1, .ref h2, .ref h3])), (h1, .inl (ta.1, 6, .inl (fun jx => nI (len jx)))), (h2, .inl (ta.1, 72, .inl (fun jx => nI (ent jx)))), (h3, .inl (ta.1, 40, .inl (cnt))), (g0, .inr (3, [.ref g1, .ref g2, .ref g3])), (g1, .inl (ta.1, 6, .inl (fun jx => nI (len2 jx)))), (g2, .inl (ta.1, 72, .inl (fun jx => nI (ent2 jx)))), (g3, .inl (ta.1, 40, .inl (cnt2)))]) (lv2 := [(0, .ref h0), (1, .int (nI k)), (2, .ref g0), (3, .int (nI sr))]) (pc2 := 0) (st2 := []) rfl ?_
  refine sw_aload_n G dXR_replaceRow_0 rfl 0 rfl ?_
  refine sw_iload_n G dXR_replaceRow_1 rfl 1 rfl ?_
  refine sw_iconst (v := nI 0) G dXR_replaceRow_2 (by decide) ?_
  refine sw_callV (As := [.int (nI k), .int (nI 0)]) (rest := []) G (c_XR_shorten l D ta h0 h1 h2 h3 len ent cnt k 0 (by omega) (Nat.zero_le _) (by omega) (fun b _ h => he b h)) (cwV 2 G.2.2.2.2.1 (sb_goodV wd_158 wd_159 wd_160 wd_5 wd_161) rfl rfl rfl (by decide +kernel) ⟨Nat.le_of_ble_eq_true rfl, Nat.le_of_ble_eq_true rfl⟩) 0 3 rfl rfl rfl rfl (Nat.le_of_ble_eq_true rfl) dXR_replaceRow_3 ⟨Nat.le_of_ble_eq_true rfl, Nat.le_of_ble_eq_true rfl⟩ [0, 1, 2, 3] [4, 5, 6, 7] rfl (wr := [(g0, .inr (3, [.ref g1, .ref g2, .ref g3])), (g1, .inl (ta.1, 6, .inl (fun jx => nI (len2 jx)))), (g2, .inl (ta.1, 72, .inl (fun jx => nI (ent2 jx)))), (g3, .inl (ta.1, 40, .inl (cnt2)))]) rfl (by decide) (by decide) (by decide) (fun _ _ => ?_)
  refine sw_eq (ws' := [(g0, .inr (3, [.ref g1, .ref g2, .ref g3])), (g1, .inl (ta.1, 6, .inl (fun jx => nI (len2 jx)))), (g2, .inl (ta.1, 72, .inl (fun jx => nI (ent2 jx)))), (g3, .inl (ta.1, 40, .inl (cnt2))), (h0, .inr (3, [.ref h1, .ref h2, .ref h3])), (h1, .inl (ta.1, 6, .inl (fun jx => nI ((va_up len k 0) jx)))), (h2, .inl (ta.1, 72, .inl (fun jx => nI (ent jx)))), (h3, .inl (ta.1, 40, .inl ((rw_dec cnt ent k 0 (len k - 0)))))]) (lv2 := [(0, .ref h0), (1, .int (nI k)), (2, .ref g0), (3, .int (nI sr))]) (pc2 := 6) (st2 := []) rfl ?_
  refine sw_sub [4, 5, 6, 7, 0, 1, 2, 3] (by decide) (ws' := [(h0, .inr (3, [.ref h1, .ref h2, .ref h3])), (h1, .inl (ta.1, 6, .inl (fun jx => nI ((va_up len k 0) jx)))), (h2, .inl (ta.1, 72, .inl (fun jx => nI (ent jx)))), (h3, .inl (ta.1, 40, .inl ((rw_dec cnt ent k 0 (len k - 0))))), (g0, .inr (3, [.ref g1, .ref g2, .ref g3])), (g1, .inl (ta.1, 6, .inl (fun jx => nI (len2 jx)))), (g2, .inl (ta.1, 72, .inl (fun jx => nI (ent2 jx)))), (g3, .inl (ta.1, 40, .inl (cnt2)))]) rfl rfl ?_
  refine sw_aload_n G dXR_replaceRow_6 rfl 2 rfl ?_
  refine sw_iload_n G dXR_replaceRow_7 rfl 3 rfl ?_
  refine sw_readV (As := [.int (nI sr)]) (rest := []) G (c_XR_length l D ta g0 g1 g2 g3 len2 ent2 cnt2 sr (by omega)) (cwV 1 G.2.2.2.2.1 (sb_goodV wd_166 wd_167 wd_168 wd_5 wd_169) rfl rfl rfl (by decide +kernel) ⟨Nat.le_of_ble_eq_true rfl, Nat.le_of_ble_eq_true rfl⟩) 4 3 rfl rfl rfl rfl (Nat.le_of_ble_eq_true rfl) dXR_replaceRow_8 ⟨Nat.le_of_ble_eq_true rfl, Nat.le_of_ble_eq_true rfl⟩ [4, 5, 6, 7] rfl (by decide) ?_
  refine sw_eq (ws' := [(h0, .inr (3, [.ref h1, .ref h2, .ref h3])), (h1, .inl (ta.1, 6, .inl (fun jx => nI ((va_up len k 0) jx)))), (h2, .inl (ta.1, 72, .inl (fun jx => nI (ent jx)))), (h3, .inl (ta.1, 40, .inl ((rw_dec cnt ent k 0 (len k - 0))))), (g0, .inr (3, [.ref g1, .ref g2, .ref g3])), (g1, .inl (ta.1, 6, .inl (fun jx => nI (len2 jx)))), (g2, .inl (ta.1, 72, .inl (fun jx => nI (ent2 jx)))), (g3, .inl (ta.1, 40, .inl (cnt2)))]) (lv2 := [(0, .ref h0), (1, .int (nI k)), (2, .ref g0), (3, .int (nI sr))]) (pc2 := 11) (st2 := [.int (nI (len2 sr))]) rfl ?_
  refine sw_istore G dXR_replaceRow_11 (by decide) (lv' := [(4, .int (nI (len2 sr))), (0, .ref h0), (1, .int (nI k)), (2, .ref g0), (3, .int (nI sr))]) rfl ?_
  refine sw_iconst (v := nI 0) G dXR_replaceRow_13 (by decide) ?_
  refine sw_istore G dXR_replaceRow_14 (by decide) (lv' := [(5, .int (nI 0)), (4, .int (nI (len2 sr))), (0, .ref h0), (1, .int (nI k)), (2, .ref g0), (3, .int (nI sr))]) rfl ?_
  refine sw_lv [2, 3, 4, 5, 1, 0] (lv' := [(0, .ref h0), (1, .int (nI k)), (2, .ref g0), (3, .int (nI sr)), (4, .int (nI (len2 sr))), (5, .int (nI 0))]) rfl ?_
  have L16 : ∀ (NN : Nat) (j : Nat), len2 sr - j < NN → (j ≤ len2 sr) → sw p l e ({ frames := 2, cells := 0, slots := 0, locals := 45 }) s m ([.ref h0, .int (nI k), .ref g0, .int (nI sr)]).toArray below meth c 6 D (va_A [(h0, .inr (3, [.ref h1, .ref h2, .ref h3])), (h1, .inl (ta.1, 6, .inl (fun jx => nI (len jx)))), (h2, .inl (ta.1, 72, .inl (fun jx => nI (ent jx)))), (h3, .inl (ta.1, 40, .inl (cnt))), (g0, .inr (3, [.ref g1, .ref g2, .ref g3])), (g1, .inl (ta.1, 6, .inl (fun jx => nI (len2 jx)))), (g2, .inl (ta.1, 72, .inl (fun jx => nI (ent2 jx)))), (g3, .inl (ta.1, 40, .inl (cnt2)))] s.heap.size) (MQ below (sb_Q D ta [(h0, .inr (3, [.ref h1, .ref h2, .ref h3])), (h1, .inl (ta.1, 6, .inl (fun jx => nI (len jx)))), (h2, .inl (ta.1, 72, .inl (fun jx => nI (ent jx)))), (h3, .inl (ta.1, 40, .inl (cnt))), (g0, .inr (3, [.ref g1, .ref g2, .ref g3])), (g1, .inl (ta.1, 6, .inl (fun jx => nI (len2 jx)))), (g2, .inl (ta.1, 72, .inl (fun jx => nI (ent2 jx)))), (g3, .inl (ta.1, 40, .inl (cnt2)))] s.heap.size (fun _ : Unit => True) (fun _ => none) (fun _ => [(h0, .inr (3, [.ref h1, .ref h2, .ref h3])), (h1, .inl (ta.1, 6, .inl (fun jx => nI ((va_up len k (len2 sr)) jx)))), (h2, .inl (ta.1, 72, .inl (fun jx => nI ((rw_cp ent ent2 k sr (len2 sr)) jx)))), (h3, .inl (ta.1, 40, .inl ((rw_inc (rw_dec cnt ent k 0 (len k - 0)) ent2 sr (len2 sr))))), (g0, .inr (3, [.ref g1, .ref g2, .ref g3])), (g1, .inl (ta.1, 6, .inl (fun jx => nI (len2 jx)))), (g2, .inl (ta.1, 72, .inl (fun jx => nI (ent2 jx)))), (g3, .inl (ta.1, 40, .inl (cnt2)))])) ([.ref h0, .int (nI k), .ref g0, .int (nI sr)]).toArray s 0 0 (va_A [(h0, .inr (3, [.ref h1, .ref h2, .ref h3])), (h1, .inl (ta.1, 6, .inl (fun jx => nI (len jx)))), (h2, .inl (ta.1, 72, .inl (fun jx => nI (ent jx)))), (h3, .inl (ta.1, 40, .inl (cnt))), (g0, .inr (3, [.ref g1, .ref g2, .ref g3])), (g1, .inl (ta.1, 6, .inl (fun jx => nI (len2 jx)))), (g2, .inl (ta.1, 72, .inl (fun jx => nI (ent2 jx)))), (g3, .inl (ta.1, 40, .inl (cnt2)))] s.heap.size)) false 0 0 [(h0, .inr (3, [.ref h1, .ref h2, .ref h3])), (h1, .inl (ta.1, 6, .inl (fun jx => nI ((va_up len k j) jx)))), (h2, .inl (ta.1, 72, .inl (fun jx => nI ((rw_cp ent ent2 k sr j) jx)))), (h3, .inl (ta.1, 40, .inl ((rw_inc (rw_dec cnt ent k 0 (len k - 0)) ent2 sr j)))), (g0, .inr (3, [.ref g1, .ref g2, .ref g3])), (g1, .inl (ta.1, 6, .inl (fun jx => nI (len2 jx)))), (g2, .inl (ta.1, 72, .inl (fun jx => nI (ent2 jx)))), (g3, .inl (ta.1, 40, .inl (cnt2)))] [(0, .ref h0), (1, .int (nI k)), (2, .ref g0), (3, .int (nI sr)), (4, .int (nI (len2 sr))), (5, .int (nI j))] 16 [] := by
    intro NN
    induction NN with
    | zero => intro j hNN; exact absurd hNN (Nat.not_lt_zero _)
    | succ NN ih16 =>
      intro j hNN hj
      refine sw_iload G dXR_replaceRow_16 5 rfl ?_
      refine sw_iload G dXR_replaceRow_18 4 rfl ?_
      refine sw_icmpN_ge (a := j) (b := len2 sr) (tgt := 41) G dXR_replaceRow_20 (by decide) (by omega) (by omega) (fun h20 => ?_) (fun h20 => ?_)
      · refine sw_sub [0, 1, 2, 3, 4, 5, 6, 7] (by decide) (ws' := [(h0, .inr (3, [.ref h1, .ref h2, .ref h3])), (h1, .inl (ta.1, 6, .inl (fun jx => nI ((va_up len k j) jx)))), (h2, .inl (ta.1, 72, .inl (fun jx => nI ((rw_cp ent ent2 k sr j) jx)))), (h3, .inl (ta.1, 40, .inl ((rw_inc (rw_dec cnt ent k 0 (len k - 0)) ent2 sr j)))), (g0, .inr (3, [.ref g1, .ref g2, .ref g3])), (g1, .inl (ta.1, 6, .inl (fun jx => nI (len2 jx)))), (g2, .inl (ta.1, 72, .inl (fun jx => nI (ent2 jx)))), (g3, .inl (ta.1, 40, .inl (cnt2)))]) rfl rfl ?_
        refine sw_eq (ws' := [(h0, .inr (3, [.ref h1, .ref h2, .ref h3])), (h1, .inl (ta.1, 6, .inl (fun jx => nI ((va_up len k (len2 sr)) jx)))), (h2, .inl (ta.1, 72, .inl (fun jx => nI ((rw_cp ent ent2 k sr (len2 sr)) jx)))), (h3, .inl (ta.1, 40, .inl ((rw_inc (rw_dec cnt ent k 0 (len k - 0)) ent2 sr (len2 sr))))), (g0, .inr (3, [.ref g1, .ref g2, .ref g3])), (g1, .inl (ta.1, 6, .inl (fun jx => nI (len2 jx)))), (g2, .inl (ta.1, 72, .inl (fun jx => nI (ent2 jx)))), (g3, .inl (ta.1, 40, .inl (cnt2)))]) (lv2 := [(0, .ref h0), (1, .int (nI k)), (2, .ref g0), (3, .int (nI sr)), (4, .int (nI (len2 sr))), (5, .int (nI j))]) (pc2 := 41) (st2 := []) (by rw [show j = len2 sr by omega]) ?_
        exact sw_vret G hr hlk () trivial (rfl) [0, 1, 2, 3, 4, 5, 6, 7] (by decide) rfl rfl dXR_replaceRow_41
      · refine sw_aload_n G dXR_replaceRow_23 rfl 0 rfl ?_
        refine sw_iload_n G dXR_replaceRow_24 rfl 1 rfl ?_
        refine sw_aload_n G dXR_replaceRow_25 rfl 2 rfl ?_
        refine sw_iload_n G dXR_replaceRow_26 rfl 3 rfl ?_
        refine sw_iload G dXR_replaceRow_27 5 rfl ?_
        refine sw_readV (As := [.int (nI sr), .int (nI j)]) (rest := [.int (nI k), .ref h0]) G (c_XR_entry l D ta g0 g1 g2 g3 len2 ent2 cnt2 sr j (by omega) (by omega)) (cwV 2 G.2.2.2.2.1 (sb_goodV wd_162 wd_163 wd_164 wd_5 wd_165) rfl rfl rfl (by decide +kernel) ⟨Nat.le_of_ble_eq_true rfl, Nat.le_of_ble_eq_true rfl⟩) 4 3 rfl rfl rfl rfl (Nat.le_of_ble_eq_true rfl) dXR_replaceRow_29 ⟨Nat.le_of_ble_eq_true rfl, Nat.le_of_ble_eq_true rfl⟩ [4, 5, 6, 7] rfl (by decide) ?_
        refine sw_eq (ws' := [(h0, .inr (3, [.ref h1, .ref h2, .ref h3])), (h1, .inl (ta.1, 6, .inl (fun jx => nI ((va_up len k j) jx)))), (h2, .inl (ta.1, 72, .inl (fun jx => nI ((rw_cp ent ent2 k sr j) jx)))), (h3, .inl (ta.1, 40, .inl ((rw_inc (rw_dec cnt ent k 0 (len k - 0)) ent2 sr j)))), (g0, .inr (3, [.ref g1, .ref g2, .ref g3])), (g1, .inl (ta.1, 6, .inl (fun jx => nI (len2 jx)))), (g2, .inl (ta.1, 72, .inl (fun jx => nI (ent2 jx)))), (g3, .inl (ta.1, 40, .inl (cnt2)))]) (lv2 := [(0, .ref h0), (1, .int (nI k)), (2, .ref g0), (3, .int (nI sr)), (4, .int (nI (len2 sr))), (5, .int (nI j))]) (pc2 := 32) (st2 := [.int (nI (ent2 (sr * 12 + j))), .int (nI k), .ref h0]) rfl ?_
        refine sw_callV (As := [.int (nI k), .int (nI (ent2 (sr * 12 + j)))]) (rest := []) G (c_XR_add l D ta h0 h1 h2 h3 (va_up len k j) (rw_cp ent ent2 k sr j) (rw_inc (rw_dec cnt ent k 0 (len k - 0)) ent2 sr j) k (ent2 (sr * 12 + j)) (by omega) (by rw [va_up_self]; omega) (he2 j h20)) (cwV 2 G.2.2.2.2.1 (sb_goodV wd_170 wd_171 wd_172 wd_5 wd_173) rfl rfl rfl (by decide +kernel) ⟨Nat.le_of_ble_eq_true rfl, Nat.le_of_ble_eq_true rfl⟩) 0 3 rfl rfl rfl rfl (Nat.le_of_ble_eq_true rfl) dXR_replaceRow_32 ⟨Nat.le_of_ble_eq_true rfl, Nat.le_of_ble_eq_true rfl⟩ [0, 1, 2, 3] [4, 5, 6, 7] rfl (wr := [(g0, .inr (3, [.ref g1, .ref g2, .ref g3])), (g1, .inl (ta.1, 6, .inl (fun jx => nI (len2 jx)))), (g2, .inl (ta.1, 72, .inl (fun jx => nI (ent2 jx)))), (g3, .inl (ta.1, 40, .inl (cnt2)))]) rfl (by decide) (by decide) (by decide) (fun _ _ => ?_)
        refine sw_eq (ws' := [(g0, .inr (3, [.ref g1, .ref g2, .ref g3])), (g1, .inl (ta.1, 6, .inl (fun jx => nI (len2 jx)))), (g2, .inl (ta.1, 72, .inl (fun jx => nI (ent2 jx)))), (g3, .inl (ta.1, 40, .inl (cnt2))), (h0, .inr (3, [.ref h1, .ref h2, .ref h3])), (h1, .inl (ta.1, 6, .inl (fun jx => nI ((va_up (va_up len k j) k (((va_up len k j) k) + 1)) jx)))), (h2, .inl (ta.1, 72, .inl (fun jx => nI ((va_up (rw_cp ent ent2 k sr j) ((k * 12) + ((va_up len k j) k)) (ent2 (sr * 12 + j))) jx)))), (h3, .inl (ta.1, 40, .inl ((upd (rw_inc (rw_dec cnt ent k 0 (len k - 0)) ent2 sr j) (ent2 (sr * 12 + j)) (((rw_inc (rw_dec cnt ent k 0 (len k - 0)) ent2 sr j) (ent2 (sr * 12 + j))) + (nI 1))))))]) (lv2 := [(0, .ref h0), (1, .int (nI k)), (2, .ref g0), (3, .int (nI sr)), (4, .int (nI (len2 sr))), (5, .int (nI j))]) (pc2 := 35) (st2 := []) rfl ?_
        refine sw_sub [4, 5, 6, 7, 0, 1, 2, 3] (by decide) (ws' := [(h0, .inr (3, [.ref h1, .ref h2, .ref h3])), (h1, .inl (ta.1, 6, .inl (fun jx => nI ((va_up (va_up len k j) k (((va_up len k j) k) + 1)) jx)))), (h2, .inl (ta.1, 72, .inl (fun jx => nI ((va_up (rw_cp ent ent2 k sr j) ((k * 12) + ((va_up len k j) k)) (ent2 (sr * 12 + j))) jx)))), (h3, .inl (ta.1, 40, .inl ((upd (rw_inc (rw_dec cnt ent k 0 (len k - 0)) ent2 sr j) (ent2 (sr * 12 + j)) (((rw_inc (rw_dec cnt ent k 0 (len k - 0)) ent2 sr j) (ent2 (sr * 12 + j))) + (nI 1)))))), (g0, .inr (3, [.ref g1, .ref g2, .ref g3])), (g1, .inl (ta.1, 6, .inl (fun jx => nI (len2 jx)))), (g2, .inl (ta.1, 72, .inl (fun jx => nI (ent2 jx)))), (g3, .inl (ta.1, 40, .inl (cnt2)))]) rfl rfl ?_
        refine sw_iinc (x := nI j) (v := nI (j + 1)) G dXR_replaceRow_35 (q := 5) rfl (sp_inc _) (by decide) (lv' := [(5, .int (nI (j + 1))), (0, .ref h0), (1, .int (nI k)), (2, .ref g0), (3, .int (nI sr)), (4, .int (nI (len2 sr)))]) rfl ?_
        refine sw_goto (tgt := 16) G dXR_replaceRow_38 (by decide) ?_
        refine sw_lv [1, 2, 3, 4, 5, 0] (lv' := [(0, .ref h0), (1, .int (nI k)), (2, .ref g0), (3, .int (nI sr)), (4, .int (nI (len2 sr))), (5, .int (nI (j + 1)))]) rfl ?_
        refine sw_eq (ws' := [(h0, .inr (3, [.ref h1, .ref h2, .ref h3])), (h1, .inl (ta.1, 6, .inl (fun jx => nI ((va_up len k (j + 1)) jx)))), (h2, .inl (ta.1, 72, .inl (fun jx => nI ((rw_cp ent ent2 k sr (j + 1)) jx)))), (h3, .inl (ta.1, 40, .inl ((rw_inc (rw_dec cnt ent k 0 (len k - 0)) ent2 sr (j + 1))))), (g0, .inr (3, [.ref g1, .ref g2, .ref g3])), (g1, .inl (ta.1, 6, .inl (fun jx => nI (len2 jx)))), (g2, .inl (ta.1, 72, .inl (fun jx => nI (ent2 jx)))), (g3, .inl (ta.1, 40, .inl (cnt2)))]) (lv2 := [(0, .ref h0), (1, .int (nI k)), (2, .ref g0), (3, .int (nI sr)), (4, .int (nI (len2 sr))), (5, .int (nI (j + 1)))]) (pc2 := 16) (st2 := []) (by rw [va_up_self, bx_uu] <;> rfl) ?_
        exact ih16 (j + 1) (by omega) (by omega)
  exact L16 _ 0 (Nat.lt_succ_self _) (Nat.zero_le _)

set_option maxRecDepth 100000 in
set_option maxHeartbeats 4000000 in
theorem c_XR_replaceOwn (l : Launch) (D : va_G) (ta : ClassId × ClassId × ClassId) (h0 : Nat) (h1 : Nat) (h2 : Nat) (h3 : Nat) (len : Nat → Nat) (ent : Nat → Nat) (cnt : Nat → Int32) (k : Nat) (sr : Nat) (hk : k < 6) (hs : sr < 6) (hks : sr ≠ k) (hl : len k ≤ 12) (he : ∀ b, b < len k → ent (k * 12 + b) < 40) (hl2 : len sr ≤ 12) (he2 : ∀ b, b < len sr → ent (sr * 12 + b) < 40) : sm (S := Unit) l yXR_replaceRow wsXR_replaceRow ({ frames := 2, cells := 0, slots := 0, locals := 45 }) D ta [.ref h0, .int (nI k), .ref h0, .int (nI sr)] [(h0, .inr (3, [.ref h1, .ref h2, .ref h3])), (h1, .inl (ta.1, 6, .inl (fun jx => nI (len jx)))), (h2, .inl (ta.1, 72, .inl (fun jx => nI (ent jx)))), (h3, .inl (ta.1, 40, .inl (cnt)))] (fun _ => True) (fun _ => none) (fun _ => [(h0, .inr (3, [.ref h1, .ref h2, .ref h3])), (h1, .inl (ta.1, 6, .inl (fun jx => nI ((va_up len k (len sr)) jx)))), (h2, .inl (ta.1, 72, .inl (fun jx => nI ((rw_cp ent ent k sr (len sr)) jx)))), (h3, .inl (ta.1, 40, .inl ((rw_inc (rw_dec cnt ent k 0 (len k - 0)) ent sr (len sr)))))]) := by
  refine sm_ofW (y := yXR_replaceRow) (cc := cXR_replaceRow) (nL := 6) (ret := none) (by decide) (Nat.le_of_ble_eq_true rfl) (fun p e s m below meth c G hr hlk hnm => ?_)
  refine sw_eq (ws' := [(h0, .inr (3, [.ref h1, .ref h2, .ref h3])), (h1, .inl (ta.1, 6, .inl (fun jx => nI (len jx)))), (h2, .inl (ta.1, 72, .inl (fun jx => nI (ent jx)))), (h3, .inl (ta.1, 40, .inl (cnt)))]) (lv2 := [(0, .ref h0), (1, .int (nI k)), (2, .ref h0), (3, .int (nI sr))]) (pc2 := 0) (st2 := []) rfl ?_
  refine sw_aload_n G dXR_replaceRow_0 rfl 0 rfl ?_
  refine sw_iload_n G dXR_replaceRow_1 rfl 1 rfl ?_
  refine sw_iconst (v := nI 0) G dXR_replaceRow_2 (by decide) ?_
  refine sw_callV (As := [.int (nI k), .int (nI 0)]) (rest := []) G (c_XR_shorten l D ta h0 h1 h2 h3 len ent cnt k 0 (by omega) (Nat.zero_le _) (by omega) (fun b _ h => he b h)) (cwV 2 G.2.2.2.2.1 (sb_goodV wd_158 wd_159 wd_160 wd_5 wd_161) rfl rfl rfl (by decide +kernel) ⟨Nat.le_of_ble_eq_true rfl, Nat.le_of_ble_eq_true rfl⟩) 0 3 rfl rfl rfl rfl (Nat.le_of_ble_eq_true rfl) dXR_replaceRow_3 ⟨Nat.le_of_ble_eq_true rfl, Nat.le_of_ble_eq_true rfl⟩ [0, 1, 2, 3] [] rfl (wr := []) rfl (by decide) (by decide) (by decide) (fun _ _ => ?_)
  refine sw_eq (ws' := [(h0, .inr (3, [.ref h1, .ref h2, .ref h3])), (h1, .inl (ta.1, 6, .inl (fun jx => nI ((va_up len k 0) jx)))), (h2, .inl (ta.1, 72, .inl (fun jx => nI (ent jx)))), (h3, .inl (ta.1, 40, .inl ((rw_dec cnt ent k 0 (len k - 0)))))]) (lv2 := [(0, .ref h0), (1, .int (nI k)), (2, .ref h0), (3, .int (nI sr))]) (pc2 := 6) (st2 := []) rfl ?_
  refine sw_aload_n G dXR_replaceRow_6 rfl 2 rfl ?_
  refine sw_iload_n G dXR_replaceRow_7 rfl 3 rfl ?_
  refine sw_readV (As := [.int (nI sr)]) (rest := []) G (c_XR_length l D ta h0 h1 h2 h3 (va_up len k 0) ent (rw_dec cnt ent k 0 (len k - 0)) sr (by omega)) (cwV 1 G.2.2.2.2.1 (sb_goodV wd_166 wd_167 wd_168 wd_5 wd_169) rfl rfl rfl (by decide +kernel) ⟨Nat.le_of_ble_eq_true rfl, Nat.le_of_ble_eq_true rfl⟩) 0 3 rfl rfl rfl rfl (Nat.le_of_ble_eq_true rfl) dXR_replaceRow_8 ⟨Nat.le_of_ble_eq_true rfl, Nat.le_of_ble_eq_true rfl⟩ [0, 1, 2, 3] rfl (by decide) ?_
  refine sw_eq (ws' := [(h0, .inr (3, [.ref h1, .ref h2, .ref h3])), (h1, .inl (ta.1, 6, .inl (fun jx => nI ((va_up len k 0) jx)))), (h2, .inl (ta.1, 72, .inl (fun jx => nI (ent jx)))), (h3, .inl (ta.1, 40, .inl ((rw_dec cnt ent k 0 (len k - 0)))))]) (lv2 := [(0, .ref h0), (1, .int (nI k)), (2, .ref h0), (3, .int (nI sr))]) (pc2 := 11) (st2 := [.int (nI ((va_up len k 0) sr))]) rfl ?_
  refine sw_eq (ws' := [(h0, .inr (3, [.ref h1, .ref h2, .ref h3])), (h1, .inl (ta.1, 6, .inl (fun jx => nI ((va_up len k 0) jx)))), (h2, .inl (ta.1, 72, .inl (fun jx => nI (ent jx)))), (h3, .inl (ta.1, 40, .inl ((rw_dec cnt ent k 0 (len k - 0)))))]) (lv2 := [(0, .ref h0), (1, .int (nI k)), (2, .ref h0), (3, .int (nI sr))]) (pc2 := 11) (st2 := [.int (nI (len sr))]) (by rw [va_up_ne _ _ hks] <;> rfl) ?_
  refine sw_istore G dXR_replaceRow_11 (by decide) (lv' := [(4, .int (nI (len sr))), (0, .ref h0), (1, .int (nI k)), (2, .ref h0), (3, .int (nI sr))]) rfl ?_
  refine sw_iconst (v := nI 0) G dXR_replaceRow_13 (by decide) ?_
  refine sw_istore G dXR_replaceRow_14 (by decide) (lv' := [(5, .int (nI 0)), (4, .int (nI (len sr))), (0, .ref h0), (1, .int (nI k)), (2, .ref h0), (3, .int (nI sr))]) rfl ?_
  refine sw_lv [2, 3, 4, 5, 1, 0] (lv' := [(0, .ref h0), (1, .int (nI k)), (2, .ref h0), (3, .int (nI sr)), (4, .int (nI (len sr))), (5, .int (nI 0))]) rfl ?_
  have L16 : ∀ (NN : Nat) (j : Nat), len sr - j < NN → (j ≤ len sr) → sw p l e ({ frames := 2, cells := 0, slots := 0, locals := 45 }) s m ([.ref h0, .int (nI k), .ref h0, .int (nI sr)]).toArray below meth c 6 D (va_A [(h0, .inr (3, [.ref h1, .ref h2, .ref h3])), (h1, .inl (ta.1, 6, .inl (fun jx => nI (len jx)))), (h2, .inl (ta.1, 72, .inl (fun jx => nI (ent jx)))), (h3, .inl (ta.1, 40, .inl (cnt)))] s.heap.size) (MQ below (sb_Q D ta [(h0, .inr (3, [.ref h1, .ref h2, .ref h3])), (h1, .inl (ta.1, 6, .inl (fun jx => nI (len jx)))), (h2, .inl (ta.1, 72, .inl (fun jx => nI (ent jx)))), (h3, .inl (ta.1, 40, .inl (cnt)))] s.heap.size (fun _ : Unit => True) (fun _ => none) (fun _ => [(h0, .inr (3, [.ref h1, .ref h2, .ref h3])), (h1, .inl (ta.1, 6, .inl (fun jx => nI ((va_up len k (len sr)) jx)))), (h2, .inl (ta.1, 72, .inl (fun jx => nI ((rw_cp ent ent k sr (len sr)) jx)))), (h3, .inl (ta.1, 40, .inl ((rw_inc (rw_dec cnt ent k 0 (len k - 0)) ent sr (len sr)))))])) ([.ref h0, .int (nI k), .ref h0, .int (nI sr)]).toArray s 0 0 (va_A [(h0, .inr (3, [.ref h1, .ref h2, .ref h3])), (h1, .inl (ta.1, 6, .inl (fun jx => nI (len jx)))), (h2, .inl (ta.1, 72, .inl (fun jx => nI (ent jx)))), (h3, .inl (ta.1, 40, .inl (cnt)))] s.heap.size)) false 0 0 [(h0, .inr (3, [.ref h1, .ref h2, .ref h3])), (h1, .inl (ta.1, 6, .inl (fun jx => nI ((va_up len k j) jx)))), (h2, .inl (ta.1, 72, .inl (fun jx => nI ((rw_cp ent ent k sr j) jx)))), (h3, .inl (ta.1, 40, .inl ((rw_inc (rw_dec cnt ent k 0 (len k - 0)) ent sr j))))] [(0, .ref h0), (1, .int (nI k)), (2, .ref h0), (3, .int (nI sr)), (4, .int (nI (len sr))), (5, .int (nI j))] 16 [] := by
    intro NN
    induction NN with
    | zero => intro j hNN; exact absurd hNN (Nat.not_lt_zero _)
    | succ NN ih16 =>
      intro j hNN hj
      refine sw_iload G dXR_replaceRow_16 5 rfl ?_
      refine sw_iload G dXR_replaceRow_18 4 rfl ?_
      refine sw_icmpN_ge (a := j) (b := len sr) (tgt := 41) G dXR_replaceRow_20 (by decide) (by omega) (by omega) (fun h20 => ?_) (fun h20 => ?_)
      · refine sw_sub [0, 1, 2, 3] (by decide) (ws' := [(h0, .inr (3, [.ref h1, .ref h2, .ref h3])), (h1, .inl (ta.1, 6, .inl (fun jx => nI ((va_up len k j) jx)))), (h2, .inl (ta.1, 72, .inl (fun jx => nI ((rw_cp ent ent k sr j) jx)))), (h3, .inl (ta.1, 40, .inl ((rw_inc (rw_dec cnt ent k 0 (len k - 0)) ent sr j))))]) rfl rfl ?_
        refine sw_eq (ws' := [(h0, .inr (3, [.ref h1, .ref h2, .ref h3])), (h1, .inl (ta.1, 6, .inl (fun jx => nI ((va_up len k (len sr)) jx)))), (h2, .inl (ta.1, 72, .inl (fun jx => nI ((rw_cp ent ent k sr (len sr)) jx)))), (h3, .inl (ta.1, 40, .inl ((rw_inc (rw_dec cnt ent k 0 (len k - 0)) ent sr (len sr)))))]) (lv2 := [(0, .ref h0), (1, .int (nI k)), (2, .ref h0), (3, .int (nI sr)), (4, .int (nI (len sr))), (5, .int (nI j))]) (pc2 := 41) (st2 := []) (by rw [show j = len sr by omega]) ?_
        exact sw_vret G hr hlk () trivial (rfl) [0, 1, 2, 3] (by decide) rfl rfl dXR_replaceRow_41
      · refine sw_aload_n G dXR_replaceRow_23 rfl 0 rfl ?_
        refine sw_iload_n G dXR_replaceRow_24 rfl 1 rfl ?_
        refine sw_aload_n G dXR_replaceRow_25 rfl 2 rfl ?_
        refine sw_iload_n G dXR_replaceRow_26 rfl 3 rfl ?_
        refine sw_iload G dXR_replaceRow_27 5 rfl ?_
        refine sw_readV (As := [.int (nI sr), .int (nI j)]) (rest := [.int (nI k), .ref h0]) G (c_XR_entry l D ta h0 h1 h2 h3 (va_up len k j) (rw_cp ent ent k sr j) (rw_inc (rw_dec cnt ent k 0 (len k - 0)) ent sr j) sr j (by omega) (by omega)) (cwV 2 G.2.2.2.2.1 (sb_goodV wd_162 wd_163 wd_164 wd_5 wd_165) rfl rfl rfl (by decide +kernel) ⟨Nat.le_of_ble_eq_true rfl, Nat.le_of_ble_eq_true rfl⟩) 0 3 rfl rfl rfl rfl (Nat.le_of_ble_eq_true rfl) dXR_replaceRow_29 ⟨Nat.le_of_ble_eq_true rfl, Nat.le_of_ble_eq_true rfl⟩ [0, 1, 2, 3] rfl (by decide) ?_
        refine sw_eq (ws' := [(h0, .inr (3, [.ref h1, .ref h2, .ref h3])), (h1, .inl (ta.1, 6, .inl (fun jx => nI ((va_up len k j) jx)))), (h2, .inl (ta.1, 72, .inl (fun jx => nI ((rw_cp ent ent k sr j) jx)))), (h3, .inl (ta.1, 40, .inl ((rw_inc (rw_dec cnt ent k 0 (len k - 0)) ent sr j))))]) (lv2 := [(0, .ref h0), (1, .int (nI k)), (2, .ref h0), (3, .int (nI sr)), (4, .int (nI (len sr))), (5, .int (nI j))]) (pc2 := 32) (st2 := [.int (nI ((rw_cp ent ent k sr j) (sr * 12 + j))), .int (nI k), .ref h0]) rfl ?_
        refine sw_eq (ws' := [(h0, .inr (3, [.ref h1, .ref h2, .ref h3])), (h1, .inl (ta.1, 6, .inl (fun jx => nI ((va_up len k j) jx)))), (h2, .inl (ta.1, 72, .inl (fun jx => nI ((rw_cp ent ent k sr j) jx)))), (h3, .inl (ta.1, 40, .inl ((rw_inc (rw_dec cnt ent k 0 (len k - 0)) ent sr j))))]) (lv2 := [(0, .ref h0), (1, .int (nI k)), (2, .ref h0), (3, .int (nI sr)), (4, .int (nI (len sr))), (5, .int (nI j))]) (pc2 := 32) (st2 := [.int (nI (ent (sr * 12 + j))), .int (nI k), .ref h0]) (by rw [rw_cp_off _ _ _ _ _ _ (by omega)]) ?_
        refine sw_callV (As := [.int (nI k), .int (nI (ent (sr * 12 + j)))]) (rest := []) G (c_XR_add l D ta h0 h1 h2 h3 (va_up len k j) (rw_cp ent ent k sr j) (rw_inc (rw_dec cnt ent k 0 (len k - 0)) ent sr j) k (ent (sr * 12 + j)) (by omega) (by rw [va_up_self]; omega) (he2 j h20)) (cwV 2 G.2.2.2.2.1 (sb_goodV wd_170 wd_171 wd_172 wd_5 wd_173) rfl rfl rfl (by decide +kernel) ⟨Nat.le_of_ble_eq_true rfl, Nat.le_of_ble_eq_true rfl⟩) 0 3 rfl rfl rfl rfl (Nat.le_of_ble_eq_true rfl) dXR_replaceRow_32 ⟨Nat.le_of_ble_eq_true rfl, Nat.le_of_ble_eq_true rfl⟩ [0, 1, 2, 3] [] rfl (wr := []) rfl (by decide) (by decide) (by decide) (fun _ _ => ?_)
        refine sw_eq (ws' := [(h0, .inr (3, [.ref h1, .ref h2, .ref h3])), (h1, .inl (ta.1, 6, .inl (fun jx => nI ((va_up (va_up len k j) k (((va_up len k j) k) + 1)) jx)))), (h2, .inl (ta.1, 72, .inl (fun jx => nI ((va_up (rw_cp ent ent k sr j) ((k * 12) + ((va_up len k j) k)) (ent (sr * 12 + j))) jx)))), (h3, .inl (ta.1, 40, .inl ((upd (rw_inc (rw_dec cnt ent k 0 (len k - 0)) ent sr j) (ent (sr * 12 + j)) (((rw_inc (rw_dec cnt ent k 0 (len k - 0)) ent sr j) (ent (sr * 12 + j))) + (nI 1))))))]) (lv2 := [(0, .ref h0), (1, .int (nI k)), (2, .ref h0), (3, .int (nI sr)), (4, .int (nI (len sr))), (5, .int (nI j))]) (pc2 := 35) (st2 := []) rfl ?_
        refine sw_iinc (x := nI j) (v := nI (j + 1)) G dXR_replaceRow_35 (q := 5) rfl (sp_inc _) (by decide) (lv' := [(5, .int (nI (j + 1))), (0, .ref h0), (1, .int (nI k)), (2, .ref h0), (3, .int (nI sr)), (4, .int (nI (len sr)))]) rfl ?_
        refine sw_goto (tgt := 16) G dXR_replaceRow_38 (by decide) ?_
        refine sw_lv [1, 2, 3, 4, 5, 0] (lv' := [(0, .ref h0), (1, .int (nI k)), (2, .ref h0), (3, .int (nI sr)), (4, .int (nI (len sr))), (5, .int (nI (j + 1)))]) rfl ?_
        refine sw_eq (ws' := [(h0, .inr (3, [.ref h1, .ref h2, .ref h3])), (h1, .inl (ta.1, 6, .inl (fun jx => nI ((va_up len k (j + 1)) jx)))), (h2, .inl (ta.1, 72, .inl (fun jx => nI ((rw_cp ent ent k sr (j + 1)) jx)))), (h3, .inl (ta.1, 40, .inl ((rw_inc (rw_dec cnt ent k 0 (len k - 0)) ent sr (j + 1)))))]) (lv2 := [(0, .ref h0), (1, .int (nI k)), (2, .ref h0), (3, .int (nI sr)), (4, .int (nI (len sr))), (5, .int (nI (j + 1)))]) (pc2 := 16) (st2 := []) (by rw [va_up_self, bx_uu] <;> rfl) ?_
        exact ih16 (j + 1) (by omega) (by omega)
  exact L16 _ 0 (Nat.lt_succ_self _) (Nat.zero_le _)

set_option maxRecDepth 100000 in
set_option maxHeartbeats 4000000 in
theorem c_XI_clear (l : Launch) (D : va_G) (ta : ClassId × ClassId × ClassId) (h0 : Nat) (h1 : Nat) (h2 : Nat) (h3 : Nat) (h4 : Nat) (w : Nat → Int32) (cel : Nat → Option Nat) (pos : Nat → Option Nat) (gate : Int64) (probed : Int32)  : sm (S := Unit) l yXI_clear wsXI_clear ({ frames := 1, cells := 0, slots := 0, locals := 23 }) D ta [.ref h0] [(h0, .inr (1, [.ref h1, .ref h2, .ref h3, .long gate, .int probed])), (h1, .inr (0, [.ref h4])), (h4, .inl (ta.1, 160, .inl (w))), (h2, .inl (ta.1, 64, .inl (fun jx => sp_o (cel jx)))), (h3, .inl (ta.1, 40, .inl (fun jx => sp_o (pos jx))))] (fun _ => True) (fun _ => none) (fun _ => [(h0, .inr (1, [.ref h1, .ref h2, .ref h3, .long 0, .int probed])), (h1, .inr (0, [.ref h4])), (h4, .inl (ta.1, 160, .inl (w))), (h2, .inl (ta.1, 64, .inl (fun jx => sp_o (ix_no jx)))), (h3, .inl (ta.1, 40, .inl (fun jx => sp_o (ix_no jx))))]) := by
  refine sm_ofW (y := yXI_clear) (cc := cXI_clear) (nL := 1) (ret := none) (by decide) (Nat.le_of_ble_eq_true rfl) (fun p e s m below meth c G hr hlk hnm => ?_)
  refine sw_eq (ws' := [(h0, .inr (1, [.ref h1, .ref h2, .ref h3, .long gate, .int probed])), (h1, .inr (0, [.ref h4])), (h4, .inl (ta.1, 160, .inl (w))), (h2, .inl (ta.1, 64, .inl (fun jx => sp_o (cel jx)))), (h3, .inl (ta.1, 40, .inl (fun jx => sp_o (pos jx))))]) (lv2 := [(0, .ref h0)]) (pc2 := 0) (st2 := []) rfl ?_
  refine sw_aload_n G dXI_clear_0 rfl 0 rfl ?_
  refine sw_get (C := RXI) (T := TXI) (ref := RXI) (N := 5) G inXI 0 rfl rfl 1 (by decide) wd_47 rfl rfl dXI_clear_1 ?_
  refine sw_iconst (v := -1) G dXI_clear_4 (by decide) ?_
  refine sw_callS (As := [.ref h2, .int (-1)]) (rest := []) G (c_XA_fill l D ta h2 64 cel (by omega)) (va_cwS 2 G.2.2.2.2.1 (sb_goodS wd_43 wd_44 wd_4 wd_45) rfl rfl rfl (by decide +kernel) ⟨Nat.le_of_ble_eq_true rfl, Nat.le_of_ble_eq_true rfl⟩) rfl rfl (Nat.le_of_ble_eq_true rfl) dXI_clear_5 ⟨Nat.le_of_ble_eq_true rfl, Nat.le_of_ble_eq_true rfl⟩ [3] [0, 1, 2, 4] rfl (wr := [(h0, .inr (1, [.ref h1, .ref h2, .ref h3, .long gate, .int probed])), (h1, .inr (0, [.ref h4])), (h4, .inl (ta.1, 160, .inl (w))), (h3, .inl (ta.1, 40, .inl (fun jx => sp_o (pos jx))))]) rfl (by decide) (by decide) (by decide) (fun _ _ => ?_)
  refine sw_eq (ws' := [(h0, .inr (1, [.ref h1, .ref h2, .ref h3, .long gate, .int probed])), (h1, .inr (0, [.ref h4])), (h4, .inl (ta.1, 160, .inl (w))), (h3, .inl (ta.1, 40, .inl (fun jx => sp_o (pos jx)))), (h2, .inl (ta.1, 64, .inl (fun jx => sp_o (ix_no jx))))]) (lv2 := [(0, .ref h0)]) (pc2 := 8) (st2 := []) rfl ?_
  refine sw_sub [0, 1, 2, 4, 3] (by decide) (ws' := [(h0, .inr (1, [.ref h1, .ref h2, .ref h3, .long gate, .int probed])), (h1, .inr (0, [.ref h4])), (h4, .inl (ta.1, 160, .inl (w))), (h2, .inl (ta.1, 64, .inl (fun jx => sp_o (ix_no jx)))), (h3, .inl (ta.1, 40, .inl (fun jx => sp_o (pos jx))))]) rfl rfl ?_
  refine sw_aload_n G dXI_clear_8 rfl 0 rfl ?_
  refine sw_get (C := RXI) (T := TXI) (ref := RXI) (N := 5) G inXI 0 rfl rfl 2 (by decide) wd_48 rfl rfl dXI_clear_9 ?_
  refine sw_iconst (v := -1) G dXI_clear_12 (by decide) ?_
  refine sw_callS (As := [.ref h3, .int (-1)]) (rest := []) G (c_XA_fill l D ta h3 40 pos (by omega)) (va_cwS 2 G.2.2.2.2.1 (sb_goodS wd_43 wd_44 wd_4 wd_45) rfl rfl rfl (by decide +kernel) ⟨Nat.le_of_ble_eq_true rfl, Nat.le_of_ble_eq_true rfl⟩) rfl rfl (Nat.le_of_ble_eq_true rfl) dXI_clear_13 ⟨Nat.le_of_ble_eq_true rfl, Nat.le_of_ble_eq_true rfl⟩ [4] [0, 1, 2, 3] rfl (wr := [(h0, .inr (1, [.ref h1, .ref h2, .ref h3, .long gate, .int probed])), (h1, .inr (0, [.ref h4])), (h4, .inl (ta.1, 160, .inl (w))), (h2, .inl (ta.1, 64, .inl (fun jx => sp_o (ix_no jx))))]) rfl (by decide) (by decide) (by decide) (fun _ _ => ?_)
  refine sw_eq (ws' := [(h0, .inr (1, [.ref h1, .ref h2, .ref h3, .long gate, .int probed])), (h1, .inr (0, [.ref h4])), (h4, .inl (ta.1, 160, .inl (w))), (h2, .inl (ta.1, 64, .inl (fun jx => sp_o (ix_no jx)))), (h3, .inl (ta.1, 40, .inl (fun jx => sp_o (ix_no jx))))]) (lv2 := [(0, .ref h0)]) (pc2 := 16) (st2 := []) rfl ?_
  refine sw_aload_n G dXI_clear_16 rfl 0 rfl ?_
  refine sw_lconst (v := 0) G dXI_clear_17 (by decide) ?_
  refine sw_put (ty := .long) (v := .long 0) (C := RXI) (T := TXI) (ref := RXI) (N := 5) G inXI tyXI tyXI_ok nmXI 0 rfl rfl 3 (by decide) wd_49 rfl rfl (by decide +kernel) (rfl) (rfl) (Nat.le_of_ble_eq_true rfl) dXI_clear_18 (fs' := [.ref h1, .ref h2, .ref h3, .long 0, .int probed]) rfl (ws' := [(h0, .inr (1, [.ref h1, .ref h2, .ref h3, .long 0, .int probed])), (h1, .inr (0, [.ref h4])), (h4, .inl (ta.1, 160, .inl (w))), (h2, .inl (ta.1, 64, .inl (fun jx => sp_o (ix_no jx)))), (h3, .inl (ta.1, 40, .inl (fun jx => sp_o (ix_no jx))))]) rfl ?_
  exact sw_vret G hr hlk () trivial (rfl) [0, 1, 2, 3, 4] (by decide) rfl rfl dXI_clear_21

set_option maxRecDepth 100000 in
set_option maxHeartbeats 4000000 in
theorem c_XI_inCell (l : Launch) (D : va_G) (ta : ClassId × ClassId × ClassId) (h0 : Nat) (h1 : Nat) (h2 : Nat) (h3 : Nat) (h4 : Nat) (w : Nat → Int32) (cel : Nat → Option Nat) (pos : Nat → Option Nat) (gate : Int64) (probed : Int32) (cx : Nat) (hc : cx < 64) : sr l yXI_inCell wsXI_inCell ({ frames := 0, cells := 0, slots := 0, locals := 0 }) D ta [.ref h0, .int (nI cx)] [(h0, .inr (1, [.ref h1, .ref h2, .ref h3, .long gate, .int probed])), (h1, .inr (0, [.ref h4])), (h4, .inl (ta.1, 160, .inl (w))), (h2, .inl (ta.1, 64, .inl (fun jx => sp_o (cel jx)))), (h3, .inl (ta.1, 40, .inl (fun jx => sp_o (pos jx))))] (some (.int (sp_o (cel cx)))) := by
  refine sr_ofW (y := yXI_inCell) (cc := cXI_inCell) (nL := 2) (ret := (some .int)) (by decide) (Nat.le_of_ble_eq_true rfl) (fun p e s m below meth c G hr hlk hnm => ?_)
  refine sw_eq (ws' := [(h0, .inr (1, [.ref h1, .ref h2, .ref h3, .long gate, .int probed])), (h1, .inr (0, [.ref h4])), (h4, .inl (ta.1, 160, .inl (w))), (h2, .inl (ta.1, 64, .inl (fun jx => sp_o (cel jx)))), (h3, .inl (ta.1, 40, .inl (fun jx => sp_o (pos jx))))]) (lv2 := [(0, .ref h0), (1, .int (nI cx))]) (pc2 := 0) (st2 := []) rfl ?_
  refine sw_aload_n G dXI_inCell_0 rfl 0 rfl ?_
  refine sw_get (C := RXI) (T := TXI) (ref := RXI) (N := 5) G inXI 0 rfl rfl 1 (by decide) wd_47 rfl rfl dXI_inCell_1 ?_
  refine sw_iload_n G dXI_inCell_4 rfl 1 rfl ?_
  refine sw_ialdN (j := cx) (v := sp_o (cel cx)) G 3 rfl (by omega) (by decide) (rfl) dXI_inCell_5 ?_
  exact sr_iret (x := sp_o (cel cx)) G hr hlk (rfl) dXI_inCell_6

set_option maxRecDepth 100000 in
set_option maxHeartbeats 4000000 in
theorem c_XI_gateBits (l : Launch) (D : va_G) (ta : ClassId × ClassId × ClassId) (h0 : Nat) (h1 : Nat) (h2 : Nat) (h3 : Nat) (h4 : Nat) (w : Nat → Int32) (cel : Nat → Option Nat) (pos : Nat → Option Nat) (gate : Int64) (probed : Int32)  : sr l yXI_gateBits wsXI_gateBits ({ frames := 1, cells := 0, slots := 0, locals := 21 }) D ta [.ref h0] [(h0, .inr (1, [.ref h1, .ref h2, .ref h3, .long gate, .int probed])), (h1, .inr (0, [.ref h4])), (h4, .inl (ta.1, 160, .inl (w))), (h2, .inl (ta.1, 64, .inl (fun jx => sp_o (cel jx)))), (h3, .inl (ta.1, 40, .inl (fun jx => sp_o (pos jx))))] (some (.int (bc_x gate))) := by
  refine sr_ofW (y := yXI_gateBits) (cc := cXI_gateBits) (nL := 1) (ret := (some .int)) (by decide) (Nat.le_of_ble_eq_true rfl) (fun p e s m below meth c G hr hlk hnm => ?_)
  refine sw_eq (ws' := [(h0, .inr (1, [.ref h1, .ref h2, .ref h3, .long gate, .int probed])), (h1, .inr (0, [.ref h4])), (h4, .inl (ta.1, 160, .inl (w))), (h2, .inl (ta.1, 64, .inl (fun jx => sp_o (cel jx)))), (h3, .inl (ta.1, 40, .inl (fun jx => sp_o (pos jx))))]) (lv2 := [(0, .ref h0)]) (pc2 := 0) (st2 := []) rfl ?_
  refine sw_aload_n G dXI_gateBits_0 rfl 0 rfl ?_
  refine sw_get (C := RXI) (T := TXI) (ref := RXI) (N := 5) G inXI 0 rfl rfl 3 (by decide) wd_49 rfl rfl dXI_gateBits_1 ?_
  refine sw_readS (As := [.long gate]) (rest := []) G (c_XG_bitCount l D ta gate ) (va_cwS 1 G.2.2.2.2.1 (sb_goodS wd_490 wd_491 wd_16 wd_492) rfl rfl rfl (by decide +kernel) ⟨Nat.le_of_ble_eq_true rfl, Nat.le_of_ble_eq_true rfl⟩) rfl rfl (Nat.le_of_ble_eq_true rfl) dXI_gateBits_4 ⟨Nat.le_of_ble_eq_true rfl, Nat.le_of_ble_eq_true rfl⟩ [] rfl (by decide) ?_
  refine sw_eq (ws' := [(h0, .inr (1, [.ref h1, .ref h2, .ref h3, .long gate, .int probed])), (h1, .inr (0, [.ref h4])), (h4, .inl (ta.1, 160, .inl (w))), (h2, .inl (ta.1, 64, .inl (fun jx => sp_o (cel jx)))), (h3, .inl (ta.1, 40, .inl (fun jx => sp_o (pos jx))))]) (lv2 := [(0, .ref h0)]) (pc2 := 7) (st2 := [.int (bc_x gate)]) rfl ?_
  exact sr_iret (x := bc_x gate) G hr hlk (rfl) dXI_gateBits_7

set_option maxRecDepth 100000 in
set_option maxHeartbeats 4000000 in
theorem c_XI_probesMade (l : Launch) (D : va_G) (ta : ClassId × ClassId × ClassId) (h0 : Nat) (h1 : Nat) (h2 : Nat) (h3 : Nat) (h4 : Nat) (w : Nat → Int32) (cel : Nat → Option Nat) (pos : Nat → Option Nat) (gate : Int64) (probed : Int32)  : sr l yXI_probesMade wsXI_probesMade ({ frames := 0, cells := 0, slots := 0, locals := 0 }) D ta [.ref h0] [(h0, .inr (1, [.ref h1, .ref h2, .ref h3, .long gate, .int probed])), (h1, .inr (0, [.ref h4])), (h4, .inl (ta.1, 160, .inl (w))), (h2, .inl (ta.1, 64, .inl (fun jx => sp_o (cel jx)))), (h3, .inl (ta.1, 40, .inl (fun jx => sp_o (pos jx))))] (some (.int probed)) := by
  refine sr_ofW (y := yXI_probesMade) (cc := cXI_probesMade) (nL := 1) (ret := (some .int)) (by decide) (Nat.le_of_ble_eq_true rfl) (fun p e s m below meth c G hr hlk hnm => ?_)
  refine sw_eq (ws' := [(h0, .inr (1, [.ref h1, .ref h2, .ref h3, .long gate, .int probed])), (h1, .inr (0, [.ref h4])), (h4, .inl (ta.1, 160, .inl (w))), (h2, .inl (ta.1, 64, .inl (fun jx => sp_o (cel jx)))), (h3, .inl (ta.1, 40, .inl (fun jx => sp_o (pos jx))))]) (lv2 := [(0, .ref h0)]) (pc2 := 0) (st2 := []) rfl ?_
  refine sw_aload_n G dXI_probesMade_0 rfl 0 rfl ?_
  refine sw_get (C := RXI) (T := TXI) (ref := RXI) (N := 5) G inXI 0 rfl rfl 4 (by decide) wd_50 rfl rfl dXI_probesMade_1 ?_
  exact sr_iret (x := probed) G hr hlk (rfl) dXI_probesMade_4

set_option maxRecDepth 100000 in
set_option maxHeartbeats 4000000 in
theorem c_XI_gateLets (l : Launch) (D : va_G) (ta : ClassId × ClassId × ClassId) (h0 : Nat) (h1 : Nat) (h2 : Nat) (h3 : Nat) (h4 : Nat) (w : Nat → Int32) (cel : Nat → Option Nat) (pos : Nat → Option Nat) (gate : Int64) (probed : Int32) (h5 : Nat) (g : Nat → Int32)  : sr l yXI_gateLets wsXI_gateLets ({ frames := 2, cells := 0, slots := 0, locals := 46 }) D ta [.ref h0, .ref h5] [(h0, .inr (1, [.ref h1, .ref h2, .ref h3, .long gate, .int probed])), (h1, .inr (0, [.ref h4])), (h4, .inl (ta.1, 160, .inl (w))), (h2, .inl (ta.1, 64, .inl (fun jx => sp_o (cel jx)))), (h3, .inl (ta.1, 40, .inl (fun jx => sp_o (pos jx)))), (h5, .inl (ta.1, 4, .inl (g)))] (some (.int (sp_b (decide (gate &&& gb_x g 0 = gb_x g 0))))) := by
  refine sr_ofW (y := yXI_gateLets) (cc := cXI_gateLets) (nL := 4) (ret := (some .boolean)) (by decide) (Nat.le_of_ble_eq_true rfl) (fun p e s m below meth c G hr hlk hnm => ?_)
  refine sw_eq (ws' := [(h0, .inr (1, [.ref h1, .ref h2, .ref h3, .long gate, .int probed])), (h1, .inr (0, [.ref h4])), (h4, .inl (ta.1, 160, .inl (w))), (h2, .inl (ta.1, 64, .inl (fun jx => sp_o (cel jx)))), (h3, .inl (ta.1, 40, .inl (fun jx => sp_o (pos jx)))), (h5, .inl (ta.1, 4, .inl (g)))]) (lv2 := [(0, .ref h0), (1, .ref h5)]) (pc2 := 0) (st2 := []) rfl ?_
  refine sw_aload_n G dXI_gateLets_0 rfl 1 rfl ?_
  refine sw_iconst (v := nI 0) G dXI_gateLets_1 (by decide) ?_
  refine sw_readS (As := [.ref h5, .int (nI 0)]) (rest := []) G (c_XC_bitsOfGate l D ta h5 4 g 0 (by omega) (by omega)) (va_cwS 2 G.2.2.2.2.1 (sb_goodS wd_359 wd_199 wd_14 wd_200) rfl rfl rfl (by decide +kernel) ⟨Nat.le_of_ble_eq_true rfl, Nat.le_of_ble_eq_true rfl⟩) rfl rfl (Nat.le_of_ble_eq_true rfl) dXI_gateLets_2 ⟨Nat.le_of_ble_eq_true rfl, Nat.le_of_ble_eq_true rfl⟩ [5] rfl (by decide) ?_
  refine sw_eq (ws' := [(h0, .inr (1, [.ref h1, .ref h2, .ref h3, .long gate, .int probed])), (h1, .inr (0, [.ref h4])), (h4, .inl (ta.1, 160, .inl (w))), (h2, .inl (ta.1, 64, .inl (fun jx => sp_o (cel jx)))), (h3, .inl (ta.1, 40, .inl (fun jx => sp_o (pos jx)))), (h5, .inl (ta.1, 4, .inl (g)))]) (lv2 := [(0, .ref h0), (1, .ref h5)]) (pc2 := 5) (st2 := [.long (gb_x g 0)]) rfl ?_
  refine sw_lstore_n G dXI_gateLets_5 rfl (by decide) (lv' := [(2, .long (gb_x g 0)), (0, .ref h0), (1, .ref h5)]) rfl ?_
  refine sw_aload_n G dXI_gateLets_6 rfl 1 rfl ?_
  refine sw_get (C := RXI) (T := TXI) (ref := RXI) (N := 5) G inXI 0 rfl rfl 3 (by decide) wd_49 rfl rfl dXI_gateLets_7 ?_
  refine sw_lload_n G dXI_gateLets_10 rfl 0 rfl ?_
  refine sw_land (x := gate) (y := gb_x g 0) (v := gate &&& (gb_x g 0)) G dXI_gateLets_11 (rfl) ?_
  refine sw_lload_n G dXI_gateLets_12 rfl 0 rfl ?_
  refine sw_lcmp (v := lg_cmp (gate &&& (gb_x g 0)) (gb_x g 0)) G dXI_gateLets_13 (rfl) ?_
  refine sw_if_ne (x := lg_cmp (gate &&& (gb_x g 0)) (gb_x g 0)) (tgt := 21) G dXI_gateLets_14 (by decide) (fun h14 => ?_) (fun h14 => ?_)
  · refine sw_iconst (v := nI 0) G dXI_gateLets_21 (by decide) ?_
    exact sr_zret (x := nI 0) G hr hlk (by rw [decide_eq_false (fun q => h14 ((lg_cmp_eq _ _).mpr q))]; rfl) (rfl) dXI_gateLets_22
  · refine sw_iconst (v := nI 1) G dXI_gateLets_17 (by decide) ?_
    refine sw_goto (tgt := 22) G dXI_gateLets_18 (by decide) ?_
    exact sr_zret (x := nI 1) G hr hlk (by rw [decide_eq_true ((lg_cmp_eq _ _).mp h14)]; rfl) (rfl) dXI_gateLets_22

set_option maxRecDepth 100000 in
set_option maxHeartbeats 4000000 in
theorem c_XI_lookUp (l : Launch) (D : va_G) (ta : ClassId × ClassId × ClassId) (h0 : Nat) (h1 : Nat) (h2 : Nat) (h3 : Nat) (h4 : Nat) (w : Nat → Int32) (cel : Nat → Option Nat) (pos : Nat → Option Nat) (gate : Int64) (probed : Int32) (h5 : Nat) (g : Nat → Int32) (t : Nat) (ht : t < 64) (hgo : ∀ u, u < t → ∃ b, cel ((fpN g 0 % 64 + u) % 64) = some b ∧ dk_same w b g = false) (hst : cel ((fpN g 0 % 64 + t) % 64) = none ∨ ∃ b, cel ((fpN g 0 % 64 + t) % 64) = some b ∧ dk_same w b g = true) (hbd : ∀ j b, j < 64 → cel j = some b → b < 40) : sm (S := Unit) l yXI_lookUp wsXI_lookUp ({ frames := 2, cells := 0, slots := 0, locals := 45 }) D ta [.ref h0, .ref h5] [(h0, .inr (1, [.ref h1, .ref h2, .ref h3, .long gate, .int probed])), (h1, .inr (0, [.ref h4])), (h4, .inl (ta.1, 160, .inl (w))), (h2, .inl (ta.1, 64, .inl (fun jx => sp_o (cel jx)))), (h3, .inl (ta.1, 40, .inl (fun jx => sp_o (pos jx)))), (h5, .inl (ta.1, 4, .inl (g)))] (fun _ => True) (fun _ => some (.int (sp_o (cel ((fpN g 0 % 64 + t) % 64))))) (fun _ => [(h0, .inr (1, [.ref h1, .ref h2, .ref h3, .long gate, .int (probed + nI (t + 1))])), (h1, .inr (0, [.ref h4])), (h4, .inl (ta.1, 160, .inl (w))), (h2, .inl (ta.1, 64, .inl (fun jx => sp_o (cel jx)))), (h3, .inl (ta.1, 40, .inl (fun jx => sp_o (pos jx)))), (h5, .inl (ta.1, 4, .inl (g)))]) := by
  refine sm_ofW (y := yXI_lookUp) (cc := cXI_lookUp) (nL := 5) (ret := (some .int)) (by decide) (Nat.le_of_ble_eq_true rfl) (fun p e s m below meth c G hr hlk hnm => ?_)
  have hf := fpN_lt g 0
  refine sw_eq (ws' := [(h0, .inr (1, [.ref h1, .ref h2, .ref h3, .long gate, .int probed])), (h1, .inr (0, [.ref h4])), (h4, .inl (ta.1, 160, .inl (w))), (h2, .inl (ta.1, 64, .inl (fun jx => sp_o (cel jx)))), (h3, .inl (ta.1, 40, .inl (fun jx => sp_o (pos jx)))), (h5, .inl (ta.1, 4, .inl (g)))]) (lv2 := [(0, .ref h0), (1, .ref h5)]) (pc2 := 0) (st2 := []) rfl ?_
  refine sw_aload_n G dXI_lookUp_0 rfl 1 rfl ?_
  refine sw_iconst (v := nI 0) G dXI_lookUp_1 (by decide) ?_
  refine sw_readS (As := [.ref h5, .int (nI 0)]) (rest := []) G (c_XC_fingerprint l D ta h5 4 g 0 (by decide) (by omega)) (va_cwS 2 G.2.2.2.2.1 (sb_goodS wd_364 wd_202 wd_14 wd_203) rfl rfl rfl (by decide +kernel) ⟨Nat.le_of_ble_eq_true rfl, Nat.le_of_ble_eq_true rfl⟩) rfl rfl (Nat.le_of_ble_eq_true rfl) dXI_lookUp_2 ⟨Nat.le_of_ble_eq_true rfl, Nat.le_of_ble_eq_true rfl⟩ [5] rfl (by decide) ?_
  refine sw_eq (ws' := [(h0, .inr (1, [.ref h1, .ref h2, .ref h3, .long gate, .int probed])), (h1, .inr (0, [.ref h4])), (h4, .inl (ta.1, 160, .inl (w))), (h2, .inl (ta.1, 64, .inl (fun jx => sp_o (cel jx)))), (h3, .inl (ta.1, 40, .inl (fun jx => sp_o (pos jx)))), (h5, .inl (ta.1, 4, .inl (g)))]) (lv2 := [(0, .ref h0), (1, .ref h5)]) (pc2 := 5) (st2 := [.int (nI (fpN g 0))]) rfl ?_
  refine sw_bipush (v := nI 63) G dXI_lookUp_5 (by decide) ?_
  refine sw_iand (x := nI (fpN g 0)) (y := nI 63) (v := nI ((fpN g 0) % 64)) G dXI_lookUp_7 (pk_andN (by omega) 6 (by decide)) ?_
  refine sw_istore_n G dXI_lookUp_8 rfl (by decide) (lv' := [(2, .int (nI ((fpN g 0) % 64))), (0, .ref h0), (1, .ref h5)]) rfl ?_
  refine sw_iconst (v := nI 0) G dXI_lookUp_9 (by decide) ?_
  refine sw_istore_n G dXI_lookUp_10 rfl (by decide) (lv' := [(3, .int (nI 0)), (2, .int (nI ((fpN g 0) % 64))), (0, .ref h0), (1, .ref h5)]) rfl ?_
  refine sw_z ?_
  refine sw_lv [2, 3, 1, 0] (lv' := [(0, .ref h0), (1, .ref h5), (2, .int (nI ((fpN g 0) % 64))), (3, .int (nI 0))]) rfl ?_
  refine sw_eq (ws' := [(h0, .inr (1, [.ref h1, .ref h2, .ref h3, .long gate, .int (probed + nI 0)])), (h1, .inr (0, [.ref h4])), (h4, .inl (ta.1, 160, .inl (w))), (h2, .inl (ta.1, 64, .inl (fun jx => sp_o (cel jx)))), (h3, .inl (ta.1, 40, .inl (fun jx => sp_o (pos jx)))), (h5, .inl (ta.1, 4, .inl (g)))]) (lv2 := [(0, .ref h0), (1, .ref h5), (2, .int (nI (fpN g 0 % 64))), (3, .int (nI 0))]) (pc2 := 11) (st2 := []) (by rw [show probed + nI 0 = probed by rw [nI_0, Int32.add_zero]]) ?_
  have L11 : ∀ (NN : Nat) (u : Nat), t - u < NN → (u ≤ t) → sw p l e ({ frames := 2, cells := 0, slots := 0, locals := 45 }) s m ([.ref h0, .ref h5]).toArray below meth c 5 D (va_A [(h0, .inr (1, [.ref h1, .ref h2, .ref h3, .long gate, .int probed])), (h1, .inr (0, [.ref h4])), (h4, .inl (ta.1, 160, .inl (w))), (h2, .inl (ta.1, 64, .inl (fun jx => sp_o (cel jx)))), (h3, .inl (ta.1, 40, .inl (fun jx => sp_o (pos jx)))), (h5, .inl (ta.1, 4, .inl (g)))] s.heap.size) (MQ below (sb_Q D ta [(h0, .inr (1, [.ref h1, .ref h2, .ref h3, .long gate, .int probed])), (h1, .inr (0, [.ref h4])), (h4, .inl (ta.1, 160, .inl (w))), (h2, .inl (ta.1, 64, .inl (fun jx => sp_o (cel jx)))), (h3, .inl (ta.1, 40, .inl (fun jx => sp_o (pos jx)))), (h5, .inl (ta.1, 4, .inl (g)))] s.heap.size (fun _ : Unit => True) (fun _ => some (.int (sp_o (cel ((fpN g 0 % 64 + t) % 64))))) (fun _ => [(h0, .inr (1, [.ref h1, .ref h2, .ref h3, .long gate, .int (probed + nI (t + 1))])), (h1, .inr (0, [.ref h4])), (h4, .inl (ta.1, 160, .inl (w))), (h2, .inl (ta.1, 64, .inl (fun jx => sp_o (cel jx)))), (h3, .inl (ta.1, 40, .inl (fun jx => sp_o (pos jx)))), (h5, .inl (ta.1, 4, .inl (g)))])) ([.ref h0, .ref h5]).toArray s 0 0 (va_A [(h0, .inr (1, [.ref h1, .ref h2, .ref h3, .long gate, .int probed])), (h1, .inr (0, [.ref h4])), (h4, .inl (ta.1, 160, .inl (w))), (h2, .inl (ta.1, 64, .inl (fun jx => sp_o (cel jx)))), (h3, .inl (ta.1, 40, .inl (fun jx => sp_o (pos jx)))), (h5, .inl (ta.1, 4, .inl (g)))] s.heap.size)) false 0 0 [(h0, .inr (1, [.ref h1, .ref h2, .ref h3, .long gate, .int (probed + nI u)])), (h1, .inr (0, [.ref h4])), (h4, .inl (ta.1, 160, .inl (w))), (h2, .inl (ta.1, 64, .inl (fun jx => sp_o (cel jx)))), (h3, .inl (ta.1, 40, .inl (fun jx => sp_o (pos jx)))), (h5, .inl (ta.1, 4, .inl (g)))] [(0, .ref h0), (1, .ref h5), (2, .int (nI (fpN g 0 % 64))), (3, .int (nI u))] 11 [] := by
    intro NN
    induction NN with
    | zero => intro u hNN; exact absurd hNN (Nat.not_lt_zero _)
    | succ NN ih11 =>
      intro u hNN hu
      refine sw_iload_n G dXI_lookUp_11 rfl 3 rfl ?_
      refine sw_bipush (v := nI 64) G dXI_lookUp_12 (by decide) ?_
      refine sw_icmpN_ge (a := u) (b := 64) (tgt := 68) G dXI_lookUp_14 (by decide) (by omega) (by omega) (fun h14 => ?_) (fun h14 => ?_)
      · exact absurd h14 (by omega)
      · rcases hcx : cel ((fpN g 0 % 64 + u) % 64) with _ | b
        · refine sw_aload_n G dXI_lookUp_17 rfl 0 rfl ?_
          refine sw_get (C := RXI) (T := TXI) (ref := RXI) (N := 5) G inXI 0 rfl rfl 1 (by decide) wd_47 rfl rfl dXI_lookUp_18 ?_
          refine sw_iload_n G dXI_lookUp_21 rfl 2 rfl ?_
          refine sw_iload_n G dXI_lookUp_22 rfl 3 rfl ?_
          refine sw_iadd (x := nI (fpN g 0 % 64)) (y := nI u) (v := nI ((fpN g 0 % 64) + u)) G dXI_lookUp_23 (sp_add _ _) ?_
          refine sw_bipush (v := nI 63) G dXI_lookUp_24 (by decide) ?_
          refine sw_iand (x := nI ((fpN g 0 % 64) + u)) (y := nI 63) (v := nI (((fpN g 0 % 64) + u) % 64)) G dXI_lookUp_26 (pk_andN (by omega) 6 (by decide)) ?_
          refine sw_ialdN (j := ((fpN g 0 % 64) + u) % 64) (v := -1) G 3 rfl (by omega) (by decide) (by rw [hcx]; rfl) dXI_lookUp_27 ?_
          refine sw_istore G dXI_lookUp_28 (by decide) (lv' := [(4, .int (-1)), (0, .ref h0), (1, .ref h5), (2, .int (nI (fpN g 0 % 64))), (3, .int (nI u))]) rfl ?_
          refine sw_aload_n G dXI_lookUp_30 rfl 1 rfl ?_
          refine sw_dup G dXI_lookUp_31 rfl ?_
          refine sw_get (C := RXI) (T := TXI) (ref := RXI) (N := 5) G inXI 0 rfl rfl 4 (by decide) wd_50 rfl rfl dXI_lookUp_32 ?_
          refine sw_iconst (v := nI 1) G dXI_lookUp_35 (by decide) ?_
          refine sw_iadd (x := probed + nI u) (y := nI 1) (v := probed + nI (u + 1)) G dXI_lookUp_36 (sp_addI _ _) ?_
          refine sw_put (ty := .int) (v := .int (probed + nI (u + 1))) (C := RXI) (T := TXI) (ref := RXI) (N := 5) G inXI tyXI tyXI_ok nmXI 0 rfl rfl 4 (by decide) wd_50 rfl rfl (by decide +kernel) (rfl) (rfl) (Nat.le_of_ble_eq_true rfl) dXI_lookUp_37 (fs' := [.ref h1, .ref h2, .ref h3, .long gate, .int (probed + nI (u + 1))]) rfl (ws' := [(h0, .inr (1, [.ref h1, .ref h2, .ref h3, .long gate, .int (probed + nI (u + 1))])), (h1, .inr (0, [.ref h4])), (h4, .inl (ta.1, 160, .inl (w))), (h2, .inl (ta.1, 64, .inl (fun jx => sp_o (cel jx)))), (h3, .inl (ta.1, 40, .inl (fun jx => sp_o (pos jx)))), (h5, .inl (ta.1, 4, .inl (g)))]) rfl ?_
          refine sw_iload G dXI_lookUp_40 0 rfl ?_
          refine sw_iconst (v := -1) G dXI_lookUp_42 (by decide) ?_
          refine sw_icmp_eq (x := -1) (y := -1) (tgt := 59) G dXI_lookUp_43 (by decide) (fun h43 => ?_) (fun h43 => ?_)
          · refine sw_iload G dXI_lookUp_59 0 rfl ?_
            have e : u = t := by
              rcases Nat.lt_or_ge u t with h | h
              · obtain ⟨b1, hb1, hb2⟩ := hgo u h
                rw [hcx] at hb1
                cases hb1
              · omega
            refine sw_sub [0, 1, 2, 3, 4, 5] (by decide) (ws' := [(h0, .inr (1, [.ref h1, .ref h2, .ref h3, .long gate, .int (probed + nI (u + 1))])), (h1, .inr (0, [.ref h4])), (h4, .inl (ta.1, 160, .inl (w))), (h2, .inl (ta.1, 64, .inl (fun jx => sp_o (cel jx)))), (h3, .inl (ta.1, 40, .inl (fun jx => sp_o (pos jx)))), (h5, .inl (ta.1, 4, .inl (g)))]) rfl rfl ?_
            refine sw_eq (ws' := [(h0, .inr (1, [.ref h1, .ref h2, .ref h3, .long gate, .int (probed + nI (t + 1))])), (h1, .inr (0, [.ref h4])), (h4, .inl (ta.1, 160, .inl (w))), (h2, .inl (ta.1, 64, .inl (fun jx => sp_o (cel jx)))), (h3, .inl (ta.1, 40, .inl (fun jx => sp_o (pos jx)))), (h5, .inl (ta.1, 4, .inl (g)))]) (lv2 := [(4, .int (-1)), (0, .ref h0), (1, .ref h5), (2, .int (nI (fpN g 0 % 64))), (3, .int (nI u))]) (pc2 := 61) (st2 := [.int (-1)]) (by rw [e]) ?_
            exact sw_iret (x := -1) G hr hlk () trivial (by rw [← e, hcx]; rfl) [0, 1, 2, 3, 4, 5] (by decide) rfl rfl dXI_lookUp_61
          · exact absurd rfl h43
        · refine sw_aload_n G dXI_lookUp_17 rfl 0 rfl ?_
          have hb := hbd _ _ (Nat.mod_lt _ (by decide)) hcx
          refine sw_get (C := RXI) (T := TXI) (ref := RXI) (N := 5) G inXI 0 rfl rfl 1 (by decide) wd_47 rfl rfl dXI_lookUp_18 ?_
          refine sw_iload_n G dXI_lookUp_21 rfl 2 rfl ?_
          refine sw_iload_n G dXI_lookUp_22 rfl 3 rfl ?_
          refine sw_iadd (x := nI (fpN g 0 % 64)) (y := nI u) (v := nI ((fpN g 0 % 64) + u)) G dXI_lookUp_23 (sp_add _ _) ?_
          refine sw_bipush (v := nI 63) G dXI_lookUp_24 (by decide) ?_
          refine sw_iand (x := nI ((fpN g 0 % 64) + u)) (y := nI 63) (v := nI (((fpN g 0 % 64) + u) % 64)) G dXI_lookUp_26 (pk_andN (by omega) 6 (by decide)) ?_
          refine sw_ialdN (j := ((fpN g 0 % 64) + u) % 64) (v := nI b) G 3 rfl (by omega) (by decide) (by rw [hcx]; rfl) dXI_lookUp_27 ?_
          refine sw_istore G dXI_lookUp_28 (by decide) (lv' := [(4, .int (nI b)), (0, .ref h0), (1, .ref h5), (2, .int (nI (fpN g 0 % 64))), (3, .int (nI u))]) rfl ?_
          refine sw_aload_n G dXI_lookUp_30 rfl 1 rfl ?_
          refine sw_dup G dXI_lookUp_31 rfl ?_
          refine sw_get (C := RXI) (T := TXI) (ref := RXI) (N := 5) G inXI 0 rfl rfl 4 (by decide) wd_50 rfl rfl dXI_lookUp_32 ?_
          refine sw_iconst (v := nI 1) G dXI_lookUp_35 (by decide) ?_
          refine sw_iadd (x := probed + nI u) (y := nI 1) (v := probed + nI (u + 1)) G dXI_lookUp_36 (sp_addI _ _) ?_
          refine sw_put (ty := .int) (v := .int (probed + nI (u + 1))) (C := RXI) (T := TXI) (ref := RXI) (N := 5) G inXI tyXI tyXI_ok nmXI 0 rfl rfl 4 (by decide) wd_50 rfl rfl (by decide +kernel) (rfl) (rfl) (Nat.le_of_ble_eq_true rfl) dXI_lookUp_37 (fs' := [.ref h1, .ref h2, .ref h3, .long gate, .int (probed + nI (u + 1))]) rfl (ws' := [(h0, .inr (1, [.ref h1, .ref h2, .ref h3, .long gate, .int (probed + nI (u + 1))])), (h1, .inr (0, [.ref h4])), (h4, .inl (ta.1, 160, .inl (w))), (h2, .inl (ta.1, 64, .inl (fun jx => sp_o (cel jx)))), (h3, .inl (ta.1, 40, .inl (fun jx => sp_o (pos jx)))), (h5, .inl (ta.1, 4, .inl (g)))]) rfl ?_
          refine sw_iload G dXI_lookUp_40 0 rfl ?_
          refine sw_iconst (v := -1) G dXI_lookUp_42 (by decide) ?_
          refine sw_icmp_eq (x := nI b) (y := -1) (tgt := 59) G dXI_lookUp_43 (by decide) (fun h43 => ?_) (fun h43 => ?_)
          · exact absurd h43 (sp_nI_m1 (by omega))
          · refine sw_aload_n G dXI_lookUp_46 rfl 1 rfl ?_
            refine sw_get (C := RXI) (T := TXI) (ref := RXI) (N := 5) G inXI 0 rfl rfl 0 (by decide) wd_46 rfl rfl dXI_lookUp_47 ?_
            refine sw_iload G dXI_lookUp_50 0 rfl ?_
            refine sw_aload_n G dXI_lookUp_52 rfl 2 rfl ?_
            refine sw_readV (As := [.int (nI b), .ref h5]) (rest := []) G (c_XD_holds l D ta h1 h4 w h5 g b (by omega)) (cwV 2 G.2.2.2.2.1 (sb_goodV wd_365 wd_366 wd_367 wd_2 wd_368) rfl rfl rfl (by decide +kernel) ⟨Nat.le_of_ble_eq_true rfl, Nat.le_of_ble_eq_true rfl⟩) 1 0 rfl rfl rfl rfl (Nat.le_of_ble_eq_true rfl) dXI_lookUp_53 ⟨Nat.le_of_ble_eq_true rfl, Nat.le_of_ble_eq_true rfl⟩ [1, 2, 5] rfl (by decide) ?_
            refine sw_eq (ws' := [(h0, .inr (1, [.ref h1, .ref h2, .ref h3, .long gate, .int (probed + nI (u + 1))])), (h1, .inr (0, [.ref h4])), (h4, .inl (ta.1, 160, .inl (w))), (h2, .inl (ta.1, 64, .inl (fun jx => sp_o (cel jx)))), (h3, .inl (ta.1, 40, .inl (fun jx => sp_o (pos jx)))), (h5, .inl (ta.1, 4, .inl (g)))]) (lv2 := [(4, .int (nI b)), (0, .ref h0), (1, .ref h5), (2, .int (nI (fpN g 0 % 64))), (3, .int (nI u))]) (pc2 := 56) (st2 := [.int (sp_b (dk_same w b g))]) rfl ?_
            refine sw_if_eq (x := sp_b (dk_same w b g)) (tgt := 62) G dXI_lookUp_56 (by decide) (fun h56 => ?_) (fun h56 => ?_)
            · refine sw_iinc (x := nI u) (v := nI (u + 1)) G dXI_lookUp_62 (q := 4) rfl (sp_inc _) (by decide) (lv' := [(3, .int (nI (u + 1))), (4, .int (nI b)), (0, .ref h0), (1, .ref h5), (2, .int (nI (fpN g 0 % 64)))]) rfl ?_
              refine sw_goto (tgt := 11) G dXI_lookUp_65 (by decide) ?_
              refine sw_lv [2, 3, 4, 0] (lv' := [(0, .ref h0), (1, .ref h5), (2, .int (nI (fpN g 0 % 64))), (3, .int (nI (u + 1)))]) rfl ?_
              have hlt : u < t := by
                rcases Nat.lt_or_ge u t with h | h
                · exact h
                · exfalso
                  have e : u = t := by omega
                  rw [← e] at hst
                  rcases hst with h1 | ⟨b1, h1, h2⟩
                  · rw [hcx] at h1; cases h1
                  · rw [hcx] at h1; cases h1
                    rw [(sp_b_eq _).mp h56] at h2; cases h2
              refine sw_eq (ws' := [(h0, .inr (1, [.ref h1, .ref h2, .ref h3, .long gate, .int (probed + nI (u + 1))])), (h1, .inr (0, [.ref h4])), (h4, .inl (ta.1, 160, .inl (w))), (h2, .inl (ta.1, 64, .inl (fun jx => sp_o (cel jx)))), (h3, .inl (ta.1, 40, .inl (fun jx => sp_o (pos jx)))), (h5, .inl (ta.1, 4, .inl (g)))]) (lv2 := [(0, .ref h0), (1, .ref h5), (2, .int (nI (fpN g 0 % 64))), (3, .int (nI (u + 1)))]) (pc2 := 11) (st2 := []) (rfl) ?_
              exact ih11 (u + 1) (by omega) (by omega)
            · refine sw_iload G dXI_lookUp_59 0 rfl ?_
              have e : u = t := by
                rcases Nat.lt_or_ge u t with h | h
                · obtain ⟨b1, hb1, hb2⟩ := hgo u h
                  rw [hcx] at hb1
                  cases hb1
                  rw [(sp_b_ne _).mp h56] at hb2
                  cases hb2
                · omega
              refine sw_sub [0, 1, 2, 3, 4, 5] (by decide) (ws' := [(h0, .inr (1, [.ref h1, .ref h2, .ref h3, .long gate, .int (probed + nI (u + 1))])), (h1, .inr (0, [.ref h4])), (h4, .inl (ta.1, 160, .inl (w))), (h2, .inl (ta.1, 64, .inl (fun jx => sp_o (cel jx)))), (h3, .inl (ta.1, 40, .inl (fun jx => sp_o (pos jx)))), (h5, .inl (ta.1, 4, .inl (g)))]) rfl rfl ?_
              refine sw_eq (ws' := [(h0, .inr (1, [.ref h1, .ref h2, .ref h3, .long gate, .int (probed + nI (t + 1))])), (h1, .inr (0, [.ref h4])), (h4, .inl (ta.1, 160, .inl (w))), (h2, .inl (ta.1, 64, .inl (fun jx => sp_o (cel jx)))), (h3, .inl (ta.1, 40, .inl (fun jx => sp_o (pos jx)))), (h5, .inl (ta.1, 4, .inl (g)))]) (lv2 := [(4, .int (nI b)), (0, .ref h0), (1, .ref h5), (2, .int (nI (fpN g 0 % 64))), (3, .int (nI u))]) (pc2 := 61) (st2 := [.int (nI b)]) (by rw [e]) ?_
              exact sw_iret (x := nI b) G hr hlk () trivial (by rw [← e, hcx]; rfl) [0, 1, 2, 3, 4, 5] (by decide) rfl rfl dXI_lookUp_61
  exact L11 _ 0 (Nat.lt_succ_self _) (Nat.zero_le _)

set_option maxRecDepth 100000 in
set_option maxHeartbeats 4000000 in
theorem c_XI_putIn (l : Launch) (D : va_G) (ta : ClassId × ClassId × ClassId) (h0 : Nat) (h1 : Nat) (h2 : Nat) (h3 : Nat) (h4 : Nat) (w : Nat → Int32) (cel : Nat → Option Nat) (pos : Nat → Option Nat) (gate : Int64) (probed : Int32) (b : Nat) (t : Nat) (hb : b < 40) (ht : t < 64) (hfree : cel ((hmN w b + t) % 64) = none) (hocc : ∀ u, u < t → cel ((hmN w b + u) % 64) ≠ none) (hbd : ∀ j b, j < 64 → cel j = some b → b < 40) : sm (S := Unit) l yXI_putIn wsXI_putIn ({ frames := 2, cells := 0, slots := 0, locals := 44 }) D ta [.ref h0, .int (nI b)] [(h0, .inr (1, [.ref h1, .ref h2, .ref h3, .long gate, .int probed])), (h1, .inr (0, [.ref h4])), (h4, .inl (ta.1, 160, .inl (w))), (h2, .inl (ta.1, 64, .inl (fun jx => sp_o (cel jx)))), (h3, .inl (ta.1, 40, .inl (fun jx => sp_o (pos jx))))] (fun _ => True) (fun _ => none) (fun _ => [(h0, .inr (1, [.ref h1, .ref h2, .ref h3, .long gate, .int probed])), (h1, .inr (0, [.ref h4])), (h4, .inl (ta.1, 160, .inl (w))), (h2, .inl (ta.1, 64, .inl (fun jx => sp_o ((va_up cel ((hmN w b + t) % 64) (some b)) jx)))), (h3, .inl (ta.1, 40, .inl (fun jx => sp_o ((va_up pos b (some ((hmN w b + t) % 64))) jx))))]) := by
  refine sm_ofW (y := yXI_putIn) (cc := cXI_putIn) (nL := 5) (ret := none) (by decide) (Nat.le_of_ble_eq_true rfl) (fun p e s m below meth c G hr hlk hnm => ?_)
  have hf := hmN_lt w b
  refine sw_eq (ws' := [(h0, .inr (1, [.ref h1, .ref h2, .ref h3, .long gate, .int probed])), (h1, .inr (0, [.ref h4])), (h4, .inl (ta.1, 160, .inl (w))), (h2, .inl (ta.1, 64, .inl (fun jx => sp_o (cel jx)))), (h3, .inl (ta.1, 40, .inl (fun jx => sp_o (pos jx))))]) (lv2 := [(0, .ref h0), (1, .int (nI b))]) (pc2 := 0) (st2 := []) rfl ?_
  refine sw_aload_n G dXI_putIn_0 rfl 0 rfl ?_
  refine sw_get (C := RXI) (T := TXI) (ref := RXI) (N := 5) G inXI 0 rfl rfl 0 (by decide) wd_46 rfl rfl dXI_putIn_1 ?_
  refine sw_iload_n G dXI_putIn_4 rfl 1 rfl ?_
  refine sw_readV (As := [.int (nI b)]) (rest := []) G (c_XD_homeOf l D ta h1 h4 w b (by omega)) (cwV 1 G.2.2.2.2.1 (sb_goodV wd_208 wd_209 wd_210 wd_2 wd_211) rfl rfl rfl (by decide +kernel) ⟨Nat.le_of_ble_eq_true rfl, Nat.le_of_ble_eq_true rfl⟩) 1 0 rfl rfl rfl rfl (Nat.le_of_ble_eq_true rfl) dXI_putIn_5 ⟨Nat.le_of_ble_eq_true rfl, Nat.le_of_ble_eq_true rfl⟩ [1, 2] rfl (by decide) ?_
  refine sw_eq (ws' := [(h0, .inr (1, [.ref h1, .ref h2, .ref h3, .long gate, .int probed])), (h1, .inr (0, [.ref h4])), (h4, .inl (ta.1, 160, .inl (w))), (h2, .inl (ta.1, 64, .inl (fun jx => sp_o (cel jx)))), (h3, .inl (ta.1, 40, .inl (fun jx => sp_o (pos jx))))]) (lv2 := [(0, .ref h0), (1, .int (nI b))]) (pc2 := 8) (st2 := [.int (nI (hmN w b))]) rfl ?_
  refine sw_istore_n G dXI_putIn_8 rfl (by decide) (lv' := [(2, .int (nI (hmN w b))), (0, .ref h0), (1, .int (nI b))]) rfl ?_
  refine sw_iconst (v := nI 0) G dXI_putIn_9 (by decide) ?_
  refine sw_istore_n G dXI_putIn_10 rfl (by decide) (lv' := [(3, .int (nI 0)), (2, .int (nI (hmN w b))), (0, .ref h0), (1, .int (nI b))]) rfl ?_
  refine sw_lv [2, 3, 1, 0] (lv' := [(0, .ref h0), (1, .int (nI b)), (2, .int (nI (hmN w b))), (3, .int (nI 0))]) rfl ?_
  have L11 : ∀ (NN : Nat) (u : Nat), t - u < NN → (u ≤ t) → sw p l e ({ frames := 2, cells := 0, slots := 0, locals := 44 }) s m ([.ref h0, .int (nI b)]).toArray below meth c 5 D (va_A [(h0, .inr (1, [.ref h1, .ref h2, .ref h3, .long gate, .int probed])), (h1, .inr (0, [.ref h4])), (h4, .inl (ta.1, 160, .inl (w))), (h2, .inl (ta.1, 64, .inl (fun jx => sp_o (cel jx)))), (h3, .inl (ta.1, 40, .inl (fun jx => sp_o (pos jx))))] s.heap.size) (MQ below (sb_Q D ta [(h0, .inr (1, [.ref h1, .ref h2, .ref h3, .long gate, .int probed])), (h1, .inr (0, [.ref h4])), (h4, .inl (ta.1, 160, .inl (w))), (h2, .inl (ta.1, 64, .inl (fun jx => sp_o (cel jx)))), (h3, .inl (ta.1, 40, .inl (fun jx => sp_o (pos jx))))] s.heap.size (fun _ : Unit => True) (fun _ => none) (fun _ => [(h0, .inr (1, [.ref h1, .ref h2, .ref h3, .long gate, .int probed])), (h1, .inr (0, [.ref h4])), (h4, .inl (ta.1, 160, .inl (w))), (h2, .inl (ta.1, 64, .inl (fun jx => sp_o ((va_up cel ((hmN w b + t) % 64) (some b)) jx)))), (h3, .inl (ta.1, 40, .inl (fun jx => sp_o ((va_up pos b (some ((hmN w b + t) % 64))) jx))))])) ([.ref h0, .int (nI b)]).toArray s 0 0 (va_A [(h0, .inr (1, [.ref h1, .ref h2, .ref h3, .long gate, .int probed])), (h1, .inr (0, [.ref h4])), (h4, .inl (ta.1, 160, .inl (w))), (h2, .inl (ta.1, 64, .inl (fun jx => sp_o (cel jx)))), (h3, .inl (ta.1, 40, .inl (fun jx => sp_o (pos jx))))] s.heap.size)) true 0 0 [(h0, .inr (1, [.ref h1, .ref h2, .ref h3, .long gate, .int probed])), (h1, .inr (0, [.ref h4])), (h4, .inl (ta.1, 160, .inl (w))), (h2, .inl (ta.1, 64, .inl (fun jx => sp_o (cel jx)))), (h3, .inl (ta.1, 40, .inl (fun jx => sp_o (pos jx))))] [(0, .ref h0), (1, .int (nI b)), (2, .int (nI (hmN w b))), (3, .int (nI u))] 11 [] := by
    intro NN
    induction NN with
    | zero => intro u hNN; exact absurd hNN (Nat.not_lt_zero _)
    | succ NN ih11 =>
      intro u hNN hu
      refine sw_iload_n G dXI_putIn_11 rfl 3 rfl ?_
      refine sw_bipush (v := nI 64) G dXI_putIn_12 (by decide) ?_
      refine sw_icmpN_ge (a := u) (b := 64) (tgt := 59) G dXI_putIn_14 (by decide) (by omega) (by omega) (fun h14 => ?_) (fun h14 => ?_)
      · exact absurd h14 (by omega)
      · refine sw_iload_n G dXI_putIn_17 rfl 2 rfl ?_
        refine sw_iload_n G dXI_putIn_18 rfl 3 rfl ?_
        refine sw_iadd (x := nI (hmN w b)) (y := nI u) (v := nI ((hmN w b) + u)) G dXI_putIn_19 (sp_add _ _) ?_
        refine sw_bipush (v := nI 63) G dXI_putIn_20 (by decide) ?_
        refine sw_iand (x := nI ((hmN w b) + u)) (y := nI 63) (v := nI (((hmN w b) + u) % 64)) G dXI_putIn_22 (pk_andN (by omega) 6 (by decide)) ?_
        refine sw_istore G dXI_putIn_23 (by decide) (lv' := [(4, .int (nI (((hmN w b) + u) % 64))), (0, .ref h0), (1, .int (nI b)), (2, .int (nI (hmN w b))), (3, .int (nI u))]) rfl ?_
        refine sw_aload_n G dXI_putIn_25 rfl 1 rfl ?_
        refine sw_get (C := RXI) (T := TXI) (ref := RXI) (N := 5) G inXI 0 rfl rfl 1 (by decide) wd_47 rfl rfl dXI_putIn_26 ?_
        refine sw_iload G dXI_putIn_29 0 rfl ?_
        refine sw_ialdN (j := ((hmN w b) + u) % 64) (v := sp_o (cel (((hmN w b) + u) % 64))) G 3 rfl (by omega) (by decide) (rfl) dXI_putIn_31 ?_
        refine sw_iconst (v := -1) G dXI_putIn_32 (by decide) ?_
        refine sw_icmp_ne (x := sp_o (cel (((hmN w b) + u) % 64))) (y := -1) (tgt := 53) G dXI_putIn_33 (by decide) (fun h33 => ?_) (fun h33 => ?_)
        · refine sw_iinc (x := nI u) (v := nI (u + 1)) G dXI_putIn_53 (q := 4) rfl (sp_inc _) (by decide) (lv' := [(3, .int (nI (u + 1))), (4, .int (nI (((hmN w b) + u) % 64))), (0, .ref h0), (1, .int (nI b)), (2, .int (nI (hmN w b)))]) rfl ?_
          refine sw_goto (tgt := 11) G dXI_putIn_56 (by decide) ?_
          refine sw_lv [2, 3, 4, 0] (lv' := [(0, .ref h0), (1, .int (nI b)), (2, .int (nI (hmN w b))), (3, .int (nI (u + 1)))]) rfl ?_
          have hlt : u < t := by
            rcases Nat.lt_or_ge u t with h | h
            · exact h
            · exfalso
              have e : u = t := by omega
              exact h33 (by rw [e, hfree]; rfl)
          refine sw_eq (ws' := [(h0, .inr (1, [.ref h1, .ref h2, .ref h3, .long gate, .int probed])), (h1, .inr (0, [.ref h4])), (h4, .inl (ta.1, 160, .inl (w))), (h2, .inl (ta.1, 64, .inl (fun jx => sp_o (cel jx)))), (h3, .inl (ta.1, 40, .inl (fun jx => sp_o (pos jx))))]) (lv2 := [(0, .ref h0), (1, .int (nI b)), (2, .int (nI (hmN w b))), (3, .int (nI (u + 1)))]) (pc2 := 11) (st2 := []) (rfl) ?_
          exact ih11 (u + 1) (by omega) (by omega)
        · have hn := (sp_o_m1 (fun b1 hb1 => by have := hbd _ b1 (Nat.mod_lt _ (by decide)) hb1; omega)).mp h33
          have e : u = t := by
            rcases Nat.lt_or_ge u t with h | h
            · exact absurd hn (hocc u h)
            · omega
          refine sw_aload_n G dXI_putIn_36 rfl 1 rfl ?_
          refine sw_get (C := RXI) (T := TXI) (ref := RXI) (N := 5) G inXI 0 rfl rfl 1 (by decide) wd_47 rfl rfl dXI_putIn_37 ?_
          refine sw_iload G dXI_putIn_40 0 rfl ?_
          refine sw_iload_n G dXI_putIn_42 rfl 2 rfl ?_
          refine sw_iastN (j := ((hmN w b) + u) % 64) (x := nI b) G 3 rfl (by omega) (by decide) dXI_putIn_43 (f' := fun jx => sp_o ((va_up cel (((hmN w b) + u) % 64) (some b)) jx)) (sp_upO _ _ (some b)) (ws' := [(h0, .inr (1, [.ref h1, .ref h2, .ref h3, .long gate, .int probed])), (h1, .inr (0, [.ref h4])), (h4, .inl (ta.1, 160, .inl (w))), (h2, .inl (ta.1, 64, .inl (fun jx => sp_o ((va_up cel (((hmN w b) + u) % 64) (some b)) jx)))), (h3, .inl (ta.1, 40, .inl (fun jx => sp_o (pos jx))))]) rfl ?_
          refine sw_aload_n G dXI_putIn_44 rfl 1 rfl ?_
          refine sw_get (C := RXI) (T := TXI) (ref := RXI) (N := 5) G inXI 0 rfl rfl 2 (by decide) wd_48 rfl rfl dXI_putIn_45 ?_
          refine sw_iload_n G dXI_putIn_48 rfl 2 rfl ?_
          refine sw_iload G dXI_putIn_49 0 rfl ?_
          refine sw_iastN (j := b) (x := nI (((hmN w b) + u) % 64)) G 4 rfl (by omega) (by decide) dXI_putIn_51 (f' := fun jx => sp_o ((va_up pos b (some (((hmN w b) + u) % 64))) jx)) (sp_upO _ _ (some (((hmN w b) + u) % 64))) (ws' := [(h0, .inr (1, [.ref h1, .ref h2, .ref h3, .long gate, .int probed])), (h1, .inr (0, [.ref h4])), (h4, .inl (ta.1, 160, .inl (w))), (h2, .inl (ta.1, 64, .inl (fun jx => sp_o ((va_up cel (((hmN w b) + u) % 64) (some b)) jx)))), (h3, .inl (ta.1, 40, .inl (fun jx => sp_o ((va_up pos b (some (((hmN w b) + u) % 64))) jx))))]) rfl ?_
          refine sw_sub [0, 1, 2, 3, 4] (by decide) (ws' := [(h0, .inr (1, [.ref h1, .ref h2, .ref h3, .long gate, .int probed])), (h1, .inr (0, [.ref h4])), (h4, .inl (ta.1, 160, .inl (w))), (h2, .inl (ta.1, 64, .inl (fun jx => sp_o ((va_up cel (((hmN w b) + u) % 64) (some b)) jx)))), (h3, .inl (ta.1, 40, .inl (fun jx => sp_o ((va_up pos b (some (((hmN w b) + u) % 64))) jx))))]) rfl rfl ?_
          refine sw_eq (ws' := [(h0, .inr (1, [.ref h1, .ref h2, .ref h3, .long gate, .int probed])), (h1, .inr (0, [.ref h4])), (h4, .inl (ta.1, 160, .inl (w))), (h2, .inl (ta.1, 64, .inl (fun jx => sp_o ((va_up cel ((hmN w b + t) % 64) (some b)) jx)))), (h3, .inl (ta.1, 40, .inl (fun jx => sp_o ((va_up pos b (some ((hmN w b + t) % 64))) jx))))]) (lv2 := [(4, .int (nI (((hmN w b) + u) % 64))), (0, .ref h0), (1, .int (nI b)), (2, .int (nI (hmN w b))), (3, .int (nI u))]) (pc2 := 52) (st2 := []) (by rw [e]) ?_
          exact sw_vret G hr hlk () trivial (rfl) [0, 1, 2, 3, 4] (by decide) rfl rfl dXI_putIn_52
  exact L11 _ 0 (Nat.lt_succ_self _) (Nat.zero_le _)

set_option maxRecDepth 100000 in
set_option maxHeartbeats 4000000 in
theorem c_XI_admit (l : Launch) (D : va_G) (ta : ClassId × ClassId × ClassId) (h0 : Nat) (h1 : Nat) (h2 : Nat) (h3 : Nat) (h4 : Nat) (w : Nat → Int32) (cel : Nat → Option Nat) (pos : Nat → Option Nat) (gate : Int64) (probed : Int32) (b : Nat) (t : Nat) (hb : b < 40) (ht : t < 64) (hfree : cel ((hmN w b + t) % 64) = none) (hocc : ∀ u, u < t → cel ((hmN w b + u) % 64) ≠ none) (hbd : ∀ j b, j < 64 → cel j = some b → b < 40) : sm (S := Unit) l yXI_admit wsXI_admit ({ frames := 3, cells := 0, slots := 0, locals := 68 }) D ta [.ref h0, .int (nI b)] [(h0, .inr (1, [.ref h1, .ref h2, .ref h3, .long gate, .int probed])), (h1, .inr (0, [.ref h4])), (h4, .inl (ta.1, 160, .inl (w))), (h2, .inl (ta.1, 64, .inl (fun jx => sp_o (cel jx)))), (h3, .inl (ta.1, 40, .inl (fun jx => sp_o (pos jx))))] (fun _ => True) (fun _ => none) (fun _ => [(h0, .inr (1, [.ref h1, .ref h2, .ref h3, .long (gate ||| (gb_x w (b * 4))), .int probed])), (h1, .inr (0, [.ref h4])), (h4, .inl (ta.1, 160, .inl (w))), (h2, .inl (ta.1, 64, .inl (fun jx => sp_o ((va_up cel ((hmN w b + t) % 64) (some b)) jx)))), (h3, .inl (ta.1, 40, .inl (fun jx => sp_o ((va_up pos b (some ((hmN w b + t) % 64))) jx))))]) := by
  refine sm_ofW (y := yXI_admit) (cc := cXI_admit) (nL := 2) (ret := none) (by decide) (Nat.le_of_ble_eq_true rfl) (fun p e s m below meth c G hr hlk hnm => ?_)
  refine sw_eq (ws' := [(h0, .inr (1, [.ref h1, .ref h2, .ref h3, .long gate, .int probed])), (h1, .inr (0, [.ref h4])), (h4, .inl (ta.1, 160, .inl (w))), (h2, .inl (ta.1, 64, .inl (fun jx => sp_o (cel jx)))), (h3, .inl (ta.1, 40, .inl (fun jx => sp_o (pos jx))))]) (lv2 := [(0, .ref h0), (1, .int (nI b))]) (pc2 := 0) (st2 := []) rfl ?_
  refine sw_aload_n G dXI_admit_0 rfl 0 rfl ?_
  refine sw_dup G dXI_admit_1 rfl ?_
  refine sw_get (C := RXI) (T := TXI) (ref := RXI) (N := 5) G inXI 0 rfl rfl 3 (by decide) wd_49 rfl rfl dXI_admit_2 ?_
  refine sw_aload_n G dXI_admit_5 rfl 0 rfl ?_
  refine sw_get (C := RXI) (T := TXI) (ref := RXI) (N := 5) G inXI 0 rfl rfl 0 (by decide) wd_46 rfl rfl dXI_admit_6 ?_
  refine sw_iload_n G dXI_admit_9 rfl 1 rfl ?_
  refine sw_readV (As := [.int (nI b)]) (rest := [.long gate, .ref h0]) G (c_XD_bitsOf l D ta h1 h4 w b (by omega)) (cwV 1 G.2.2.2.2.1 (sb_goodV wd_194 wd_195 wd_196 wd_2 wd_197) rfl rfl rfl (by decide +kernel) ⟨Nat.le_of_ble_eq_true rfl, Nat.le_of_ble_eq_true rfl⟩) 1 0 rfl rfl rfl rfl (Nat.le_of_ble_eq_true rfl) dXI_admit_10 ⟨Nat.le_of_ble_eq_true rfl, Nat.le_of_ble_eq_true rfl⟩ [1, 2] rfl (by decide) ?_
  refine sw_eq (ws' := [(h0, .inr (1, [.ref h1, .ref h2, .ref h3, .long gate, .int probed])), (h1, .inr (0, [.ref h4])), (h4, .inl (ta.1, 160, .inl (w))), (h2, .inl (ta.1, 64, .inl (fun jx => sp_o (cel jx)))), (h3, .inl (ta.1, 40, .inl (fun jx => sp_o (pos jx))))]) (lv2 := [(0, .ref h0), (1, .int (nI b))]) (pc2 := 13) (st2 := [.long (gb_x w (b * 4)), .long gate, .ref h0]) rfl ?_
  refine sw_lor (x := gate) (y := gb_x w (b * 4)) (v := gate ||| (gb_x w (b * 4))) G dXI_admit_13 (rfl) ?_
  refine sw_put (ty := .long) (v := .long (gate ||| (gb_x w (b * 4)))) (C := RXI) (T := TXI) (ref := RXI) (N := 5) G inXI tyXI tyXI_ok nmXI 0 rfl rfl 3 (by decide) wd_49 rfl rfl (by decide +kernel) (rfl) (rfl) (Nat.le_of_ble_eq_true rfl) dXI_admit_14 (fs' := [.ref h1, .ref h2, .ref h3, .long (gate ||| (gb_x w (b * 4))), .int probed]) rfl (ws' := [(h0, .inr (1, [.ref h1, .ref h2, .ref h3, .long (gate ||| (gb_x w (b * 4))), .int probed])), (h1, .inr (0, [.ref h4])), (h4, .inl (ta.1, 160, .inl (w))), (h2, .inl (ta.1, 64, .inl (fun jx => sp_o (cel jx)))), (h3, .inl (ta.1, 40, .inl (fun jx => sp_o (pos jx))))]) rfl ?_
  refine sw_aload_n G dXI_admit_17 rfl 0 rfl ?_
  refine sw_iload_n G dXI_admit_18 rfl 1 rfl ?_
  refine sw_callV (As := [.int (nI b)]) (rest := []) G (c_XI_putIn l D ta h0 h1 h2 h3 h4 w cel pos (gate ||| (gb_x w (b * 4))) probed b t (hb) (ht) (hfree) (hocc) (hbd)) (cwV 1 G.2.2.2.2.1 (sb_goodV wd_204 wd_206 ws_XI_putIn wd_3 wd_207) rfl rfl rfl (by decide +kernel) ⟨Nat.le_of_ble_eq_true rfl, Nat.le_of_ble_eq_true rfl⟩) 0 1 rfl rfl rfl rfl (Nat.le_of_ble_eq_true rfl) dXI_admit_19 ⟨Nat.le_of_ble_eq_true rfl, Nat.le_of_ble_eq_true rfl⟩ [0, 1, 2, 3, 4] [] rfl (wr := []) rfl (by decide) (by decide) (by decide) (fun _ _ => ?_)
  refine sw_eq (ws' := [(h0, .inr (1, [.ref h1, .ref h2, .ref h3, .long ((gate ||| (gb_x w (b * 4)))), .int probed])), (h1, .inr (0, [.ref h4])), (h4, .inl (ta.1, 160, .inl (w))), (h2, .inl (ta.1, 64, .inl (fun jx => sp_o ((va_up cel ((hmN w b + t) % 64) (some b)) jx)))), (h3, .inl (ta.1, 40, .inl (fun jx => sp_o ((va_up pos b (some ((hmN w b + t) % 64))) jx))))]) (lv2 := [(0, .ref h0), (1, .int (nI b))]) (pc2 := 22) (st2 := []) rfl ?_
  exact sw_vret G hr hlk () trivial (rfl) [0, 1, 2, 3, 4] (by decide) rfl rfl dXI_admit_22

set_option maxRecDepth 100000 in
set_option maxHeartbeats 4000000 in
theorem c_XI_putInAnewBehind (l : Launch) (D : va_G) (ta : ClassId × ClassId × ClassId) (h0 : Nat) (h1 : Nat) (h2 : Nat) (h3 : Nat) (h4 : Nat) (w : Nat → Int32) (cel : Nat → Option Nat) (pos : Nat → Option Nat) (gate : Int64) (probed : Int32) (hole : Nat) (s0 : Nat) (cel0 : Nat → Option Nat) (hh : hole < 64) (h1s : 1 ≤ s0) (h63 : s0 ≤ 63) (hpi : ix_pi cel0 (hmN w)) (hemp : cel0 ((hole + s0) % 64) = none) (hrun : ∀ t, 1 ≤ t → t < s0 → cel0 ((hole + t) % 64) ≠ none) (hI : ix_I (hmN w) cel0 hole s0 1 (cel, pos)) (hbd : ∀ j b, j < 64 → cel0 j = some b → b < 40) : sm (S := Unit) l yXI_putInAnewBehind wsXI_putInAnewBehind ({ frames := 3, cells := 0, slots := 0, locals := 68 }) D ta [.ref h0, .int (nI hole)] [(h0, .inr (1, [.ref h1, .ref h2, .ref h3, .long gate, .int probed])), (h1, .inr (0, [.ref h4])), (h4, .inl (ta.1, 160, .inl (w))), (h2, .inl (ta.1, 64, .inl (fun jx => sp_o (cel jx)))), (h3, .inl (ta.1, 40, .inl (fun jx => sp_o (pos jx))))] (fun _ => True) (fun _ => none) (fun _ => [(h0, .inr (1, [.ref h1, .ref h2, .ref h3, .long gate, .int probed])), (h1, .inr (0, [.ref h4])), (h4, .inl (ta.1, 160, .inl (w))), (h2, .inl (ta.1, 64, .inl (fun jx => sp_o (((ix_sh (hmN w) hole 63 1 (cel, pos)).1) jx)))), (h3, .inl (ta.1, 40, .inl (fun jx => sp_o (((ix_sh (hmN w) hole 63 1 (cel, pos)).2) jx))))]) := by
  refine sm_ofW (y := yXI_putInAnewBehind) (cc := cXI_putInAnewBehind) (nL := 5) (ret := none) (by decide) (Nat.le_of_ble_eq_true rfl) (fun p e s m below meth c G hr hlk hnm => ?_)
  refine sw_eq (ws' := [(h0, .inr (1, [.ref h1, .ref h2, .ref h3, .long gate, .int probed])), (h1, .inr (0, [.ref h4])), (h4, .inl (ta.1, 160, .inl (w))), (h2, .inl (ta.1, 64, .inl (fun jx => sp_o (cel jx)))), (h3, .inl (ta.1, 40, .inl (fun jx => sp_o (pos jx))))]) (lv2 := [(0, .ref h0), (1, .int (nI hole))]) (pc2 := 0) (st2 := []) rfl ?_
  refine sw_iconst (v := nI 1) G dXI_putInAnewBehind_0 (by decide) ?_
  refine sw_istore_n G dXI_putInAnewBehind_1 rfl (by decide) (lv' := [(2, .int (nI 1)), (0, .ref h0), (1, .int (nI hole))]) rfl ?_
  refine sw_z ?_
  refine sw_lv [1, 2, 0] (lv' := [(0, .ref h0), (1, .int (nI hole)), (2, .int (nI 1))]) rfl ?_
  have L2 : ∀ (NN : Nat) (s1 : Nat) (x : (Nat → Option Nat) × (Nat → Option Nat)), s0 - s1 < NN → (1 ≤ s1) → (s1 ≤ s0) → (ix_I (hmN w) cel0 hole s0 s1 x) → (ix_sh (hmN w) hole (64 - s1) s1 x = ix_sh (hmN w) hole 63 1 (cel, pos)) → sw p l e ({ frames := 3, cells := 0, slots := 0, locals := 68 }) s m ([.ref h0, .int (nI hole)]).toArray below meth c 5 D (va_A [(h0, .inr (1, [.ref h1, .ref h2, .ref h3, .long gate, .int probed])), (h1, .inr (0, [.ref h4])), (h4, .inl (ta.1, 160, .inl (w))), (h2, .inl (ta.1, 64, .inl (fun jx => sp_o (cel jx)))), (h3, .inl (ta.1, 40, .inl (fun jx => sp_o (pos jx))))] s.heap.size) (MQ below (sb_Q D ta [(h0, .inr (1, [.ref h1, .ref h2, .ref h3, .long gate, .int probed])), (h1, .inr (0, [.ref h4])), (h4, .inl (ta.1, 160, .inl (w))), (h2, .inl (ta.1, 64, .inl (fun jx => sp_o (cel jx)))), (h3, .inl (ta.1, 40, .inl (fun jx => sp_o (pos jx))))] s.heap.size (fun _ : Unit => True) (fun _ => none) (fun _ => [(h0, .inr (1, [.ref h1, .ref h2, .ref h3, .long gate, .int probed])), (h1, .inr (0, [.ref h4])), (h4, .inl (ta.1, 160, .inl (w))), (h2, .inl (ta.1, 64, .inl (fun jx => sp_o (((ix_sh (hmN w) hole 63 1 (cel, pos)).1) jx)))), (h3, .inl (ta.1, 40, .inl (fun jx => sp_o (((ix_sh (hmN w) hole 63 1 (cel, pos)).2) jx))))])) ([.ref h0, .int (nI hole)]).toArray s 0 0 (va_A [(h0, .inr (1, [.ref h1, .ref h2, .ref h3, .long gate, .int probed])), (h1, .inr (0, [.ref h4])), (h4, .inl (ta.1, 160, .inl (w))), (h2, .inl (ta.1, 64, .inl (fun jx => sp_o (cel jx)))), (h3, .inl (ta.1, 40, .inl (fun jx => sp_o (pos jx))))] s.heap.size)) false 0 0 [(h0, .inr (1, [.ref h1, .ref h2, .ref h3, .long gate, .int probed])), (h1, .inr (0, [.ref h4])), (h4, .inl (ta.1, 160, .inl (w))), (h2, .inl (ta.1, 64, .inl (fun jx => sp_o (x.1 jx)))), (h3, .inl (ta.1, 40, .inl (fun jx => sp_o (x.2 jx))))] [(0, .ref h0), (1, .int (nI hole)), (2, .int (nI s1))] 2 [] := by
    intro NN
    induction NN with
    | zero => intro s1 x hNN; exact absurd hNN (Nat.not_lt_zero _)
    | succ NN ih2 =>
      intro s1 x hNN hs1 hs2 hIx hfin
      refine sw_iload_n G dXI_putInAnewBehind_2 rfl 2 rfl ?_
      refine sw_bipush (v := nI 64) G dXI_putInAnewBehind_3 (by decide) ?_
      refine sw_icmpN_ge (a := s1) (b := 64) (tgt := 49) G dXI_putInAnewBehind_5 (by decide) (by omega) (by omega) (fun h5 => ?_) (fun h5 => ?_)
      · exact absurd h5 (by omega)
      · rcases hcx : x.1 ((hole + s1) % 64) with _ | b
        · refine sw_iload_n G dXI_putInAnewBehind_8 rfl 1 rfl ?_
          refine sw_iload_n G dXI_putInAnewBehind_9 rfl 2 rfl ?_
          refine sw_iadd (x := nI hole) (y := nI s1) (v := nI (hole + s1)) G dXI_putInAnewBehind_10 (sp_add _ _) ?_
          refine sw_bipush (v := nI 63) G dXI_putInAnewBehind_11 (by decide) ?_
          refine sw_iand (x := nI (hole + s1)) (y := nI 63) (v := nI ((hole + s1) % 64)) G dXI_putInAnewBehind_13 (pk_andN (by omega) 6 (by decide)) ?_
          refine sw_istore_n G dXI_putInAnewBehind_14 rfl (by decide) (lv' := [(3, .int (nI ((hole + s1) % 64))), (0, .ref h0), (1, .int (nI hole)), (2, .int (nI s1))]) rfl ?_
          refine sw_aload_n G dXI_putInAnewBehind_15 rfl 1 rfl ?_
          refine sw_get (C := RXI) (T := TXI) (ref := RXI) (N := 5) G inXI 0 rfl rfl 1 (by decide) wd_47 rfl rfl dXI_putInAnewBehind_16 ?_
          refine sw_iload_n G dXI_putInAnewBehind_19 rfl 0 rfl ?_
          refine sw_ialdN (j := (hole + s1) % 64) (v := -1) G 3 rfl (by omega) (by decide) (by rw [hcx]; rfl) dXI_putInAnewBehind_20 ?_
          refine sw_istore G dXI_putInAnewBehind_21 (by decide) (lv' := [(4, .int (-1)), (3, .int (nI ((hole + s1) % 64))), (0, .ref h0), (1, .int (nI hole)), (2, .int (nI s1))]) rfl ?_
          refine sw_iload G dXI_putInAnewBehind_23 0 rfl ?_
          refine sw_iconst (v := -1) G dXI_putInAnewBehind_25 (by decide) ?_
          refine sw_icmp_ne (x := -1) (y := -1) (tgt := 30) G dXI_putInAnewBehind_26 (by decide) (fun h26 => ?_) (fun h26 => ?_)
          · exact absurd rfl h26
          · refine sw_sub [0, 1, 2, 3, 4] (by decide) (ws' := [(h0, .inr (1, [.ref h1, .ref h2, .ref h3, .long gate, .int probed])), (h1, .inr (0, [.ref h4])), (h4, .inl (ta.1, 160, .inl (w))), (h2, .inl (ta.1, 64, .inl (fun jx => sp_o (x.1 jx)))), (h3, .inl (ta.1, 40, .inl (fun jx => sp_o (x.2 jx))))]) rfl rfl ?_
            refine sw_eq (ws' := [(h0, .inr (1, [.ref h1, .ref h2, .ref h3, .long gate, .int probed])), (h1, .inr (0, [.ref h4])), (h4, .inl (ta.1, 160, .inl (w))), (h2, .inl (ta.1, 64, .inl (fun jx => sp_o (((ix_sh (hmN w) hole 63 1 (cel, pos)).1) jx)))), (h3, .inl (ta.1, 40, .inl (fun jx => sp_o (((ix_sh (hmN w) hole 63 1 (cel, pos)).2) jx))))]) (lv2 := [(4, .int (-1)), (3, .int (nI ((hole + s1) % 64))), (0, .ref h0), (1, .int (nI hole)), (2, .int (nI s1))]) (pc2 := 29) (st2 := []) (by rw [← hfin, ix_sh_none hcx]) ?_
            exact sw_vret G hr hlk () trivial (rfl) [0, 1, 2, 3, 4] (by decide) rfl rfl dXI_putInAnewBehind_29
        · refine sw_iload_n G dXI_putInAnewBehind_8 rfl 1 rfl ?_
          obtain ⟨j0, hj0, hc0, -⟩ := hIx.2.2.2.2 _ _ (Nat.mod_lt _ (by decide)) hcx
          have hb := hbd _ _ hj0 hc0
          have hlt : s1 < s0 := by
            rcases Nat.lt_or_ge s1 s0 with h | h
            · exact h
            · have e : s1 = s0 := by omega
              have h2 := hIx.1 s1 (Nat.le_refl _) hs2
              rw [hcx, e, hemp] at h2
              cases h2
          obtain ⟨q1, q2, q3⟩ := ix_s_spec (ix_own (cel := x.1) (Nat.mod_lt (hole + s1) (by decide)) (hmN_lt w b))
          refine sw_iload_n G dXI_putInAnewBehind_9 rfl 2 rfl ?_
          refine sw_iadd (x := nI hole) (y := nI s1) (v := nI (hole + s1)) G dXI_putInAnewBehind_10 (sp_add _ _) ?_
          refine sw_bipush (v := nI 63) G dXI_putInAnewBehind_11 (by decide) ?_
          refine sw_iand (x := nI (hole + s1)) (y := nI 63) (v := nI ((hole + s1) % 64)) G dXI_putInAnewBehind_13 (pk_andN (by omega) 6 (by decide)) ?_
          refine sw_istore_n G dXI_putInAnewBehind_14 rfl (by decide) (lv' := [(3, .int (nI ((hole + s1) % 64))), (0, .ref h0), (1, .int (nI hole)), (2, .int (nI s1))]) rfl ?_
          refine sw_aload_n G dXI_putInAnewBehind_15 rfl 1 rfl ?_
          refine sw_get (C := RXI) (T := TXI) (ref := RXI) (N := 5) G inXI 0 rfl rfl 1 (by decide) wd_47 rfl rfl dXI_putInAnewBehind_16 ?_
          refine sw_iload_n G dXI_putInAnewBehind_19 rfl 0 rfl ?_
          refine sw_ialdN (j := (hole + s1) % 64) (v := nI b) G 3 rfl (by omega) (by decide) (by rw [hcx]; rfl) dXI_putInAnewBehind_20 ?_
          refine sw_istore G dXI_putInAnewBehind_21 (by decide) (lv' := [(4, .int (nI b)), (3, .int (nI ((hole + s1) % 64))), (0, .ref h0), (1, .int (nI hole)), (2, .int (nI s1))]) rfl ?_
          refine sw_iload G dXI_putInAnewBehind_23 0 rfl ?_
          refine sw_iconst (v := -1) G dXI_putInAnewBehind_25 (by decide) ?_
          refine sw_icmp_ne (x := nI b) (y := -1) (tgt := 30) G dXI_putInAnewBehind_26 (by decide) (fun h26 => ?_) (fun h26 => ?_)
          · refine sw_aload_n G dXI_putInAnewBehind_30 rfl 2 rfl ?_
            refine sw_get (C := RXI) (T := TXI) (ref := RXI) (N := 5) G inXI 0 rfl rfl 1 (by decide) wd_47 rfl rfl dXI_putInAnewBehind_31 ?_
            refine sw_iload_n G dXI_putInAnewBehind_34 rfl 1 rfl ?_
            refine sw_iconst (v := -1) G dXI_putInAnewBehind_35 (by decide) ?_
            refine sw_iastN (j := (hole + s1) % 64) (x := -1) G 3 rfl (by omega) (by decide) dXI_putInAnewBehind_36 (f' := fun jx => sp_o ((va_up x.1 ((hole + s1) % 64) none) jx)) (sp_upO _ _ none) (ws' := [(h0, .inr (1, [.ref h1, .ref h2, .ref h3, .long gate, .int probed])), (h1, .inr (0, [.ref h4])), (h4, .inl (ta.1, 160, .inl (w))), (h2, .inl (ta.1, 64, .inl (fun jx => sp_o ((va_up x.1 ((hole + s1) % 64) none) jx)))), (h3, .inl (ta.1, 40, .inl (fun jx => sp_o (x.2 jx))))]) rfl ?_
            refine sw_aload_n G dXI_putInAnewBehind_37 rfl 2 rfl ?_
            refine sw_iload G dXI_putInAnewBehind_38 0 rfl ?_
            refine sw_callV (As := [.int (nI b)]) (rest := []) G (c_XI_putIn l D ta h0 h1 h2 h3 h4 w (va_up x.1 ((hole + s1) % 64) none) x.2 gate probed b (ix_s (va_up x.1 ((hole + s1) % 64) none) (hmN w b)) (by omega) (q1) (q2) (q3) (fun j b1 hj hb1 => by
          by_cases hq : j = (hole + s1) % 64
          · subst hq; rw [ix_up_eq] at hb1; cases hb1
          · rw [ix_up_ne hq] at hb1
            obtain ⟨j1, hj1, hc1, -⟩ := hIx.2.2.2.2 _ _ hj hb1
            exact hbd _ _ hj1 hc1)) (cwV 1 G.2.2.2.2.1 (sb_goodV wd_204 wd_206 ws_XI_putIn wd_3 wd_207) rfl rfl rfl (by decide +kernel) ⟨Nat.le_of_ble_eq_true rfl, Nat.le_of_ble_eq_true rfl⟩) 0 1 rfl rfl rfl rfl (Nat.le_of_ble_eq_true rfl) dXI_putInAnewBehind_40 ⟨Nat.le_of_ble_eq_true rfl, Nat.le_of_ble_eq_true rfl⟩ [0, 1, 2, 3, 4] [] rfl (wr := []) rfl (by decide) (by decide) (by decide) (fun _ _ => ?_)
            refine sw_eq (ws' := [(h0, .inr (1, [.ref h1, .ref h2, .ref h3, .long gate, .int probed])), (h1, .inr (0, [.ref h4])), (h4, .inl (ta.1, 160, .inl (w))), (h2, .inl (ta.1, 64, .inl (fun jx => sp_o ((va_up (va_up x.1 ((hole + s1) % 64) none) ((hmN w b + (ix_s (va_up x.1 ((hole + s1) % 64) none) (hmN w b))) % 64) (some b)) jx)))), (h3, .inl (ta.1, 40, .inl (fun jx => sp_o ((va_up x.2 b (some ((hmN w b + (ix_s (va_up x.1 ((hole + s1) % 64) none) (hmN w b))) % 64))) jx))))]) (lv2 := [(4, .int (nI b)), (3, .int (nI ((hole + s1) % 64))), (0, .ref h0), (1, .int (nI hole)), (2, .int (nI s1))]) (pc2 := 43) (st2 := []) rfl ?_
            refine sw_iinc (x := nI s1) (v := nI (s1 + 1)) G dXI_putInAnewBehind_43 (q := 4) rfl (sp_inc _) (by decide) (lv' := [(2, .int (nI (s1 + 1))), (4, .int (nI b)), (3, .int (nI ((hole + s1) % 64))), (0, .ref h0), (1, .int (nI hole))]) rfl ?_
            refine sw_goto (tgt := 2) G dXI_putInAnewBehind_46 (by decide) ?_
            refine sw_lv [3, 4, 0] (lv' := [(0, .ref h0), (1, .int (nI hole)), (2, .int (nI (s1 + 1)))]) rfl ?_
            refine sw_eq (ws' := [(h0, .inr (1, [.ref h1, .ref h2, .ref h3, .long gate, .int probed])), (h1, .inr (0, [.ref h4])), (h4, .inl (ta.1, 160, .inl (w))), (h2, .inl (ta.1, 64, .inl (fun jx => sp_o (((ix_mv (hmN w) hole s1 b x).1) jx)))), (h3, .inl (ta.1, 40, .inl (fun jx => sp_o (((ix_mv (hmN w) hole s1 b x).2) jx))))]) (lv2 := [(0, .ref h0), (1, .int (nI hole)), (2, .int (nI (s1 + 1)))]) (pc2 := 2) (st2 := []) (rfl) ?_
            exact ih2 (s1 + 1) (ix_mv (hmN w) hole s1 b x) (by omega) (by omega) (by omega) (ix_step (fun b => hmN_lt w b) hh hs1 hlt h63 hpi hemp hrun hcx hIx) (by rw [← hfin, show 64 - s1 = (64 - (s1 + 1)) + 1 by omega, ix_sh_some hcx])
          · exact absurd h26 (sp_nI_m1 (by omega))
  exact L2 _ 1 (cel, pos) (Nat.lt_succ_self _) (Nat.le_refl _) (h1s) (hI) (rfl)

set_option maxRecDepth 100000 in
set_option maxHeartbeats 4000000 in
theorem c_XI_takeOutY (l : Launch) (D : va_G) (ta : ClassId × ClassId × ClassId) (h0 : Nat) (h1 : Nat) (h2 : Nat) (h3 : Nat) (h4 : Nat) (w : Nat → Int32) (cel : Nat → Option Nat) (pos : Nat → Option Nat) (gate : Int64) (probed : Int32) (b : Nat) (hole : Nat) (s0 : Nat) (cel0 : Nat → Option Nat) (hb : b < 40) (hpos : pos b = some hole) (hh : hole < 64) (h1s : 1 ≤ s0) (h63 : s0 ≤ 63) (hpi : ix_pi cel0 (hmN w)) (hemp : cel0 ((hole + s0) % 64) = none) (hrun : ∀ t, 1 ≤ t → t < s0 → cel0 ((hole + t) % 64) ≠ none) (hI : ix_I (hmN w) cel0 hole s0 1 (va_up cel hole none, va_up pos b none)) (hbd : ∀ j b, j < 64 → cel0 j = some b → b < 40) : sm (S := Unit) l yXI_takeOut wsXI_takeOut ({ frames := 4, cells := 0, slots := 0, locals := 92 }) D ta [.ref h0, .int (nI b)] [(h0, .inr (1, [.ref h1, .ref h2, .ref h3, .long gate, .int probed])), (h1, .inr (0, [.ref h4])), (h4, .inl (ta.1, 160, .inl (w))), (h2, .inl (ta.1, 64, .inl (fun jx => sp_o (cel jx)))), (h3, .inl (ta.1, 40, .inl (fun jx => sp_o (pos jx))))] (fun _ => True) (fun _ => some (.int (nI 1))) (fun _ => [(h0, .inr (1, [.ref h1, .ref h2, .ref h3, .long gate, .int probed])), (h1, .inr (0, [.ref h4])), (h4, .inl (ta.1, 160, .inl (w))), (h2, .inl (ta.1, 64, .inl (fun jx => sp_o (((ix_sh (hmN w) hole 63 1 (va_up cel hole none, va_up pos b none)).1) jx)))), (h3, .inl (ta.1, 40, .inl (fun jx => sp_o (((ix_sh (hmN w) hole 63 1 (va_up cel hole none, va_up pos b none)).2) jx))))]) := by
  refine sm_ofW (y := yXI_takeOut) (cc := cXI_takeOut) (nL := 3) (ret := (some .boolean)) (by decide) (Nat.le_of_ble_eq_true rfl) (fun p e s m below meth c G hr hlk hnm => ?_)
  refine sw_eq (ws' := [(h0, .inr (1, [.ref h1, .ref h2, .ref h3, .long gate, .int probed])), (h1, .inr (0, [.ref h4])), (h4, .inl (ta.1, 160, .inl (w))), (h2, .inl (ta.1, 64, .inl (fun jx => sp_o (cel jx)))), (h3, .inl (ta.1, 40, .inl (fun jx => sp_o (pos jx))))]) (lv2 := [(0, .ref h0), (1, .int (nI b))]) (pc2 := 0) (st2 := []) rfl ?_
  refine sw_aload_n G dXI_takeOut_0 rfl 0 rfl ?_
  refine sw_get (C := RXI) (T := TXI) (ref := RXI) (N := 5) G inXI 0 rfl rfl 2 (by decide) wd_48 rfl rfl dXI_takeOut_1 ?_
  refine sw_iload_n G dXI_takeOut_4 rfl 1 rfl ?_
  refine sw_ialdN (j := b) (v := nI hole) G 4 rfl (by omega) (by decide) (by rw [hpos]; rfl) dXI_takeOut_5 ?_
  refine sw_istore_n G dXI_takeOut_6 rfl (by decide) (lv' := [(2, .int (nI hole)), (0, .ref h0), (1, .int (nI b))]) rfl ?_
  refine sw_iload_n G dXI_takeOut_7 rfl 0 rfl ?_
  refine sw_iconst (v := -1) G dXI_takeOut_8 (by decide) ?_
  refine sw_icmp_ne (x := nI hole) (y := -1) (tgt := 14) G dXI_takeOut_9 (by decide) (fun h9 => ?_) (fun h9 => ?_)
  · refine sw_aload_n G dXI_takeOut_14 rfl 1 rfl ?_
    refine sw_get (C := RXI) (T := TXI) (ref := RXI) (N := 5) G inXI 0 rfl rfl 1 (by decide) wd_47 rfl rfl dXI_takeOut_15 ?_
    refine sw_iload_n G dXI_takeOut_18 rfl 0 rfl ?_
    refine sw_iconst (v := -1) G dXI_takeOut_19 (by decide) ?_
    refine sw_iastN (j := hole) (x := -1) G 3 rfl (by omega) (by decide) dXI_takeOut_20 (f' := fun jx => sp_o ((va_up cel hole none) jx)) (sp_upO _ _ none) (ws' := [(h0, .inr (1, [.ref h1, .ref h2, .ref h3, .long gate, .int probed])), (h1, .inr (0, [.ref h4])), (h4, .inl (ta.1, 160, .inl (w))), (h2, .inl (ta.1, 64, .inl (fun jx => sp_o ((va_up cel hole none) jx)))), (h3, .inl (ta.1, 40, .inl (fun jx => sp_o (pos jx))))]) rfl ?_
    refine sw_aload_n G dXI_takeOut_21 rfl 1 rfl ?_
    refine sw_get (C := RXI) (T := TXI) (ref := RXI) (N := 5) G inXI 0 rfl rfl 2 (by decide) wd_48 rfl rfl dXI_takeOut_22 ?_
    refine sw_iload_n G dXI_takeOut_25 rfl 2 rfl ?_
    refine sw_iconst (v := -1) G dXI_takeOut_26 (by decide) ?_
    refine sw_iastN (j := b) (x := -1) G 4 rfl (by omega) (by decide) dXI_takeOut_27 (f' := fun jx => sp_o ((va_up pos b none) jx)) (sp_upO _ _ none) (ws' := [(h0, .inr (1, [.ref h1, .ref h2, .ref h3, .long gate, .int probed])), (h1, .inr (0, [.ref h4])), (h4, .inl (ta.1, 160, .inl (w))), (h2, .inl (ta.1, 64, .inl (fun jx => sp_o ((va_up cel hole none) jx)))), (h3, .inl (ta.1, 40, .inl (fun jx => sp_o ((va_up pos b none) jx))))]) rfl ?_
    refine sw_aload_n G dXI_takeOut_28 rfl 1 rfl ?_
    refine sw_iload_n G dXI_takeOut_29 rfl 0 rfl ?_
    refine sw_callV (As := [.int (nI hole)]) (rest := []) G (c_XI_putInAnewBehind l D ta h0 h1 h2 h3 h4 w (va_up cel hole none) (va_up pos b none) gate probed hole s0 cel0 (hh) (h1s) (h63) (hpi) (hemp) (hrun) (hI) (hbd)) (cwV 1 G.2.2.2.2.1 (sb_goodV wd_406 wd_408 ws_XI_putInAnewBehind wd_3 wd_409) rfl rfl rfl (by decide +kernel) ⟨Nat.le_of_ble_eq_true rfl, Nat.le_of_ble_eq_true rfl⟩) 0 1 rfl rfl rfl rfl (Nat.le_of_ble_eq_true rfl) dXI_takeOut_30 ⟨Nat.le_of_ble_eq_true rfl, Nat.le_of_ble_eq_true rfl⟩ [0, 1, 2, 3, 4] [] rfl (wr := []) rfl (by decide) (by decide) (by decide) (fun _ _ => ?_)
    refine sw_eq (ws' := [(h0, .inr (1, [.ref h1, .ref h2, .ref h3, .long gate, .int probed])), (h1, .inr (0, [.ref h4])), (h4, .inl (ta.1, 160, .inl (w))), (h2, .inl (ta.1, 64, .inl (fun jx => sp_o (((ix_sh (hmN w) hole 63 1 ((va_up cel hole none), (va_up pos b none))).1) jx)))), (h3, .inl (ta.1, 40, .inl (fun jx => sp_o (((ix_sh (hmN w) hole 63 1 ((va_up cel hole none), (va_up pos b none))).2) jx))))]) (lv2 := [(2, .int (nI hole)), (0, .ref h0), (1, .int (nI b))]) (pc2 := 33) (st2 := []) rfl ?_
    refine sw_iconst (v := nI 1) G dXI_takeOut_33 (by decide) ?_
    exact sw_zret (x := nI 1) G hr hlk () trivial (rfl) (rfl) [0, 1, 2, 3, 4] (by decide) rfl rfl dXI_takeOut_34
  · exact absurd h9 (sp_nI_m1 (by omega))

set_option maxRecDepth 100000 in
set_option maxHeartbeats 4000000 in
theorem c_XI_takeOutN (l : Launch) (D : va_G) (ta : ClassId × ClassId × ClassId) (h0 : Nat) (h1 : Nat) (h2 : Nat) (h3 : Nat) (h4 : Nat) (w : Nat → Int32) (cel : Nat → Option Nat) (pos : Nat → Option Nat) (gate : Int64) (probed : Int32) (b : Nat) (hb : b < 40) (hpos : pos b = none) : sr l yXI_takeOut wsXI_takeOut ({ frames := 0, cells := 0, slots := 0, locals := 0 }) D ta [.ref h0, .int (nI b)] [(h0, .inr (1, [.ref h1, .ref h2, .ref h3, .long gate, .int probed])), (h1, .inr (0, [.ref h4])), (h4, .inl (ta.1, 160, .inl (w))), (h2, .inl (ta.1, 64, .inl (fun jx => sp_o (cel jx)))), (h3, .inl (ta.1, 40, .inl (fun jx => sp_o (pos jx))))] (some (.int (nI 0))) := by
  refine sr_ofW (y := yXI_takeOut) (cc := cXI_takeOut) (nL := 3) (ret := (some .boolean)) (by decide) (Nat.le_of_ble_eq_true rfl) (fun p e s m below meth c G hr hlk hnm => ?_)
  refine sw_eq (ws' := [(h0, .inr (1, [.ref h1, .ref h2, .ref h3, .long gate, .int probed])), (h1, .inr (0, [.ref h4])), (h4, .inl (ta.1, 160, .inl (w))), (h2, .inl (ta.1, 64, .inl (fun jx => sp_o (cel jx)))), (h3, .inl (ta.1, 40, .inl (fun jx => sp_o (pos jx))))]) (lv2 := [(0, .ref h0), (1, .int (nI b))]) (pc2 := 0) (st2 := []) rfl ?_
  refine sw_aload_n G dXI_takeOut_0 rfl 0 rfl ?_
  refine sw_get (C := RXI) (T := TXI) (ref := RXI) (N := 5) G inXI 0 rfl rfl 2 (by decide) wd_48 rfl rfl dXI_takeOut_1 ?_
  refine sw_iload_n G dXI_takeOut_4 rfl 1 rfl ?_
  refine sw_ialdN (j := b) (v := -1) G 4 rfl (by omega) (by decide) (by rw [hpos]; rfl) dXI_takeOut_5 ?_
  refine sw_istore_n G dXI_takeOut_6 rfl (by decide) (lv' := [(2, .int (-1)), (0, .ref h0), (1, .int (nI b))]) rfl ?_
  refine sw_iload_n G dXI_takeOut_7 rfl 0 rfl ?_
  refine sw_iconst (v := -1) G dXI_takeOut_8 (by decide) ?_
  refine sw_icmp_ne (x := -1) (y := -1) (tgt := 14) G dXI_takeOut_9 (by decide) (fun h9 => ?_) (fun h9 => ?_)
  · exact absurd rfl h9
  · refine sw_iconst (v := nI 0) G dXI_takeOut_12 (by decide) ?_
    exact sr_zret (x := nI 0) G hr hlk (rfl) (rfl) dXI_takeOut_13
