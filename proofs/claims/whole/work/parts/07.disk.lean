abbrev cXD_read : ByteArray := prog_3_method_2_code
abbrev yXD_read : MethodName := ⟨RXD, "read", "(II)I"⟩
abbrev wsXD_read : List Cond := .code yXD_read cXD_read 3 (some .int) :: sbT
theorem dXD_read_0 : decode cXD_read 0 = .ok (.aload_n 0, 1) := by decide +kernel
theorem dXD_read_1 : decode cXD_read 1 = .ok (.getfield 9, 3) := by decide +kernel
theorem dXD_read_4 : decode cXD_read 4 = .ok (.iload_n 1, 1) := by decide +kernel
theorem dXD_read_5 : decode cXD_read 5 = .ok (.iconst 4, 1) := by decide +kernel
theorem dXD_read_6 : decode cXD_read 6 = .ok (.imul, 1) := by decide +kernel
theorem dXD_read_7 : decode cXD_read 7 = .ok (.iload_n 2, 1) := by decide +kernel
theorem dXD_read_8 : decode cXD_read 8 = .ok (.iadd, 1) := by decide +kernel
theorem dXD_read_9 : decode cXD_read 9 = .ok (.iaload, 1) := by decide +kernel
theorem dXD_read_10 : decode cXD_read 10 = .ok (.ireturn, 1) := by decide +kernel
abbrev cXD_write : ByteArray := prog_3_method_3_code
abbrev yXD_write : MethodName := ⟨RXD, "write", "(I[I)V"⟩
abbrev wsXD_write : List Cond := .code yXD_write cXD_write 3 none :: sbT
theorem dXD_write_0 : decode cXD_write 0 = .ok (.aload_n 2, 1) := by decide +kernel
theorem dXD_write_1 : decode cXD_write 1 = .ok (.iconst 0, 1) := by decide +kernel
theorem dXD_write_2 : decode cXD_write 2 = .ok (.aload_n 0, 1) := by decide +kernel
theorem dXD_write_3 : decode cXD_write 3 = .ok (.getfield 9, 3) := by decide +kernel
theorem dXD_write_6 : decode cXD_write 6 = .ok (.iload_n 1, 1) := by decide +kernel
theorem dXD_write_7 : decode cXD_write 7 = .ok (.iconst 4, 1) := by decide +kernel
theorem dXD_write_8 : decode cXD_write 8 = .ok (.imul, 1) := by decide +kernel
theorem dXD_write_9 : decode cXD_write 9 = .ok (.iconst 4, 1) := by decide +kernel
theorem dXD_write_10 : decode cXD_write 10 = .ok (.invokestatic 15, 3) := by decide +kernel
theorem dXD_write_13 : decode cXD_write 13 = .ok (.return_, 1) := by decide +kernel
abbrev cXD_holds : ByteArray := prog_3_method_4_code
abbrev yXD_holds : MethodName := ⟨RXD, "holds", "(I[I)Z"⟩
abbrev wsXD_holds : List Cond := .code yXD_holds cXD_holds 4 (some .boolean) :: sbT
theorem dXD_holds_0 : decode cXD_holds 0 = .ok (.iconst 0, 1) := by decide +kernel
theorem dXD_holds_1 : decode cXD_holds 1 = .ok (.istore_n 3, 1) := by decide +kernel
theorem dXD_holds_2 : decode cXD_holds 2 = .ok (.iload_n 3, 1) := by decide +kernel
theorem dXD_holds_3 : decode cXD_holds 3 = .ok (.iconst 4, 1) := by decide +kernel
theorem dXD_holds_4 : decode cXD_holds 4 = .ok (.if_icmp .ge 23, 3) := by decide +kernel
theorem dXD_holds_7 : decode cXD_holds 7 = .ok (.aload_n 0, 1) := by decide +kernel
theorem dXD_holds_8 : decode cXD_holds 8 = .ok (.iload_n 1, 1) := by decide +kernel
theorem dXD_holds_9 : decode cXD_holds 9 = .ok (.iload_n 3, 1) := by decide +kernel
theorem dXD_holds_10 : decode cXD_holds 10 = .ok (.invokevirtual 21, 3) := by decide +kernel
theorem dXD_holds_13 : decode cXD_holds 13 = .ok (.aload_n 2, 1) := by decide +kernel
theorem dXD_holds_14 : decode cXD_holds 14 = .ok (.iload_n 3, 1) := by decide +kernel
theorem dXD_holds_15 : decode cXD_holds 15 = .ok (.iaload, 1) := by decide +kernel
theorem dXD_holds_16 : decode cXD_holds 16 = .ok (.if_icmp .eq 5, 3) := by decide +kernel
theorem dXD_holds_19 : decode cXD_holds 19 = .ok (.iconst 0, 1) := by decide +kernel
theorem dXD_holds_20 : decode cXD_holds 20 = .ok (.ireturn, 1) := by decide +kernel
theorem dXD_holds_21 : decode cXD_holds 21 = .ok (.iinc 3 1, 3) := by decide +kernel
theorem dXD_holds_24 : decode cXD_holds 24 = .ok (.goto (-22), 3) := by decide +kernel
theorem dXD_holds_27 : decode cXD_holds 27 = .ok (.iconst 1, 1) := by decide +kernel
theorem dXD_holds_28 : decode cXD_holds 28 = .ok (.ireturn, 1) := by decide +kernel
abbrev cXD_homeOf : ByteArray := prog_3_method_5_code
abbrev yXD_homeOf : MethodName := ⟨RXD, "homeOf", "(I)I"⟩
abbrev wsXD_homeOf : List Cond := .code yXD_homeOf cXD_homeOf 2 (some .int) :: sbT
theorem dXD_homeOf_0 : decode cXD_homeOf 0 = .ok (.aload_n 0, 1) := by decide +kernel
theorem dXD_homeOf_1 : decode cXD_homeOf 1 = .ok (.getfield 9, 3) := by decide +kernel
theorem dXD_homeOf_4 : decode cXD_homeOf 4 = .ok (.iload_n 1, 1) := by decide +kernel
theorem dXD_homeOf_5 : decode cXD_homeOf 5 = .ok (.iconst 4, 1) := by decide +kernel
theorem dXD_homeOf_6 : decode cXD_homeOf 6 = .ok (.imul, 1) := by decide +kernel
theorem dXD_homeOf_7 : decode cXD_homeOf 7 = .ok (.invokestatic 25, 3) := by decide +kernel
theorem dXD_homeOf_10 : decode cXD_homeOf 10 = .ok (.bipush 63, 2) := by decide +kernel
theorem dXD_homeOf_12 : decode cXD_homeOf 12 = .ok (.iand, 1) := by decide +kernel
theorem dXD_homeOf_13 : decode cXD_homeOf 13 = .ok (.ireturn, 1) := by decide +kernel
abbrev cXD_bitsOf : ByteArray := prog_3_method_6_code
abbrev yXD_bitsOf : MethodName := ⟨RXD, "bitsOf", "(I)J"⟩
abbrev wsXD_bitsOf : List Cond := .code yXD_bitsOf cXD_bitsOf 2 (some .long) :: sbT
theorem dXD_bitsOf_0 : decode cXD_bitsOf 0 = .ok (.aload_n 0, 1) := by decide +kernel
theorem dXD_bitsOf_1 : decode cXD_bitsOf 1 = .ok (.getfield 9, 3) := by decide +kernel
theorem dXD_bitsOf_4 : decode cXD_bitsOf 4 = .ok (.iload_n 1, 1) := by decide +kernel
theorem dXD_bitsOf_5 : decode cXD_bitsOf 5 = .ok (.iconst 4, 1) := by decide +kernel
theorem dXD_bitsOf_6 : decode cXD_bitsOf 6 = .ok (.imul, 1) := by decide +kernel
theorem dXD_bitsOf_7 : decode cXD_bitsOf 7 = .ok (.invokestatic 31, 3) := by decide +kernel
theorem dXD_bitsOf_10 : decode cXD_bitsOf 10 = .ok (.lreturn, 1) := by decide +kernel
abbrev cXA_fill : ByteArray := prog_19_method_103_code
abbrev yXA_fill : MethodName := ⟨RXA, "fill", "([II)V"⟩
abbrev wsXA_fill : List Cond := .code yXA_fill cXA_fill 4 none :: sbT
theorem dXA_fill_0 : decode cXA_fill 0 = .ok (.iconst 0, 1) := by decide +kernel
theorem dXA_fill_1 : decode cXA_fill 1 = .ok (.istore_n 2, 1) := by decide +kernel
theorem dXA_fill_2 : decode cXA_fill 2 = .ok (.aload_n 0, 1) := by decide +kernel
theorem dXA_fill_3 : decode cXA_fill 3 = .ok (.arraylength, 1) := by decide +kernel
theorem dXA_fill_4 : decode cXA_fill 4 = .ok (.istore_n 3, 1) := by decide +kernel
theorem dXA_fill_5 : decode cXA_fill 5 = .ok (.iload_n 2, 1) := by decide +kernel
theorem dXA_fill_6 : decode cXA_fill 6 = .ok (.iload_n 3, 1) := by decide +kernel
theorem dXA_fill_7 : decode cXA_fill 7 = .ok (.if_icmp .ge 13, 3) := by decide +kernel
theorem dXA_fill_10 : decode cXA_fill 10 = .ok (.aload_n 0, 1) := by decide +kernel
theorem dXA_fill_11 : decode cXA_fill 11 = .ok (.iload_n 2, 1) := by decide +kernel
theorem dXA_fill_12 : decode cXA_fill 12 = .ok (.iload_n 1, 1) := by decide +kernel
theorem dXA_fill_13 : decode cXA_fill 13 = .ok (.iastore, 1) := by decide +kernel
theorem dXA_fill_14 : decode cXA_fill 14 = .ok (.iinc 2 1, 3) := by decide +kernel
theorem dXA_fill_17 : decode cXA_fill 17 = .ok (.goto (-12), 3) := by decide +kernel
theorem dXA_fill_20 : decode cXA_fill 20 = .ok (.return_, 1) := by decide +kernel
abbrev cXG_bitCount : ByteArray := prog_14_method_50_code
abbrev yXG_bitCount : MethodName := ⟨RXG, "bitCount", "(J)I"⟩
abbrev wsXG_bitCount : List Cond := .code yXG_bitCount cXG_bitCount 2 (some .int) :: sbT
theorem dXG_bitCount_0 : decode cXG_bitCount 0 = .ok (.lload_n 0, 1) := by decide +kernel
theorem dXG_bitCount_1 : decode cXG_bitCount 1 = .ok (.lload_n 0, 1) := by decide +kernel
theorem dXG_bitCount_2 : decode cXG_bitCount 2 = .ok (.iconst 1, 1) := by decide +kernel
theorem dXG_bitCount_3 : decode cXG_bitCount 3 = .ok (.lushr, 1) := by decide +kernel
theorem dXG_bitCount_4 : decode cXG_bitCount 4 = .ok (.ldc2_w 314, 3) := by decide +kernel
theorem dXG_bitCount_7 : decode cXG_bitCount 7 = .ok (.land, 1) := by decide +kernel
theorem dXG_bitCount_8 : decode cXG_bitCount 8 = .ok (.lsub, 1) := by decide +kernel
theorem dXG_bitCount_9 : decode cXG_bitCount 9 = .ok (.lstore_n 0, 1) := by decide +kernel
theorem dXG_bitCount_10 : decode cXG_bitCount 10 = .ok (.lload_n 0, 1) := by decide +kernel
theorem dXG_bitCount_11 : decode cXG_bitCount 11 = .ok (.ldc2_w 316, 3) := by decide +kernel
theorem dXG_bitCount_14 : decode cXG_bitCount 14 = .ok (.land, 1) := by decide +kernel
theorem dXG_bitCount_15 : decode cXG_bitCount 15 = .ok (.lload_n 0, 1) := by decide +kernel
theorem dXG_bitCount_16 : decode cXG_bitCount 16 = .ok (.iconst 2, 1) := by decide +kernel
theorem dXG_bitCount_17 : decode cXG_bitCount 17 = .ok (.lushr, 1) := by decide +kernel
theorem dXG_bitCount_18 : decode cXG_bitCount 18 = .ok (.ldc2_w 316, 3) := by decide +kernel
theorem dXG_bitCount_21 : decode cXG_bitCount 21 = .ok (.land, 1) := by decide +kernel
theorem dXG_bitCount_22 : decode cXG_bitCount 22 = .ok (.ladd, 1) := by decide +kernel
theorem dXG_bitCount_23 : decode cXG_bitCount 23 = .ok (.lstore_n 0, 1) := by decide +kernel
theorem dXG_bitCount_24 : decode cXG_bitCount 24 = .ok (.lload_n 0, 1) := by decide +kernel
theorem dXG_bitCount_25 : decode cXG_bitCount 25 = .ok (.lload_n 0, 1) := by decide +kernel
theorem dXG_bitCount_26 : decode cXG_bitCount 26 = .ok (.iconst 4, 1) := by decide +kernel
theorem dXG_bitCount_27 : decode cXG_bitCount 27 = .ok (.lushr, 1) := by decide +kernel
theorem dXG_bitCount_28 : decode cXG_bitCount 28 = .ok (.ladd, 1) := by decide +kernel
theorem dXG_bitCount_29 : decode cXG_bitCount 29 = .ok (.ldc2_w 318, 3) := by decide +kernel
theorem dXG_bitCount_32 : decode cXG_bitCount 32 = .ok (.land, 1) := by decide +kernel
theorem dXG_bitCount_33 : decode cXG_bitCount 33 = .ok (.lstore_n 0, 1) := by decide +kernel
theorem dXG_bitCount_34 : decode cXG_bitCount 34 = .ok (.lload_n 0, 1) := by decide +kernel
theorem dXG_bitCount_35 : decode cXG_bitCount 35 = .ok (.lload_n 0, 1) := by decide +kernel
theorem dXG_bitCount_36 : decode cXG_bitCount 36 = .ok (.bipush 8, 2) := by decide +kernel
theorem dXG_bitCount_38 : decode cXG_bitCount 38 = .ok (.lushr, 1) := by decide +kernel
theorem dXG_bitCount_39 : decode cXG_bitCount 39 = .ok (.ladd, 1) := by decide +kernel
theorem dXG_bitCount_40 : decode cXG_bitCount 40 = .ok (.lstore_n 0, 1) := by decide +kernel
theorem dXG_bitCount_41 : decode cXG_bitCount 41 = .ok (.lload_n 0, 1) := by decide +kernel
theorem dXG_bitCount_42 : decode cXG_bitCount 42 = .ok (.lload_n 0, 1) := by decide +kernel
theorem dXG_bitCount_43 : decode cXG_bitCount 43 = .ok (.bipush 16, 2) := by decide +kernel
theorem dXG_bitCount_45 : decode cXG_bitCount 45 = .ok (.lushr, 1) := by decide +kernel
theorem dXG_bitCount_46 : decode cXG_bitCount 46 = .ok (.ladd, 1) := by decide +kernel
theorem dXG_bitCount_47 : decode cXG_bitCount 47 = .ok (.lstore_n 0, 1) := by decide +kernel
theorem dXG_bitCount_48 : decode cXG_bitCount 48 = .ok (.lload_n 0, 1) := by decide +kernel
theorem dXG_bitCount_49 : decode cXG_bitCount 49 = .ok (.lload_n 0, 1) := by decide +kernel
theorem dXG_bitCount_50 : decode cXG_bitCount 50 = .ok (.bipush 32, 2) := by decide +kernel
theorem dXG_bitCount_52 : decode cXG_bitCount 52 = .ok (.lushr, 1) := by decide +kernel
theorem dXG_bitCount_53 : decode cXG_bitCount 53 = .ok (.ladd, 1) := by decide +kernel
theorem dXG_bitCount_54 : decode cXG_bitCount 54 = .ok (.lstore_n 0, 1) := by decide +kernel
theorem dXG_bitCount_55 : decode cXG_bitCount 55 = .ok (.lload_n 0, 1) := by decide +kernel
theorem dXG_bitCount_56 : decode cXG_bitCount 56 = .ok (.l2i, 1) := by decide +kernel
theorem dXG_bitCount_57 : decode cXG_bitCount 57 = .ok (.bipush 127, 2) := by decide +kernel
theorem dXG_bitCount_59 : decode cXG_bitCount 59 = .ok (.iand, 1) := by decide +kernel
theorem dXG_bitCount_60 : decode cXG_bitCount 60 = .ok (.ireturn, 1) := by decide +kernel
theorem wd_32 : Cond.fieldLink RXD 9 RXD "words" "[I" ∈ sbT := sb_in 32 (by decide +kernel) rfl
theorem wd_385 : Cond.methodLink RXD 15 arraycopyName ∈ sbT := sb_in 385 (by decide +kernel) rfl
theorem wd_387 : Cond.native arraycopyName ∈ sbT := sb_in 387 (by decide +kernel) rfl
theorem wd_386 : Cond.static arraycopyName ∈ sbT := sb_in 386 (by decide +kernel) rfl
theorem wd_15 : Cond.initialized "java/lang/System" ∈ sbT := sb_in 15 (by decide +kernel) rfl
theorem wd_369 : Cond.methodLink RXD 21 yXD_read ∈ sbT := sb_in 369 (by decide +kernel) rfl
theorem wd_370 : Cond.instanceMethod yXD_read ∈ sbT := sb_in 370 (by decide +kernel) rfl
theorem wd_371 : Cond.selects RXD yXD_read yXD_read ∈ sbT := sb_in 371 (by decide +kernel) rfl
theorem wd_2 : Cond.initialized RXD ∈ sbT := sb_in 2 (by decide +kernel) rfl
theorem wd_372 : Cond.code yXD_read cXD_read 3 (some .int) ∈ sbT := sb_in 372 (by decide +kernel) rfl
theorem wd_212 : Cond.methodLink RXD 25 yXC_fingerprint ∈ sbT := sb_in 212 (by decide +kernel) rfl
theorem wd_198 : Cond.methodLink RXD 31 yXC_bitsOfGate ∈ sbT := sb_in 198 (by decide +kernel) rfl
theorem wd_199 : Cond.static yXC_bitsOfGate ∈ sbT := sb_in 199 (by decide +kernel) rfl
theorem wd_200 : Cond.code yXC_bitsOfGate cXC_bitsOfGate 4 (some .long) ∈ sbT := sb_in 200 (by decide +kernel) rfl
theorem wd_493 : Cond.constantLong RXG 314 6148914691236517205 ∈ sbT := sb_in 493 (by decide +kernel) rfl
theorem wd_494 : Cond.constantLong RXG 316 3689348814741910323 ∈ sbT := sb_in 494 (by decide +kernel) rfl
theorem wd_495 : Cond.constantLong RXG 318 1085102592571150095 ∈ sbT := sb_in 495 (by decide +kernel) rfl
set_option maxRecDepth 100000 in
set_option maxHeartbeats 4000000 in
theorem c_XD_read (l : Launch) (D : va_G) (ta : ClassId × ClassId × ClassId) (h0 : Nat) (h1 : Nat) (w : Nat → Int32) (b : Nat) (i : Nat) (hb : b < 40) (hi : i < 4) : sr l yXD_read wsXD_read ({ frames := 0, cells := 0, slots := 0, locals := 0 }) D ta [.ref h0, .int (nI b), .int (nI i)] [(h0, .inr (0, [.ref h1])), (h1, .inl (ta.1, 160, .inl (w)))] (some (.int (w (b * 4 + i)))) := by
  refine sr_ofW (y := yXD_read) (cc := cXD_read) (nL := 3) (ret := (some .int)) (by decide) (Nat.le_of_ble_eq_true rfl) (fun p e s m below meth c G hr hlk hnm => ?_)
  refine sw_eq (ws' := [(h0, .inr (0, [.ref h1])), (h1, .inl (ta.1, 160, .inl (w)))]) (lv2 := [(0, .ref h0), (1, .int (nI b)), (2, .int (nI i))]) (pc2 := 0) (st2 := []) rfl ?_
  refine sw_aload_n G dXD_read_0 rfl 0 rfl ?_
  refine sw_get (C := RXD) (T := TXD) (ref := RXD) (N := 1) G inXD 0 rfl rfl 0 (by decide) wd_32 rfl rfl dXD_read_1 ?_
  refine sw_iload_n G dXD_read_4 rfl 1 rfl ?_
  refine sw_iconst (v := nI 4) G dXD_read_5 (by decide) ?_
  refine sw_imul (x := nI b) (y := nI 4) (v := nI (b * 4)) G dXD_read_6 (pk_mul _ _) ?_
  refine sw_iload_n G dXD_read_7 rfl 2 rfl ?_
  refine sw_iadd (x := nI (b * 4)) (y := nI i) (v := nI ((b * 4) + i)) G dXD_read_8 (sp_add _ _) ?_
  refine sw_ialdN (j := (b * 4) + i) (v := w ((b * 4) + i)) G 1 rfl (by omega) (by decide) (rfl) dXD_read_9 ?_
  exact sr_iret (x := w ((b * 4) + i)) G hr hlk (rfl) dXD_read_10

set_option maxRecDepth 100000 in
set_option maxHeartbeats 4000000 in
theorem c_XD_write (l : Launch) (D : va_G) (ta : ClassId × ClassId × ClassId) (h0 : Nat) (h1 : Nat) (w : Nat → Int32) (h2 : Nat) (g : Nat → Int32) (b : Nat) (hb : b < 40) : sm (S := Unit) l yXD_write wsXD_write ({ frames := 1, cells := 0, slots := 0, locals := 40 }) D ta [.ref h0, .int (nI b), .ref h2] [(h0, .inr (0, [.ref h1])), (h1, .inl (ta.1, 160, .inl (w))), (h2, .inl (ta.1, 4, .inl (g)))] (fun _ => True) (fun _ => none) (fun _ => [(h0, .inr (0, [.ref h1])), (h1, .inl (ta.1, 160, .inl ((va_cpy g w 0 (b * 4) 4)))), (h2, .inl (ta.1, 4, .inl (g)))]) := by
  refine sm_ofW (y := yXD_write) (cc := cXD_write) (nL := 3) (ret := none) (by decide) (Nat.le_of_ble_eq_true rfl) (fun p e s m below meth c G hr hlk hnm => ?_)
  refine sw_eq (ws' := [(h0, .inr (0, [.ref h1])), (h1, .inl (ta.1, 160, .inl (w))), (h2, .inl (ta.1, 4, .inl (g)))]) (lv2 := [(0, .ref h0), (1, .int (nI b)), (2, .ref h2)]) (pc2 := 0) (st2 := []) rfl ?_
  refine sw_aload_n G dXD_write_0 rfl 2 rfl ?_
  refine sw_iconst (v := nI 0) G dXD_write_1 (by decide) ?_
  refine sw_aload_n G dXD_write_2 rfl 0 rfl ?_
  refine sw_get (C := RXD) (T := TXD) (ref := RXD) (N := 1) G inXD 0 rfl rfl 0 (by decide) wd_32 rfl rfl dXD_write_3 ?_
  refine sw_iload_n G dXD_write_6 rfl 1 rfl ?_
  refine sw_iconst (v := nI 4) G dXD_write_7 (by decide) ?_
  refine sw_imul (x := nI b) (y := nI 4) (v := nI (b * 4)) G dXD_write_8 (pk_mul _ _) ?_
  refine sw_iconst (v := nI 4) G dXD_write_9 (by decide) ?_
  refine sw_copyi (sp := 0) (dp := b * 4) (nn := 4) G wd_385 wd_387 wd_386 wd_15 2 1 rfl rfl (by omega) (by omega) (by decide) (by decide) (by decide) (by decide) dXD_write_10 (ws' := [(h0, .inr (0, [.ref h1])), (h1, .inl (ta.1, 160, .inl ((va_cpy g w 0 (b * 4) 4)))), (h2, .inl (ta.1, 4, .inl (g)))]) rfl ?_
  exact sw_vret G hr hlk () trivial (rfl) [0, 1, 2] (by decide) rfl rfl dXD_write_13

set_option maxRecDepth 100000 in
set_option maxHeartbeats 4000000 in
theorem c_XD_holds (l : Launch) (D : va_G) (ta : ClassId × ClassId × ClassId) (h0 : Nat) (h1 : Nat) (w : Nat → Int32) (h2 : Nat) (g : Nat → Int32) (b : Nat) (hb : b < 40) : sr l yXD_holds wsXD_holds ({ frames := 1, cells := 0, slots := 0, locals := 22 }) D ta [.ref h0, .int (nI b), .ref h2] [(h0, .inr (0, [.ref h1])), (h1, .inl (ta.1, 160, .inl (w))), (h2, .inl (ta.1, 4, .inl (g)))] (some (.int (sp_b (dk_same w b g)))) := by
  refine sr_ofW (y := yXD_holds) (cc := cXD_holds) (nL := 4) (ret := (some .boolean)) (by decide) (Nat.le_of_ble_eq_true rfl) (fun p e s m below meth c G hr hlk hnm => ?_)
  refine sw_eq (ws' := [(h0, .inr (0, [.ref h1])), (h1, .inl (ta.1, 160, .inl (w))), (h2, .inl (ta.1, 4, .inl (g)))]) (lv2 := [(0, .ref h0), (1, .int (nI b)), (2, .ref h2)]) (pc2 := 0) (st2 := []) rfl ?_
  refine sw_iconst (v := nI 0) G dXD_holds_0 (by decide) ?_
  refine sw_istore_n G dXD_holds_1 rfl (by decide) (lv' := [(3, .int (nI 0)), (0, .ref h0), (1, .int (nI b)), (2, .ref h2)]) rfl ?_
  refine sw_iload_n G dXD_holds_2 rfl 0 rfl ?_
  refine sw_iconst (v := nI 4) G dXD_holds_3 (by decide) ?_
  refine sw_icmpN_ge (a := 0) (b := 4) (tgt := 27) G dXD_holds_4 (by decide) (by omega) (by omega) (fun h4 => ?_) (fun h4 => ?_)
  · exact absurd h4 (by decide)
  · refine sw_aload_n G dXD_holds_7 rfl 1 rfl ?_
    refine sw_iload_n G dXD_holds_8 rfl 2 rfl ?_
    refine sw_iload_n G dXD_holds_9 rfl 0 rfl ?_
    refine sw_readV (As := [.int (nI b), .int (nI 0)]) (rest := []) G (c_XD_read l D ta h0 h1 w b 0 (by omega) (by omega)) (cwV 2 G.2.2.2.2.1 (sb_goodV wd_369 wd_370 wd_371 wd_2 wd_372) rfl rfl rfl (by decide +kernel) ⟨Nat.le_of_ble_eq_true rfl, Nat.le_of_ble_eq_true rfl⟩) 0 0 rfl rfl rfl rfl (Nat.le_of_ble_eq_true rfl) dXD_holds_10 ⟨Nat.le_of_ble_eq_true rfl, Nat.le_of_ble_eq_true rfl⟩ [0, 1] rfl (by decide) ?_
    refine sw_eq (ws' := [(h0, .inr (0, [.ref h1])), (h1, .inl (ta.1, 160, .inl (w))), (h2, .inl (ta.1, 4, .inl (g)))]) (lv2 := [(3, .int (nI 0)), (0, .ref h0), (1, .int (nI b)), (2, .ref h2)]) (pc2 := 13) (st2 := [.int (w (b * 4 + 0))]) rfl ?_
    refine sw_aload_n G dXD_holds_13 rfl 3 rfl ?_
    refine sw_iload_n G dXD_holds_14 rfl 0 rfl ?_
    refine sw_ialdN (j := 0) (v := g 0) G 2 rfl (by omega) (by decide) (rfl) dXD_holds_15 ?_
    refine sw_icmp_eq (x := w (b * 4 + 0)) (y := g 0) (tgt := 21) G dXD_holds_16 (by decide) (fun h16 => ?_) (fun h16 => ?_)
    · refine sw_iinc (x := nI 0) (v := nI 1) G dXD_holds_21 (q := 0) rfl (by decide) (by decide) (lv' := [(3, .int (nI 1)), (0, .ref h0), (1, .int (nI b)), (2, .ref h2)]) rfl ?_
      refine sw_goto (tgt := 2) G dXD_holds_24 (by decide) ?_
      refine sw_iload_n G dXD_holds_2 rfl 0 rfl ?_
      refine sw_iconst (v := nI 4) G dXD_holds_3 (by decide) ?_
      refine sw_icmpN_ge (a := 1) (b := 4) (tgt := 27) G dXD_holds_4 (by decide) (by omega) (by omega) (fun h4_1 => ?_) (fun h4_1 => ?_)
      · exact absurd h4_1 (by decide)
      · refine sw_aload_n G dXD_holds_7 rfl 1 rfl ?_
        refine sw_iload_n G dXD_holds_8 rfl 2 rfl ?_
        refine sw_iload_n G dXD_holds_9 rfl 0 rfl ?_
        refine sw_readV (As := [.int (nI b), .int (nI 1)]) (rest := []) G (c_XD_read l D ta h0 h1 w b 1 (by omega) (by omega)) (cwV 2 G.2.2.2.2.1 (sb_goodV wd_369 wd_370 wd_371 wd_2 wd_372) rfl rfl rfl (by decide +kernel) ⟨Nat.le_of_ble_eq_true rfl, Nat.le_of_ble_eq_true rfl⟩) 0 0 rfl rfl rfl rfl (Nat.le_of_ble_eq_true rfl) dXD_holds_10 ⟨Nat.le_of_ble_eq_true rfl, Nat.le_of_ble_eq_true rfl⟩ [0, 1] rfl (by decide) ?_
        refine sw_eq (ws' := [(h0, .inr (0, [.ref h1])), (h1, .inl (ta.1, 160, .inl (w))), (h2, .inl (ta.1, 4, .inl (g)))]) (lv2 := [(3, .int (nI 1)), (0, .ref h0), (1, .int (nI b)), (2, .ref h2)]) (pc2 := 13) (st2 := [.int (w (b * 4 + 1))]) rfl ?_
        refine sw_aload_n G dXD_holds_13 rfl 3 rfl ?_
        refine sw_iload_n G dXD_holds_14 rfl 0 rfl ?_
        refine sw_ialdN (j := 1) (v := g 1) G 2 rfl (by omega) (by decide) (rfl) dXD_holds_15 ?_
        refine sw_icmp_eq (x := w (b * 4 + 1)) (y := g 1) (tgt := 21) G dXD_holds_16 (by decide) (fun h16_1 => ?_) (fun h16_1 => ?_)
        · refine sw_iinc (x := nI 1) (v := nI 2) G dXD_holds_21 (q := 0) rfl (by decide) (by decide) (lv' := [(3, .int (nI 2)), (0, .ref h0), (1, .int (nI b)), (2, .ref h2)]) rfl ?_
          refine sw_goto (tgt := 2) G dXD_holds_24 (by decide) ?_
          refine sw_iload_n G dXD_holds_2 rfl 0 rfl ?_
          refine sw_iconst (v := nI 4) G dXD_holds_3 (by decide) ?_
          refine sw_icmpN_ge (a := 2) (b := 4) (tgt := 27) G dXD_holds_4 (by decide) (by omega) (by omega) (fun h4_2 => ?_) (fun h4_2 => ?_)
          · exact absurd h4_2 (by decide)
          · refine sw_aload_n G dXD_holds_7 rfl 1 rfl ?_
            refine sw_iload_n G dXD_holds_8 rfl 2 rfl ?_
            refine sw_iload_n G dXD_holds_9 rfl 0 rfl ?_
            refine sw_readV (As := [.int (nI b), .int (nI 2)]) (rest := []) G (c_XD_read l D ta h0 h1 w b 2 (by omega) (by omega)) (cwV 2 G.2.2.2.2.1 (sb_goodV wd_369 wd_370 wd_371 wd_2 wd_372) rfl rfl rfl (by decide +kernel) ⟨Nat.le_of_ble_eq_true rfl, Nat.le_of_ble_eq_true rfl⟩) 0 0 rfl rfl rfl rfl (Nat.le_of_ble_eq_true rfl) dXD_holds_10 ⟨Nat.le_of_ble_eq_true rfl, Nat.le_of_ble_eq_true rfl⟩ [0, 1] rfl (by decide) ?_
            refine sw_eq (ws' := [(h0, .inr (0, [.ref h1])), (h1, .inl (ta.1, 160, .inl (w))), (h2, .inl (ta.1, 4, .inl (g)))]) (lv2 := [(3, .int (nI 2)), (0, .ref h0), (1, .int (nI b)), (2, .ref h2)]) (pc2 := 13) (st2 := [.int (w (b * 4 + 2))]) rfl ?_
            refine sw_aload_n G dXD_holds_13 rfl 3 rfl ?_
            refine sw_iload_n G dXD_holds_14 rfl 0 rfl ?_
            refine sw_ialdN (j := 2) (v := g 2) G 2 rfl (by omega) (by decide) (rfl) dXD_holds_15 ?_
            refine sw_icmp_eq (x := w (b * 4 + 2)) (y := g 2) (tgt := 21) G dXD_holds_16 (by decide) (fun h16_2 => ?_) (fun h16_2 => ?_)
            · refine sw_iinc (x := nI 2) (v := nI 3) G dXD_holds_21 (q := 0) rfl (by decide) (by decide) (lv' := [(3, .int (nI 3)), (0, .ref h0), (1, .int (nI b)), (2, .ref h2)]) rfl ?_
              refine sw_goto (tgt := 2) G dXD_holds_24 (by decide) ?_
              refine sw_iload_n G dXD_holds_2 rfl 0 rfl ?_
              refine sw_iconst (v := nI 4) G dXD_holds_3 (by decide) ?_
              refine sw_icmpN_ge (a := 3) (b := 4) (tgt := 27) G dXD_holds_4 (by decide) (by omega) (by omega) (fun h4_3 => ?_) (fun h4_3 => ?_)
              · exact absurd h4_3 (by decide)
              · refine sw_aload_n G dXD_holds_7 rfl 1 rfl ?_
                refine sw_iload_n G dXD_holds_8 rfl 2 rfl ?_
                refine sw_iload_n G dXD_holds_9 rfl 0 rfl ?_
                refine sw_readV (As := [.int (nI b), .int (nI 3)]) (rest := []) G (c_XD_read l D ta h0 h1 w b 3 (by omega) (by omega)) (cwV 2 G.2.2.2.2.1 (sb_goodV wd_369 wd_370 wd_371 wd_2 wd_372) rfl rfl rfl (by decide +kernel) ⟨Nat.le_of_ble_eq_true rfl, Nat.le_of_ble_eq_true rfl⟩) 0 0 rfl rfl rfl rfl (Nat.le_of_ble_eq_true rfl) dXD_holds_10 ⟨Nat.le_of_ble_eq_true rfl, Nat.le_of_ble_eq_true rfl⟩ [0, 1] rfl (by decide) ?_
                refine sw_eq (ws' := [(h0, .inr (0, [.ref h1])), (h1, .inl (ta.1, 160, .inl (w))), (h2, .inl (ta.1, 4, .inl (g)))]) (lv2 := [(3, .int (nI 3)), (0, .ref h0), (1, .int (nI b)), (2, .ref h2)]) (pc2 := 13) (st2 := [.int (w (b * 4 + 3))]) rfl ?_
                refine sw_aload_n G dXD_holds_13 rfl 3 rfl ?_
                refine sw_iload_n G dXD_holds_14 rfl 0 rfl ?_
                refine sw_ialdN (j := 3) (v := g 3) G 2 rfl (by omega) (by decide) (rfl) dXD_holds_15 ?_
                refine sw_icmp_eq (x := w (b * 4 + 3)) (y := g 3) (tgt := 21) G dXD_holds_16 (by decide) (fun h16_3 => ?_) (fun h16_3 => ?_)
                · refine sw_iinc (x := nI 3) (v := nI 4) G dXD_holds_21 (q := 0) rfl (by decide) (by decide) (lv' := [(3, .int (nI 4)), (0, .ref h0), (1, .int (nI b)), (2, .ref h2)]) rfl ?_
                  refine sw_goto (tgt := 2) G dXD_holds_24 (by decide) ?_
                  refine sw_iload_n G dXD_holds_2 rfl 0 rfl ?_
                  refine sw_iconst (v := nI 4) G dXD_holds_3 (by decide) ?_
                  refine sw_icmpN_ge (a := 4) (b := 4) (tgt := 27) G dXD_holds_4 (by decide) (by omega) (by omega) (fun h4_4 => ?_) (fun h4_4 => ?_)
                  · refine sw_iconst (v := nI 1) G dXD_holds_27 (by decide) ?_
                    exact sr_zret (x := nI 1) G hr hlk (by rw [show dk_same w b g = true by rw [dk_same, decide_eq_true h16, decide_eq_true h16_1, decide_eq_true h16_2, decide_eq_true h16_3] <;> rfl] <;> rfl) (rfl) dXD_holds_28
                  · exact absurd h4_4 (by decide)
                · refine sw_iconst (v := nI 0) G dXD_holds_19 (by decide) ?_
                  exact sr_zret (x := nI 0) G hr hlk (by rw [show dk_same w b g = false by rw [dk_same, decide_eq_true h16, decide_eq_true h16_1, decide_eq_true h16_2, decide_eq_false h16_3] <;> rfl] <;> rfl) (rfl) dXD_holds_20
            · refine sw_iconst (v := nI 0) G dXD_holds_19 (by decide) ?_
              exact sr_zret (x := nI 0) G hr hlk (by rw [show dk_same w b g = false by rw [dk_same, decide_eq_true h16, decide_eq_true h16_1, decide_eq_false h16_2] <;> rfl] <;> rfl) (rfl) dXD_holds_20
        · refine sw_iconst (v := nI 0) G dXD_holds_19 (by decide) ?_
          exact sr_zret (x := nI 0) G hr hlk (by rw [show dk_same w b g = false by rw [dk_same, decide_eq_true h16, decide_eq_false h16_1] <;> rfl] <;> rfl) (rfl) dXD_holds_20
    · refine sw_iconst (v := nI 0) G dXD_holds_19 (by decide) ?_
      exact sr_zret (x := nI 0) G hr hlk (by rw [show dk_same w b g = false by rw [dk_same, decide_eq_false h16] <;> rfl] <;> rfl) (rfl) dXD_holds_20

set_option maxRecDepth 100000 in
set_option maxHeartbeats 4000000 in
theorem c_XD_homeOf (l : Launch) (D : va_G) (ta : ClassId × ClassId × ClassId) (h0 : Nat) (h1 : Nat) (w : Nat → Int32) (b : Nat) (hb : b < 40) : sr l yXD_homeOf wsXD_homeOf ({ frames := 1, cells := 0, slots := 0, locals := 23 }) D ta [.ref h0, .int (nI b)] [(h0, .inr (0, [.ref h1])), (h1, .inl (ta.1, 160, .inl (w)))] (some (.int (nI (hmN w b)))) := by
  refine sr_ofW (y := yXD_homeOf) (cc := cXD_homeOf) (nL := 2) (ret := (some .int)) (by decide) (Nat.le_of_ble_eq_true rfl) (fun p e s m below meth c G hr hlk hnm => ?_)
  have hf := fpN_lt w (b * 4)
  refine sw_eq (ws' := [(h0, .inr (0, [.ref h1])), (h1, .inl (ta.1, 160, .inl (w)))]) (lv2 := [(0, .ref h0), (1, .int (nI b))]) (pc2 := 0) (st2 := []) rfl ?_
  refine sw_aload_n G dXD_homeOf_0 rfl 0 rfl ?_
  refine sw_get (C := RXD) (T := TXD) (ref := RXD) (N := 1) G inXD 0 rfl rfl 0 (by decide) wd_32 rfl rfl dXD_homeOf_1 ?_
  refine sw_iload_n G dXD_homeOf_4 rfl 1 rfl ?_
  refine sw_iconst (v := nI 4) G dXD_homeOf_5 (by decide) ?_
  refine sw_imul (x := nI b) (y := nI 4) (v := nI (b * 4)) G dXD_homeOf_6 (pk_mul _ _) ?_
  refine sw_readS (As := [.ref h1, .int (nI (b * 4))]) (rest := []) G (c_XC_fingerprint l D ta h1 160 w (b * 4) (by decide) (by omega)) (va_cwS 2 G.2.2.2.2.1 (sb_goodS wd_212 wd_202 wd_14 wd_203) rfl rfl rfl (by decide +kernel) ⟨Nat.le_of_ble_eq_true rfl, Nat.le_of_ble_eq_true rfl⟩) rfl rfl (Nat.le_of_ble_eq_true rfl) dXD_homeOf_7 ⟨Nat.le_of_ble_eq_true rfl, Nat.le_of_ble_eq_true rfl⟩ [1] rfl (by decide) ?_
  refine sw_eq (ws' := [(h0, .inr (0, [.ref h1])), (h1, .inl (ta.1, 160, .inl (w)))]) (lv2 := [(0, .ref h0), (1, .int (nI b))]) (pc2 := 10) (st2 := [.int (nI (fpN w (b * 4)))]) rfl ?_
  refine sw_bipush (v := nI 63) G dXD_homeOf_10 (by decide) ?_
  refine sw_iand (x := nI (fpN w (b * 4))) (y := nI 63) (v := nI ((fpN w (b * 4)) % 64)) G dXD_homeOf_12 (pk_andN (by omega) 6 (by decide)) ?_
  exact sr_iret (x := nI ((fpN w (b * 4)) % 64)) G hr hlk (rfl) dXD_homeOf_13

set_option maxRecDepth 100000 in
set_option maxHeartbeats 4000000 in
theorem c_XD_bitsOf (l : Launch) (D : va_G) (ta : ClassId × ClassId × ClassId) (h0 : Nat) (h1 : Nat) (w : Nat → Int32) (b : Nat) (hb : b < 40) : sr l yXD_bitsOf wsXD_bitsOf ({ frames := 2, cells := 0, slots := 0, locals := 46 }) D ta [.ref h0, .int (nI b)] [(h0, .inr (0, [.ref h1])), (h1, .inl (ta.1, 160, .inl (w)))] (some (.long (gb_x w (b * 4)))) := by
  refine sr_ofW (y := yXD_bitsOf) (cc := cXD_bitsOf) (nL := 2) (ret := (some .long)) (by decide) (Nat.le_of_ble_eq_true rfl) (fun p e s m below meth c G hr hlk hnm => ?_)
  refine sw_eq (ws' := [(h0, .inr (0, [.ref h1])), (h1, .inl (ta.1, 160, .inl (w)))]) (lv2 := [(0, .ref h0), (1, .int (nI b))]) (pc2 := 0) (st2 := []) rfl ?_
  refine sw_aload_n G dXD_bitsOf_0 rfl 0 rfl ?_
  refine sw_get (C := RXD) (T := TXD) (ref := RXD) (N := 1) G inXD 0 rfl rfl 0 (by decide) wd_32 rfl rfl dXD_bitsOf_1 ?_
  refine sw_iload_n G dXD_bitsOf_4 rfl 1 rfl ?_
  refine sw_iconst (v := nI 4) G dXD_bitsOf_5 (by decide) ?_
  refine sw_imul (x := nI b) (y := nI 4) (v := nI (b * 4)) G dXD_bitsOf_6 (pk_mul _ _) ?_
  refine sw_readS (As := [.ref h1, .int (nI (b * 4))]) (rest := []) G (c_XC_bitsOfGate l D ta h1 160 w (b * 4) (by decide) (by omega)) (va_cwS 2 G.2.2.2.2.1 (sb_goodS wd_198 wd_199 wd_14 wd_200) rfl rfl rfl (by decide +kernel) ⟨Nat.le_of_ble_eq_true rfl, Nat.le_of_ble_eq_true rfl⟩) rfl rfl (Nat.le_of_ble_eq_true rfl) dXD_bitsOf_7 ⟨Nat.le_of_ble_eq_true rfl, Nat.le_of_ble_eq_true rfl⟩ [1] rfl (by decide) ?_
  refine sw_eq (ws' := [(h0, .inr (0, [.ref h1])), (h1, .inl (ta.1, 160, .inl (w)))]) (lv2 := [(0, .ref h0), (1, .int (nI b))]) (pc2 := 10) (st2 := [.long (gb_x w (b * 4))]) rfl ?_
  exact sr_lret (x := gb_x w (b * 4)) G hr hlk (rfl) dXD_bitsOf_10

set_option maxRecDepth 100000 in
set_option maxHeartbeats 4000000 in
theorem c_XA_fill (l : Launch) (D : va_G) (ta : ClassId × ClassId × ClassId) (h0 : Nat) (nn : Nat) (cel : Nat → Option Nat) (hn : nn < 2 ^ 31) : sm (S := Unit) l yXA_fill wsXA_fill ({ frames := 0, cells := 0, slots := 0, locals := 0 }) D ta [.ref h0, .int (-1)] [(h0, .inl (ta.1, nn, .inl (fun jx => sp_o (cel jx))))] (fun _ => True) (fun _ => none) (fun _ => [(h0, .inl (ta.1, nn, .inl (fun jx => sp_o (ix_no jx))))]) := by
  refine sm_ofW (y := yXA_fill) (cc := cXA_fill) (nL := 4) (ret := none) (by decide) (Nat.le_of_ble_eq_true rfl) (fun p e s m below meth c G hr hlk hnm => ?_)
  refine sw_eq (ws' := [(h0, .inl (ta.1, nn, .inl (fun jx => sp_o (cel jx))))]) (lv2 := [(0, .ref h0), (1, .int (-1))]) (pc2 := 0) (st2 := []) rfl ?_
  refine sw_iconst (v := nI 0) G dXA_fill_0 (by decide) ?_
  refine sw_istore_n G dXA_fill_1 rfl (by decide) (lv' := [(2, .int (nI 0)), (0, .ref h0), (1, .int (-1))]) rfl ?_
  refine sw_aload_n G dXA_fill_2 rfl 1 rfl ?_
  refine sw_alen (v := nI nn) G 0 0 rfl rfl rfl dXA_fill_3 ?_
  refine sw_istore_n G dXA_fill_4 rfl (by decide) (lv' := [(3, .int (nI nn)), (2, .int (nI 0)), (0, .ref h0), (1, .int (-1))]) rfl ?_
  refine sw_z ?_
  refine sw_lv [2, 3, 1, 0] (lv' := [(0, .ref h0), (1, .int (-1)), (2, .int (nI 0)), (3, .int (nI nn))]) rfl ?_
  refine sw_eq (ws' := [(h0, .inl (ta.1, nn, .inl (fun jx => sp_o ((ix_fl cel 0) jx))))]) (lv2 := [(0, .ref h0), (1, .int (-1)), (2, .int (nI 0)), (3, .int (nI nn))]) (pc2 := 5) (st2 := []) (by rw [ix_fl_0]) ?_
  have L5 : ∀ (NN : Nat) (j : Nat), nn - j < NN → (j ≤ nn) → sw p l e ({ frames := 0, cells := 0, slots := 0, locals := 0 }) s m ([.ref h0, .int (-1)]).toArray below meth c 4 D (va_A [(h0, .inl (ta.1, nn, .inl (fun jx => sp_o (cel jx))))] s.heap.size) (MQ below (sb_Q D ta [(h0, .inl (ta.1, nn, .inl (fun jx => sp_o (cel jx))))] s.heap.size (fun _ : Unit => True) (fun _ => none) (fun _ => [(h0, .inl (ta.1, nn, .inl (fun jx => sp_o (ix_no jx))))])) ([.ref h0, .int (-1)]).toArray s 0 0 (va_A [(h0, .inl (ta.1, nn, .inl (fun jx => sp_o (cel jx))))] s.heap.size)) false 0 0 [(h0, .inl (ta.1, nn, .inl (fun jx => sp_o ((ix_fl cel j) jx))))] [(0, .ref h0), (1, .int (-1)), (2, .int (nI j)), (3, .int (nI nn))] 5 [] := by
    intro NN
    induction NN with
    | zero => intro j hNN; exact absurd hNN (Nat.not_lt_zero _)
    | succ NN ih5 =>
      intro j hNN hj
      refine sw_iload_n G dXA_fill_5 rfl 2 rfl ?_
      refine sw_iload_n G dXA_fill_6 rfl 3 rfl ?_
      refine sw_icmpN_ge (a := j) (b := nn) (tgt := 20) G dXA_fill_7 (by decide) (by omega) (by omega) (fun h7 => ?_) (fun h7 => ?_)
      · refine sw_arr 0 (f' := fun jx => sp_o (ix_no jx)) rfl (fun jy hjy => by show sp_o (ix_fl cel j jy) = sp_o (ix_no jy); rw [ix_fl, if_pos (by omega)]; rfl) (ws' := [(h0, .inl (ta.1, nn, .inl (fun jx => sp_o (ix_no jx))))]) rfl ?_
        exact sw_vret G hr hlk () trivial (rfl) [0] (by decide) rfl rfl dXA_fill_20
      · refine sw_aload_n G dXA_fill_10 rfl 0 rfl ?_
        refine sw_iload_n G dXA_fill_11 rfl 2 rfl ?_
        refine sw_iload_n G dXA_fill_12 rfl 1 rfl ?_
        refine sw_iastN (j := j) (x := -1) G 0 rfl (by omega) (by omega) dXA_fill_13 (f' := fun jx => sp_o ((va_up (ix_fl cel j) j none) jx)) (sp_upO _ _ none) (ws' := [(h0, .inl (ta.1, nn, .inl (fun jx => sp_o ((va_up (ix_fl cel j) j none) jx))))]) rfl ?_
        refine sw_iinc (x := nI j) (v := nI (j + 1)) G dXA_fill_14 (q := 2) rfl (sp_inc _) (by decide) (lv' := [(2, .int (nI (j + 1))), (0, .ref h0), (1, .int (-1)), (3, .int (nI nn))]) rfl ?_
        refine sw_goto (tgt := 5) G dXA_fill_17 (by decide) ?_
        refine sw_lv [1, 2, 0, 3] (lv' := [(0, .ref h0), (1, .int (-1)), (2, .int (nI (j + 1))), (3, .int (nI nn))]) rfl ?_
        refine sw_eq (ws' := [(h0, .inl (ta.1, nn, .inl (fun jx => sp_o ((ix_fl cel (j + 1)) jx))))]) (lv2 := [(0, .ref h0), (1, .int (-1)), (2, .int (nI (j + 1))), (3, .int (nI nn))]) (pc2 := 5) (st2 := []) (by rw [ix_fl_up]) ?_
        exact ih5 (j + 1) (by omega) (by omega)
  exact L5 _ 0 (Nat.lt_succ_self _) (Nat.zero_le _)

set_option maxRecDepth 100000 in
set_option maxHeartbeats 4000000 in
theorem c_XG_bitCount (l : Launch) (D : va_G) (ta : ClassId × ClassId × ClassId) (x : Int64)  : sr l yXG_bitCount wsXG_bitCount ({ frames := 0, cells := 0, slots := 0, locals := 0 }) D ta [.long x] [] (some (.int (bc_x x))) := by
  refine sr_ofW (y := yXG_bitCount) (cc := cXG_bitCount) (nL := 2) (ret := (some .int)) (by decide) (Nat.le_of_ble_eq_true rfl) (fun p e s m below meth c G hr hlk hnm => ?_)
  refine sw_eq (ws' := []) (lv2 := [(0, .long x)]) (pc2 := 0) (st2 := []) rfl ?_
  refine sw_lload_n G dXG_bitCount_0 rfl 0 rfl ?_
  refine sw_lload_n G dXG_bitCount_1 rfl 0 rfl ?_
  refine sw_iconst (v := nI 1) G dXG_bitCount_2 (by decide) ?_
  refine sw_lushr (x := x) (y := nI 1) (v := (x.toUInt64 >>> ((nI 1).toInt64.toUInt64 &&& Int64.toUInt64 63)).toInt64) G dXG_bitCount_3 (rfl) ?_
  refine sw_ldc2 (v := 6148914691236517205) G dXG_bitCount_4 wd_493 ?_
  refine sw_land (x := (x.toUInt64 >>> ((nI 1).toInt64.toUInt64 &&& Int64.toUInt64 63)).toInt64) (y := 6148914691236517205) (v := ((x.toUInt64 >>> ((nI 1).toInt64.toUInt64 &&& Int64.toUInt64 63)).toInt64) &&& 6148914691236517205) G dXG_bitCount_7 (rfl) ?_
  refine sw_lsub (x := x) (y := ((x.toUInt64 >>> ((nI 1).toInt64.toUInt64 &&& Int64.toUInt64 63)).toInt64) &&& 6148914691236517205) (v := bc_1 x) G dXG_bitCount_8 (rfl) ?_
  refine sw_lstore_n G dXG_bitCount_9 rfl (by decide) (lv' := [(0, .long (bc_1 x))]) rfl ?_
  refine sw_lload_n G dXG_bitCount_10 rfl 0 rfl ?_
  refine sw_ldc2 (v := 3689348814741910323) G dXG_bitCount_11 wd_494 ?_
  refine sw_land (x := bc_1 x) (y := 3689348814741910323) (v := (bc_1 x) &&& 3689348814741910323) G dXG_bitCount_14 (rfl) ?_
  refine sw_lload_n G dXG_bitCount_15 rfl 0 rfl ?_
  refine sw_iconst (v := nI 2) G dXG_bitCount_16 (by decide) ?_
  refine sw_lushr (x := bc_1 x) (y := nI 2) (v := ((bc_1 x).toUInt64 >>> ((nI 2).toInt64.toUInt64 &&& Int64.toUInt64 63)).toInt64) G dXG_bitCount_17 (rfl) ?_
  refine sw_ldc2 (v := 3689348814741910323) G dXG_bitCount_18 wd_494 ?_
  refine sw_land (x := ((bc_1 x).toUInt64 >>> ((nI 2).toInt64.toUInt64 &&& Int64.toUInt64 63)).toInt64) (y := 3689348814741910323) (v := (((bc_1 x).toUInt64 >>> ((nI 2).toInt64.toUInt64 &&& Int64.toUInt64 63)).toInt64) &&& 3689348814741910323) G dXG_bitCount_21 (rfl) ?_
  refine sw_ladd (x := (bc_1 x) &&& 3689348814741910323) (y := (((bc_1 x).toUInt64 >>> ((nI 2).toInt64.toUInt64 &&& Int64.toUInt64 63)).toInt64) &&& 3689348814741910323) (v := bc_2 (bc_1 x)) G dXG_bitCount_22 (rfl) ?_
  refine sw_lstore_n G dXG_bitCount_23 rfl (by decide) (lv' := [(0, .long (bc_2 (bc_1 x)))]) rfl ?_
  refine sw_lload_n G dXG_bitCount_24 rfl 0 rfl ?_
  refine sw_lload_n G dXG_bitCount_25 rfl 0 rfl ?_
  refine sw_iconst (v := nI 4) G dXG_bitCount_26 (by decide) ?_
  refine sw_lushr (x := bc_2 (bc_1 x)) (y := nI 4) (v := ((bc_2 (bc_1 x)).toUInt64 >>> ((nI 4).toInt64.toUInt64 &&& Int64.toUInt64 63)).toInt64) G dXG_bitCount_27 (rfl) ?_
  refine sw_ladd (x := bc_2 (bc_1 x)) (y := ((bc_2 (bc_1 x)).toUInt64 >>> ((nI 4).toInt64.toUInt64 &&& Int64.toUInt64 63)).toInt64) (v := (bc_2 (bc_1 x)) + (((bc_2 (bc_1 x)).toUInt64 >>> ((nI 4).toInt64.toUInt64 &&& Int64.toUInt64 63)).toInt64)) G dXG_bitCount_28 (rfl) ?_
  refine sw_ldc2 (v := 1085102592571150095) G dXG_bitCount_29 wd_495 ?_
  refine sw_land (x := (bc_2 (bc_1 x)) + (((bc_2 (bc_1 x)).toUInt64 >>> ((nI 4).toInt64.toUInt64 &&& Int64.toUInt64 63)).toInt64)) (y := 1085102592571150095) (v := bc_3 (bc_2 (bc_1 x))) G dXG_bitCount_32 (rfl) ?_
  refine sw_lstore_n G dXG_bitCount_33 rfl (by decide) (lv' := [(0, .long (bc_3 (bc_2 (bc_1 x))))]) rfl ?_
  refine sw_lload_n G dXG_bitCount_34 rfl 0 rfl ?_
  refine sw_lload_n G dXG_bitCount_35 rfl 0 rfl ?_
  refine sw_bipush (v := nI 8) G dXG_bitCount_36 (by decide) ?_
  refine sw_lushr (x := bc_3 (bc_2 (bc_1 x))) (y := nI 8) (v := ((bc_3 (bc_2 (bc_1 x))).toUInt64 >>> ((nI 8).toInt64.toUInt64 &&& Int64.toUInt64 63)).toInt64) G dXG_bitCount_38 (rfl) ?_
  refine sw_ladd (x := bc_3 (bc_2 (bc_1 x))) (y := ((bc_3 (bc_2 (bc_1 x))).toUInt64 >>> ((nI 8).toInt64.toUInt64 &&& Int64.toUInt64 63)).toInt64) (v := bc_4 (bc_3 (bc_2 (bc_1 x))) 8) G dXG_bitCount_39 (rfl) ?_
  refine sw_lstore_n G dXG_bitCount_40 rfl (by decide) (lv' := [(0, .long (bc_4 (bc_3 (bc_2 (bc_1 x))) 8))]) rfl ?_
  refine sw_lload_n G dXG_bitCount_41 rfl 0 rfl ?_
  refine sw_lload_n G dXG_bitCount_42 rfl 0 rfl ?_
  refine sw_bipush (v := nI 16) G dXG_bitCount_43 (by decide) ?_
  refine sw_lushr (x := bc_4 (bc_3 (bc_2 (bc_1 x))) 8) (y := nI 16) (v := ((bc_4 (bc_3 (bc_2 (bc_1 x))) 8).toUInt64 >>> ((nI 16).toInt64.toUInt64 &&& Int64.toUInt64 63)).toInt64) G dXG_bitCount_45 (rfl) ?_
  refine sw_ladd (x := bc_4 (bc_3 (bc_2 (bc_1 x))) 8) (y := ((bc_4 (bc_3 (bc_2 (bc_1 x))) 8).toUInt64 >>> ((nI 16).toInt64.toUInt64 &&& Int64.toUInt64 63)).toInt64) (v := bc_4 (bc_4 (bc_3 (bc_2 (bc_1 x))) 8) 16) G dXG_bitCount_46 (rfl) ?_
  refine sw_lstore_n G dXG_bitCount_47 rfl (by decide) (lv' := [(0, .long (bc_4 (bc_4 (bc_3 (bc_2 (bc_1 x))) 8) 16))]) rfl ?_
  refine sw_lload_n G dXG_bitCount_48 rfl 0 rfl ?_
  refine sw_lload_n G dXG_bitCount_49 rfl 0 rfl ?_
  refine sw_bipush (v := nI 32) G dXG_bitCount_50 (by decide) ?_
  refine sw_lushr (x := bc_4 (bc_4 (bc_3 (bc_2 (bc_1 x))) 8) 16) (y := nI 32) (v := ((bc_4 (bc_4 (bc_3 (bc_2 (bc_1 x))) 8) 16).toUInt64 >>> ((nI 32).toInt64.toUInt64 &&& Int64.toUInt64 63)).toInt64) G dXG_bitCount_52 (rfl) ?_
  refine sw_ladd (x := bc_4 (bc_4 (bc_3 (bc_2 (bc_1 x))) 8) 16) (y := ((bc_4 (bc_4 (bc_3 (bc_2 (bc_1 x))) 8) 16).toUInt64 >>> ((nI 32).toInt64.toUInt64 &&& Int64.toUInt64 63)).toInt64) (v := bc_4 (bc_4 (bc_4 (bc_3 (bc_2 (bc_1 x))) 8) 16) 32) G dXG_bitCount_53 (rfl) ?_
  refine sw_lstore_n G dXG_bitCount_54 rfl (by decide) (lv' := [(0, .long (bc_4 (bc_4 (bc_4 (bc_3 (bc_2 (bc_1 x))) 8) 16) 32))]) rfl ?_
  refine sw_lload_n G dXG_bitCount_55 rfl 0 rfl ?_
  refine sw_l2i (v := (bc_4 (bc_4 (bc_4 (bc_3 (bc_2 (bc_1 x))) 8) 16) 32).toInt32) G dXG_bitCount_56 (rfl) ?_
  refine sw_bipush (v := nI 127) G dXG_bitCount_57 (by decide) ?_
  refine sw_iand (x := (bc_4 (bc_4 (bc_4 (bc_3 (bc_2 (bc_1 x))) 8) 16) 32).toInt32) (y := nI 127) (v := ((bc_4 (bc_4 (bc_4 (bc_3 (bc_2 (bc_1 x))) 8) 16) 32).toInt32) &&& (nI 127)) G dXG_bitCount_59 (rfl) ?_
  exact sr_iret (x := ((bc_4 (bc_4 (bc_4 (bc_3 (bc_2 (bc_1 x))) 8) 16) 32).toInt32) &&& (nI 127)) G hr hlk (rfl) dXG_bitCount_60
