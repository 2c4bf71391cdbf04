section LLP
variable {p : Program} {l : Launch} {e : Env} {s : State} {m : MethodId} {args : Array Value} {below : List Frame} {meth : Method} {c : Code} {Q : State → Prop} {D : va_G} {ta : ClassId × ClassId × ClassId} {A : Nat → Prop} {kc nc : Nat} {b0 L iz h0 q0 o0 : Nat} {xs : Nat → Int32} {h1 : Nat} {h2 : Nat} {h3 : Nat} {h4 : Nat} {h5 : Nat} {h6 : Nat} {h7 : Nat} {d1 : Nat} {i1 : Nat} {i2 : Nat} {f1 : Nat} {f2 : Nat} {f3 : Nat} {l0 : Nat} {l1 : Nat} {l2 : Nat} {l3 : Nat} {m0 : Nat} {m1 : Nat} {m2 : Nat} {m3 : Nat} {g : Nat → Int32} {sg : Nat} {w : Nat → Int32} {gate : Int64} {probed : Int32} {cel : Nat → Option Nat} {pos : Nat → Option Nat} {len : Nat → Nat} {ent : Nat → Nat} {cnt : Nat → Int32} {num : Int32} {len1 : Nat → Nat} {ent1 : Nat → Nat} {cnt1 : Nat → Int32} {num2 : Int32} {len2 : Nat → Nat} {ent2 : Nat → Nat} {cnt2 : Nat → Int32} {done : Int32} {left : Int32} {off : Bool} {q1 : Nat} {q2 : Nat} {q3 : Nat} {q4 : Nat} {q5 : Nat} {q6 : Nat} {q7 : Nat} {q8 : Nat} {o : Nat → Int64} {em : Nat → Nat} {em1 : Nat → Nat} {gt : Nat → Bool} {flt : Int32}
theorem lw_loop (htr : l.stackTraces = false) (G : swG p s m args c D ta A) (hZ : sx_Z A s s.heap) (hX : va_X b0 L xs s s.heap) (hbl : b0 < s.heap.size) (hbA : ¬ A b0) (hL : L ≤ 2048) (kend : ∀ {kc nc iz : Nat} {h1 : Nat} {h2 : Nat} {h3 : Nat} {h4 : Nat} {h5 : Nat} {h6 : Nat} {h7 : Nat} {d1 : Nat} {i1 : Nat} {i2 : Nat} {f1 : Nat} {f2 : Nat} {f3 : Nat} {l0 : Nat} {l1 : Nat} {l2 : Nat} {l3 : Nat} {m0 : Nat} {m1 : Nat} {m2 : Nat} {m3 : Nat} {g : Nat → Int32} {sg : Nat} {w : Nat → Int32} {gate : Int64} {probed : Int32} {cel : Nat → Option Nat} {pos : Nat → Option Nat} {len : Nat → Nat} {ent : Nat → Nat} {cnt : Nat → Int32} {num : Int32} {len1 : Nat → Nat} {ent1 : Nat → Nat} {cnt1 : Nat → Int32} {num2 : Int32} {len2 : Nat → Nat} {ent2 : Nat → Nat} {cnt2 : Nat → Int32} {done : Int32} {left : Int32} {off : Bool} {q1 : Nat} {q2 : Nat} {q3 : Nat} {q4 : Nat} {q5 : Nat} {q6 : Nat} {q7 : Nat} {q8 : Nat} {o : Nat → Int64} {em : Nat → Nat} {em1 : Nat → Nat} {gt : Nat → Bool} {flt : Int32}, kc ≤ 1065 → nc ≤ 9362 → LAS p l e s m args below meth c Q D ta A b0 h0 q0 o0 iz kc nc h1 h2 h3 h4 h5 h6 h7 d1 i1 i2 f1 f2 f3 l0 l1 l2 l3 m0 m1 m2 m3 g sg w gate probed cel pos len ent cnt num len1 ent1 cnt1 num2 len2 ent2 cnt2 done left off q1 q2 q3 q4 q5 q6 q7 q8 o em em1 gt flt 993) :
    ∀ (NN : Nat) {iz kc nc : Nat} {h1 : Nat} {h2 : Nat} {h3 : Nat} {h4 : Nat} {h5 : Nat} {h6 : Nat} {h7 : Nat} {d1 : Nat} {i1 : Nat} {i2 : Nat} {f1 : Nat} {f2 : Nat} {f3 : Nat} {l0 : Nat} {l1 : Nat} {l2 : Nat} {l3 : Nat} {m0 : Nat} {m1 : Nat} {m2 : Nat} {m3 : Nat} {g : Nat → Int32} {sg : Nat} {w : Nat → Int32} {gate : Int64} {probed : Int32} {cel : Nat → Option Nat} {pos : Nat → Option Nat} {len : Nat → Nat} {ent : Nat → Nat} {cnt : Nat → Int32} {num : Int32} {len1 : Nat → Nat} {ent1 : Nat → Nat} {cnt1 : Nat → Int32} {num2 : Int32} {len2 : Nat → Nat} {ent2 : Nat → Nat} {cnt2 : Nat → Int32} {done : Int32} {left : Int32} {off : Bool} {q1 : Nat} {q2 : Nat} {q3 : Nat} {q4 : Nat} {q5 : Nat} {q6 : Nat} {q7 : Nat} {q8 : Nat} {o : Nat → Int64} {em : Nat → Nat} {em1 : Nat → Nat} {gt : Nat → Bool} {flt : Int32}, L - iz < NN → 4 * kc ≤ 128 + iz → 4 * nc ≤ 4464 + 6 * iz → iz ≤ 2048 → SIM sg len ent cnt len1 ent1 cnt1 len2 ent2 cnt2 em em1 gate gt cel pos w → LAS p l e s m args below meth c Q D ta A b0 h0 q0 o0 iz kc nc h1 h2 h3 h4 h5 h6 h7 d1 i1 i2 f1 f2 f3 l0 l1 l2 l3 m0 m1 m2 m3 g sg w gate probed cel pos len ent cnt num len1 ent1 cnt1 num2 len2 ent2 cnt2 done left off q1 q2 q3 q4 q5 q6 q7 q8 o em em1 gt flt 23 := by
  intro NN
  induction NN with
  | zero => intros; omega
  | succ NN ih =>
    intro iz kc nc h1 h2 h3 h4 h5 h6 h7 d1 i1 i2 f1 f2 f3 l0 l1 l2 l3 m0 m1 m2 m3 g sg w gate probed cel pos len ent cnt num len1 ent1 cnt1 num2 len2 ent2 cnt2 done left off q1 q2 q3 q4 q5 q6 q7 q8 o em em1 gt flt hNN hk4 hn4 hz4 hS
    refine sw_iload (i := 4) G dXL_law_23 4 rfl ?_
    refine sw_aload_n G dXL_law_25 rfl 0 rfl ?_
    refine sw_slen G hX hbl hbA dXL_law_26 ?_
    refine sw_iconst (v := nI 4) G dXL_law_27 (by decide) ?_
    refine sw_isub (v := nI L - nI 4) G dXL_law_28 rfl ?_
    have t1 : (nI L - nI 4).toInt = (L : Int) - 4 := pk_sub_toInt (by omega) (by decide)
    have t2 : (nI iz).toInt = (iz : Int) := toInt_of rfl (by omega)
    refine sw_icmp_gt (x := nI iz) (y := nI L - nI 4) (tgt := 993) G dXL_law_29 (by decide) (fun hgt => ?_) (fun hle => ?_)
    · exact kend (by omega) (by omega)
    have hi : iz + 4 ≤ L := by
      have h := Int32.not_lt.mp hle
      rw [Int32.le_iff_toInt_le, t1, t2] at h
      omega
    have C : LC p l s m args c D ta A b0 L xs iz kc nc := ⟨htr, G, hZ, hX, hbl, hbA, hi, by omega, by omega, by omega⟩
    have KK : ∀ {h1 : Nat} {h2 : Nat} {h3 : Nat} {h4 : Nat} {h5 : Nat} {h6 : Nat} {h7 : Nat} {d1 : Nat} {i1 : Nat} {i2 : Nat} {f1 : Nat} {f2 : Nat} {f3 : Nat} {l0 : Nat} {l1 : Nat} {l2 : Nat} {l3 : Nat} {m0 : Nat} {m1 : Nat} {m2 : Nat} {m3 : Nat} {g : Nat → Int32} {sg : Nat} {w : Nat → Int32} {gate : Int64} {probed : Int32} {cel : Nat → Option Nat} {pos : Nat → Option Nat} {len : Nat → Nat} {ent : Nat → Nat} {cnt : Nat → Int32} {num : Int32} {len1 : Nat → Nat} {ent1 : Nat → Nat} {cnt1 : Nat → Int32} {num2 : Int32} {len2 : Nat → Nat} {ent2 : Nat → Nat} {cnt2 : Nat → Int32} {done : Int32} {left : Int32} {off : Bool} {q1 : Nat} {q2 : Nat} {q3 : Nat} {q4 : Nat} {q5 : Nat} {q6 : Nat} {q7 : Nat} {q8 : Nat} {o : Nat → Int64} {em : Nat → Nat} {em1 : Nat → Nat} {gt : Nat → Bool} {flt : Int32}, SIM sg len ent cnt len1 ent1 cnt1 len2 ent2 cnt2 em em1 gate gt cel pos w → LAS p l e s m args below meth c Q D ta A b0 h0 q0 o0 iz (kc + 1) (nc + 6) h1 h2 h3 h4 h5 h6 h7 d1 i1 i2 f1 f2 f3 l0 l1 l2 l3 m0 m1 m2 m3 g sg w gate probed cel pos len ent cnt num len1 ent1 cnt1 num2 len2 ent2 cnt2 done left off q1 q2 q3 q4 q5 q6 q7 q8 o em em1 gt flt 987 := by
      intro h1 h2 h3 h4 h5 h6 h7 d1 i1 i2 f1 f2 f3 l0 l1 l2 l3 m0 m1 m2 m3 g sg w gate probed cel pos len ent cnt num len1 ent1 cnt1 num2 len2 ent2 cnt2 done left off q1 q2 q3 q4 q5 q6 q7 q8 o em em1 gt flt hS'
      refine sw_iinc (i := 4) (q := 4) (v := nI (iz + 4)) G dXL_law_987 rfl (sp_incN _ _) (by decide) (lv' := [(4, .int (nI (iz + 4))), (0, .ref b0), (1, .ref h0), (2, .ref q0), (3, .ref o0)]) rfl ?_
      refine sw_goto (tgt := 23) G dXL_law_990 (by decide) ?_
      refine sw_lv [1, 2, 3, 4, 0] (lv' := [(0, .ref b0), (1, .ref h0), (2, .ref q0), (3, .ref o0), (4, .int (nI (iz + 4)))]) rfl ?_
      exact ih (by omega) (by omega) (by omega) (by omega) hS'
    refine sw_aload_n G dXL_law_32 rfl 0 rfl ?_
    refine sw_iload (i := 4) G dXL_law_33 4 rfl ?_
    refine sw_sld (i := iz) (v := xs iz) G hX hbl hbA (by omega) (by omega) rfl dXL_law_35 ?_
    refine sw_bipush (v := nI 31) G dXL_law_36 (by decide) ?_
    refine sw_iand (v := nI ((xs iz).toBitVec.toNat % 2 ^ 5)) G dXL_law_38 (pk_and _ 5 (by decide)) ?_
    have hj : (xs iz).toBitVec.toNat % 2 ^ 5 < 32 := Nat.mod_lt _ (by decide)
    generalize (xs iz).toBitVec.toNat % 2 ^ 5 = j at hj ⊢
    rcases (show j = 0 ∨ j = 1 ∨ j = 2 ∨ j = 3 ∨ j = 4 ∨ j = 5 ∨ j = 6 ∨ j = 7 ∨ j = 8 ∨ j = 9 ∨ j = 10 ∨ j = 11 ∨ j = 12 ∨ j = 13 ∨ j = 14 ∨ j = 15 ∨ j = 16 ∨ j = 17 ∨ j = 18 ∨ 19 ≤ j by omega) with rfl | rfl | rfl | rfl | rfl | rfl | rfl | rfl | rfl | rfl | rfl | rfl | rfl | rfl | rfl | rfl | rfl | rfl | rfl | h19
    · refine sw_tableIn (off := 89) (tgt := 128) G dXL_law_39 (by decide) (by decide) (by decide) (by decide) ?_
      exact st_feed C hS KK
    · refine sw_tableIn (off := 145) (tgt := 184) G dXL_law_39 (by decide) (by decide) (by decide) (by decide) ?_
      exact st_drop C hS KK
    · refine sw_tableIn (off := 189) (tgt := 228) G dXL_law_39 (by decide) (by decide) (by decide) (by decide) ?_
      exact st_append C hS KK
    · refine sw_tableIn (off := 245) (tgt := 284) G dXL_law_39 (by decide) (by decide) (by decide) (by decide) ?_
      exact st_cut C hS KK
    · refine sw_tableIn (off := 313) (tgt := 352) G dXL_law_39 (by decide) (by decide) (by decide) (by decide) ?_
      exact st_copy C hS KK
    · refine sw_tableIn (off := 381) (tgt := 420) G dXL_law_39 (by decide) (by decide) (by decide) (by decide) ?_
      exact st_blocks C hS KK
    · refine sw_tableIn (off := 437) (tgt := 476) G dXL_law_39 (by decide) (by decide) (by decide) (by decide) ?_
      exact st_block C hS KK
    · refine sw_tableIn (off := 505) (tgt := 544) G dXL_law_39 (by decide) (by decide) (by decide) (by decide) ?_
      exact st_word C hS KK
    · refine sw_tableIn (off := 585) (tgt := 624) G dXL_law_39 (by decide) (by decide) (by decide) (by decide) ?_
      exact st_find C hS KK
    · refine sw_tableIn (off := 629) (tgt := 668) G dXL_law_39 (by decide) (by decide) (by decide) (by decide) ?_
      exact st_passes C hS KK
    · refine sw_tableIn (off := 680) (tgt := 719) G dXL_law_39 (by decide) (by decide) (by decide) (by decide) ?_
      exact st_cell C hS KK
    · refine sw_tableIn (off := 736) (tgt := 775) G dXL_law_39 (by decide) (by decide) (by decide) (by decide) ?_
      exact st_count C hS KK
    · refine sw_tableIn (off := 792) (tgt := 831) G dXL_law_39 (by decide) (by decide) (by decide) (by decide) ?_
      exact st_refresh C hS KK
    · refine sw_tableIn (off := 816) (tgt := 855) G dXL_law_39 (by decide) (by decide) (by decide) (by decide) ?_
      exact st_save C hS KK
    · refine sw_tableIn (off := 860) (tgt := 899) G dXL_law_39 (by decide) (by decide) (by decide) (by decide) ?_
      exact st_crashAfter C hS KK
    · refine sw_tableIn (off := 896) (tgt := 935) G dXL_law_39 (by decide) (by decide) (by decide) (by decide) ?_
      exact st_down C hS KK
    · refine sw_tableIn (off := 909) (tgt := 948) G dXL_law_39 (by decide) (by decide) (by decide) (by decide) ?_
      exact st_recover C hS KK
    · refine sw_tableIn (off := 922) (tgt := 961) G dXL_law_39 (by decide) (by decide) (by decide) (by decide) ?_
      exact st_probes C hS KK
    · refine sw_tableIn (off := 935) (tgt := 974) G dXL_law_39 (by decide) (by decide) (by decide) (by decide) ?_
      exact st_writes C hS KK
    · have tj : (nI j).toInt = (j : Int) := toInt_of rfl (by omega)
      refine sw_tableOut (tgt := 987) G dXL_law_39 (Or.inr (by rw [tj]; omega)) (by decide) ?_
      exact sw_widen (Nat.le_succ _) (Nat.le_add_right _ 6) (KK hS)
end LLP
theorem sx_Sof {args : Array Value} {s : State} {n d : String} {A : Nat → Prop} (hl : (Cond.laysStatic Bundle.tN n d).before args s = true) (hr : (Cond.isRef (.static Bundle.tN n d)).before args s = true) (hA : ∀ a : Nat, a < s.heap.size → ¬ A a) : sx_S n d A s s.heap := by
  obtain ⟨c, k, i, f, a, cell, h0, h1, h2, h3, h4, h5, h6, h7, h8⟩ := Cond.laysStatic_spec hl
  have ev : (Term.static Bundle.tN n d).eval args s none [] s = cell.slots[f.slot]? := by simp [Term.eval, State.fieldNamed?, h1, h2, h3, h4, h5]
  have hx : cell.slots[f.slot]? = some cell.slots[f.slot] := Array.getElem?_eq_getElem h7
  refine ⟨c, k, i, f, a, cell, cell.slots[f.slot], h0, h1, h2, h3, h4, h5, h6, h7, h8, hx, ?_, hA a (Array.getElem?_eq_some_iff.mp h4).1⟩
  rw [hx] at ev
  generalize cell.slots[f.slot] = v at ev
  simp only [Cond.before, Cond.holds, Cond.value, ev] at hr
  cases v <;> simp_all
abbrev sx_txt : List (Nat × String) := [(182, "the store is down"), (62, "the stage is full"), (188, "no such file"), (184, "the stage has less than four words"), (78, "the file is full"), (109, "the file does not reach there"), (186, "no such block"), (129, "no such word"), (164, "not NONE .. 1000")]
theorem sx_t1 : ∀ w ∈ sx_face, w ∈ tables_1 := by decide +kernel
theorem sx_t2 : ∀ q ∈ sx_txt, Cond.stringRef RXB q.1 q.2 ∈ tables_1 := by decide +kernel
theorem sx_t3 : ∀ q ∈ sx_strs, ∃ t ∈ sx_txt, t.1 = q := by decide +kernel
theorem sx_t4 : Cond.laysStatic Bundle.tN "UNASSIGNED_STACK" Bundle.steD ∈ tables_1 ∧ Cond.laysStatic Bundle.tN "SUPPRESSED_SENTINEL" Bundle.listD ∈ tables_1 ∧ Cond.instantiable RXB 8 ∈ tables_1 := by decide +kernel
theorem sx_Zof {args : Array Value} {s : State} {A : Nat → Prop} (hts : ∀ w ∈ tables_1, w.before args s = true) (hgv : (Jvm.Cond.and given_1 narrow_1).before args s = true) (hA : ∀ a : Nat, a < s.heap.size → ¬ A a) : sx_Z A s s.heap := by
  have hs := flat_of_before _ hgv
  refine ⟨sx_Sof (hts _ sx_t4.1) (hs _ (by decide +kernel)) hA, sx_Sof (hts _ sx_t4.2.1) (hs _ (by decide +kernel)) hA, fun w hw => va_tabs (sx_face_ok w hw).2 rfl (hts w (sx_t1 w hw)), fun q hq => ?_, fun c1 c2 e1 e2 => ?_⟩
  · obtain ⟨t, ht, rfl⟩ := sx_t3 q hq
    obtain ⟨cid, kC, hc, -⟩ := Cond.instantiable_spec (hts _ sx_t4.2.2)
    obtain ⟨k, cf, i, a, h1, h2, h3, -, h5, -⟩ := Cond.stringRef_spec hc (hts _ (sx_t2 t ht))
    exact ⟨cid, k, cf, i, a, hc, h1, h2, h3, h5⟩
  · have hv := Cond.holds_not_iff.mp (hs (Cond.not (.castable EIO EIS)) (by decide +kernel))
    simp only [Cond.value, e1, e2] at hv
    exact Option.some.inj hv
theorem sb_arr {args : Array Value} {s : State} {ty : FieldType} (h : (Cond.arrayClass ty).before args s = true) (hob : ∀ C : String, ty ≠ .object C) : ∃ cA : ClassId, ArrOfT s cA ty ∧ va_RA s cA ty := by
  obtain ⟨cA, k, comp, h1, h2, h3⟩ := Cond.arrayClass_spec h
  refine ⟨cA, fun n z => ⟨fun q hq => (nomatch hq), k, h2, comp, h3⟩, ?_⟩
  cases ty <;> first | exact absurd rfl (hob _) | exact h1
theorem sb_KD {args : Array Value} {s : State} (hts : ∀ w ∈ sbT, w.before args s = true) (hti : ∀ w ∈ tables_1, w.before args s = true) : ∃ (D : va_G) (ta : ClassId × ClassId × ClassId), sb_K D ta s := by
  obtain ⟨a0, b0, k0⟩ := u_known (n := 1) hts inXD (hti (.instantiable RXD 1) (by decide +kernel))
  obtain ⟨a1, b1, k1⟩ := u_known (n := 5) hts inXI (hti (.instantiable RXI 5) (by decide +kernel))
  obtain ⟨a2, b2, k2⟩ := u_known (n := 3) hts inXP (hti (.instantiable RXP 3) (by decide +kernel))
  obtain ⟨a3, b3, k3⟩ := u_known (n := 3) hts inXR (hti (.instantiable RXR 3) (by decide +kernel))
  obtain ⟨a4, b4, k4⟩ := u_known (n := 2) hts inXS (hti (.instantiable RXS 2) (by decide +kernel))
  obtain ⟨a5, b5, k5⟩ := u_known (n := 8) hts inXB (hti (.instantiable RXB 8) (by decide +kernel))
  obtain ⟨a6, b6, k6⟩ := u_known (n := 15) hts inXM (hti (.instantiable RXM 15) (by decide +kernel))
  obtain ⟨cI, rI⟩ := sb_arr (hti (.arrayClass .int) (by decide +kernel)) (fun _ h => nomatch h)
  obtain ⟨cZ, rZ⟩ := sb_arr (hti (.arrayClass .boolean) (by decide +kernel)) (fun _ h => nomatch h)
  obtain ⟨cJ, rJ⟩ := sb_arr (hti (.arrayClass .long) (by decide +kernel)) (fun _ h => nomatch h)
  refine ⟨(fun i => match i with | 0 => a0 | 1 => a1 | 2 => a2 | 3 => a3 | 4 => a4 | 5 => a5 | _ => a6, fun i => match i with | 0 => b0 | 1 => b1 | 2 => b2 | 3 => b3 | 4 => b4 | 5 => b5 | _ => b6), (cI, cZ, cJ), fun i q hq => ?_, fun i q hq => ?_⟩
  · match i, hq with
    | 0, hq => cases hq; exact k0
    | 1, hq => cases hq; exact k1
    | 2, hq => cases hq; exact k2
    | 3, hq => cases hq; exact k3
    | 4, hq => cases hq; exact k4
    | 5, hq => cases hq; exact k5
    | 6, hq => cases hq; exact k6
    | n + 7, hq => cases hq
  · match i, hq with
    | 0, hq => cases hq; exact rI
    | 1, hq => cases hq; exact rZ
    | 2, hq => cases hq; exact rJ
    | n + 3, hq => cases hq
theorem RI_0 : RI (fun _ => 0) (fun _ => 0) (fun _ => 0) := ⟨fun _ _ => Nat.zero_le _, fun _ _ j hj => absurd hj (Nat.not_lt_zero _), fun _ _ => rfl⟩
theorem SIM_0 : SIM 0 (fun _ => 0) (fun _ => 0) (fun _ => 0) (fun _ => 0) (fun _ => 0) (fun _ => 0) (fun _ => 0) (fun _ => 0) (fun _ => 0) (fun _ => 0) (fun _ => 0) 0 (fun _ => false) ix_no ix_no (fun _ => 0) := ⟨Nat.zero_le _, RI_0, RI_0, RI_0, fun _ _ j hj => absurd hj (Nat.not_lt_zero _), fun _ _ j hj => absurd hj (Nat.not_lt_zero _), GB_0, ix_no_T _, fun _ _ h => nomatch h⟩
/-! THE CLAIM OUT OF ONE WALK OF THE LAW'S BODY. Your part is whole_start (and what it stands on); all else here is the same for every law, but numbers. -/
def R_law : String := "SharedBlockStoreLaw"
def lw_P (b : Addr) (xs : List Int32) (args : Array Value) (s : State) : Prop := args = #[.ref b] ∧ s.IntsAt b xs ∧ xs.length ≤ 2048 ∧ (Jvm.Cond.and given_1 narrow_1).before args s = true
def lw_Q (_ : Array Value) (s : State) (o : Outcome) (t : State) : Prop := o = .returned (some (.int 1)) ∧ Framed s o t [] 1065 9362
def lw_Z (below : List Frame) (a : Array Value) (s : State) : State → Prop := fun t => ∃ o, t.status = .running ∧ Ended t below o ∧ lw_Q a s o t
/-- the law's own end, with 1 on the stack, nothing written that was there before, its room as the claim has it -/
theorem lw_ret {p : Program} {l : Launch} {e : Env} {s : State} {m : MethodId} {below : List Frame} {meth : Method} {c : Code} {b : Nat} (hx : p.tables.exec = Jvm.exec) (hb : c.code = code) (hr : meth.sig.returnType = ret) (hlocks : meth.locks = false) {pc : Nat} {H : Heap} {ls : Array Slot} (hdg : decode code pc = .ok (.ireturn, 1)) : W p l e room_1 s m #[Value.ref b] below meth c H [] 1065 9362 (lw_Z below #[Value.ref b] s) (F0 m pc ls [.int 1]) := by
  intro T hT X
  obtain ⟨fs, hret, hrun, hended, hW, hframe⟩ := X.leave (v := some (.int 1)) (hlocks := hlocks) (fun h => by rw [hr] at h; cases h)
  have hmeth' : T.vm.method? m = some meth := X.method'
  refine ⟨T.setFrames fs, ?_, .returned (some (.int 1)), hrun, hended, rfl, ⟨_, rfl⟩, hW, hframe⟩
  jvm_step X.here [X.here.top, hx, hb, hdg, hmeth', hr, ret, narrow_b1]
  (try refine ⟨rfl, ?_⟩); (try refine ⟨rfl, ?_⟩)
  first | (intro acts; rw [hret _ acts rfl rfl rfl]) | rw [hret _ _ rfl rfl rfl]
  exact Steps.refl _
/-- what holds at the law's entry: the machine, the code, the tables' words (any of lw_tbl by 'hts w (by decide +kernel)'), the script of L ints xs at the cell b, what the Statement gives of the start (any of its parts by flat_of_before) -/
def lw_At (p : Program) (s : State) (m : MethodId) (meth : Method) (c : Code) (b L : Nat) (xs : Nat → Int32) : Prop :=
  p.tables.exec = Jvm.exec ∧ c.code = code ∧ meth.sig.returnType = ret ∧ c.maxLocals = 7 ∧ s.vm.findClass R_law = some m.cls ∧ (∀ w ∈ lw_tbl, w.before #[Value.ref b] s = true) ∧ va_X b L xs s s.heap ∧ b < s.heap.size ∧ meth.locks = false ∧ (Jvm.Cond.and given_1 narrow_1).before #[Value.ref b] s = true
set_option maxRecDepth 100000 in
set_option maxHeartbeats 4000000 in
theorem whole_start {p : Program} {e : Env} {s : State} {m : MethodId} {below : List Frame} {meth : Method} {c : Code} (l : Launch) (htr : l.stackTraces = false) {b L : Nat} {xs : Nat → Int32} (hL : L ≤ 2048) (C0 : lw_At p s m meth c b L xs) : W p l e room_1 s m #[Value.ref b] below meth c s.heap [] 0 0 (lw_Z below #[Value.ref b] s) (entryFrame m ([Value.ref b] : List Value).toArray 7) := by
  obtain ⟨hx, hb, hr, hml, hown, hts, hX, hbl, hlk, hgv⟩ := C0
  have hts1 : ∀ w ∈ sbT, w.before #[Value.ref b] s = true := fun w hw => hts w (List.mem_filter.mp hw).1
  have htb : ∀ w ∈ tables_1, w.before #[Value.ref b] s = true := fun w hw => hts w (List.mem_append_right _ hw)
  obtain ⟨D, ta, hK⟩ := sb_KD hts1 htb
  have G : swG p s m #[Value.ref b] c D ta (fun q => s.heap.size ≤ q) := ⟨hx, hb, hml, hown, hts1, hK, fun q h => h⟩
  have hZ : sx_Z (fun q => s.heap.size ≤ q) s s.heap := sx_Zof htb hgv (fun a h1 h2 => absurd h1 (Nat.not_lt.mpr h2))
  rw [lg_entry_eq]
  refine lw_begin (l := l) (e := e) (b0 := b) (Q := lw_Z below #[Value.ref b] s) G ?_ s.heap [] _ (lv_entry [Value.ref b] (Nat.le_of_ble_eq_true rfl)) (fun k q hq => (nomatch hq)) ⟨fun i j p q h => (nomatch h), fun k q hq => (nomatch hq)⟩ va_S.rf (fun _ => ⟨rfl, rfl⟩)
  intro q0 x4_0 x4_1 x4_2 x4_3 x4_4 x4_5 x4_6 x4_7 x4_8 x4_9 x4_10 x4_11 x4_12 x4_13 x4_14 x4_15 x4_16 x4_17 x4_18 x4_19 x4_20 q8 x12_0 x12_1 x12_2 x12_3 x12_4 x12_5 x12_6 x12_7 q17
  refine lw_loop htr G hZ hX hbl (Nat.not_le.mpr hbl) hL ?_ (L + 1) (by omega) (by decide) (by decide) (by decide) SIM_0
  intro kc nc iz h1 h2 h3 h4 h5 h6 h7 d1 i1 i2 f1 f2 f3 l0 l1 l2 l3 m0 m1 m2 m3 g sg w gate probed cel pos len ent cnt num len1 ent1 cnt1 num2 len2 ent2 cnt2 done left off q1 q2 q3 q4 q5 q6 q7 q8 o em em1 gt flt h1 h2
  refine sw_iconst (v := 1) G dXL_law_993 (by decide) ?_
  exact fun H locs ls hl hP hD hS hz T hT X => lw_ret hx hb hr hlk dXL_law_994 T hT (stand_widen (Stand.forget (locs := []) (extra := locs) X (fun y hy => hS.2.2 y hy)) h1 h2)
set_option maxHeartbeats 4000000 in
theorem lw_walk (l : Launch) (htr : l.stackTraces = false) (b : Addr) (xs : List Int32) : MetFree l x (headSpec (Jvm.Cond.code x code maxLocals ret :: tables_1) room_1) (lw_P b xs) (fun _ _ _ _ _ => True) lw_Q := by
  refine MetFree.of_bodyS (code := code) (maxLocals := maxLocals) (ret := ret) (by decide) ?_ ?_
  · intro args s m h hn
    obtain ⟨meth, c, h1, h2, h3, h4, h5, h6, -, -⟩ := Cond.code_spec hn (atoms_spec (ws := Jvm.Cond.code x code maxLocals ret :: tables_1) h _ List.mem_cons_self)
    exact ⟨meth, c, h1, h2, h3, h4, h5, h6⟩
  · intro p e s m args below meth c s₁ B hml0 hP _
    obtain ⟨rfl, hx, hbd, hgv⟩ := hP
    obtain ⟨scr, harrAt, hlist, hof, hsmall⟩ := hx
    obtain ⟨hcb, hkn, -, -⟩ := State.arrayAt?_spec harrAt
    have hown : s.vm.findClass R_law = some m.cls := findClass_of_methodNamed B.named
    have hts0 : ∀ c ∈ (Jvm.Cond.code x code maxLocals ret :: tables_1), c.before #[Value.ref b] s = true := atoms_spec (ws := Jvm.Cond.code x code maxLocals ret :: tables_1) B.pre
    have hts : ∀ w ∈ lw_tbl, w.before #[Value.ref b] s = true := k2_hts_sels lw_privs (fun w hw => hts0 w (List.mem_cons_of_mem _ hw)) lw_privs_ok
    have hml : c.maxLocals = 7 := B.maxLocals_eq (hts0 _ List.mem_cons_self)
    have X₀ : Stand p l e room_1 s m #[Value.ref b] below meth c s₁ [] 0 0 := Stand.of_body B
    have hh0 : s₁.heap = s.heap := by rw [B.state]; rfl
    have hsz : scr.slots.size = xs.length := by rw [← Array.length_toList, hlist, List.length_map]
    have hval : ∀ j : Nat, j < xs.length → scr.slots[j]? = some (.int (xs.getD j 0)) := fun j hj => by
      rw [← Array.getElem?_toList, hlist]
      simp [hj]
    have hbl : b < s.heap.size := (Array.getElem?_eq_some_iff.mp hcb).1
    have hX : va_X b xs.length (fun j => xs.getD j 0) s s.heap := ⟨scr, hcb, hof, hkn, hsz, hval⟩
    have K : W p l e room_1 s m #[Value.ref b] below meth c s₁.heap [] 0 0 (lw_Z below #[Value.ref b] s) (entryFrame m ([Value.ref b] : List Value).toArray 7) := by
      rw [hh0]
      exact whole_start l htr hbd ⟨B.exec, B.bytes, B.returns, hml, hown, hts, hX, hbl, B.notSynchronized, hgv⟩
    obtain ⟨t, a1, o, b1, b2, b3⟩ := K s₁ rfl X₀
    exact ⟨t, o, a1, b1, b2, b3⟩
theorem lw_pre_spec {args : Array Value} {s : State} (h : (Jvm.Cond.and given_1 narrow_1).before args s = true) (hr : rest_1_c.before args s = true) : ∃ (b : Addr) (xs : List Int32), lw_P b xs args s := by
  have hs := flat_of_before _ h
  have hq := flat_of_before _ hr
  have hc : (Cond.count 1).before args s = true := hs _ (by decide +kernel)
  have harr : (Cond.arrayOf (.arg 0) .int).before args s = true := hs _ (by decide +kernel)
  have hle : (Cond.le (.length (.arg 0)) (.int 2048)).before args s = true := hs _ (by decide +kernel)
  have hlen : (Cond.isInt (.length (.arg 0))).before args s = true := hq _ (by decide +kernel)
  have hall : (Cond.all (.arg 0) (.isInt (.elem (.arg 0) (.index 0)))).before args s = true := hq _ (by decide +kernel)
  obtain ⟨b, xs, hb, hx⟩ := State.ints_of_pre rfl harr hlen hall
  have hsm : xs.length < 2 ^ 31 := hx.choose_spec.2.2.2
  have hev : (Term.length (.arg 0)).eval args s none [] s = some (.int xs.length.toInt32) := hx.length_eval hb
  have hv := Cond.le_ints hev (show (Term.int 2048).eval args s none [] s = some (.int 2048) from rfl)
  have hd : xs.length.toInt32 ≤ 2048 := by
    simpa [Cond.before, Cond.holds, hv] using hle
  have hN : xs.length ≤ 2048 := (Int32.ofNat_le_ofNat hsm (by decide)).mp (show Int32.ofNat xs.length ≤ Int32.ofNat 2048 from hd)
  exact ⟨b, xs, Cond.one_arg hc (show args[0]? = some (.ref b) from hb), hx, hN, h⟩
theorem lw_comes (l : Launch) (htr : l.stackTraces = false) : Comes l x (Jvm.Cond.code x code maxLocals ret :: tables_1) room_1 (fun tb e args s => Calls_1 tb e args s ∧ rest_1 tb e args s ∧ Pre_1 tb e args s)
    (fun _ _ args s o t => lw_Q args s o t) := by
  intro p e ha hc hk s m args below hf hfit hheap happ hpre
  obtain ⟨b, xs, hP⟩ := lw_pre_spec hpre.2.2 hpre.2.1
  obtain ⟨k, o, h1, h2, h3, hQ⟩ := lw_walk l htr b xs p e ha hc hk s m args below hf ((Spec.applies_iff_loose hf).mp happ).1 hP trivial
  exact ⟨k, o, h1, h2, h3, hQ⟩
theorem lw_frame {s t : State} {o : Outcome} {args : Array Value} (h : Framed s o t [] 1065 9362) :
    Framed s o t (fieldLocs frame_1_writes args s ++ arrayLocs frame_1_arrays args s ++ staticLocs frame_1_statics s) 1065 9362 := h
theorem lw_limb (L : Cond) (hL : ∀ (args : Array Value) (s t : State), L.after args s (.returned (some (.int 1))) t = true) :
    ArmFor flags0 classFile x code maxLocals ret World_1 tables_1 room_1 Calls_1 rest_1 Pre_1
      (fun tb e a s o t => postC L tb e a s o t ∧ Framed s o t (fieldLocs frame_1_writes a s ++ arrayLocs frame_1_arrays a s ++ staticLocs frame_1_statics s) 1065 9362) := by
  intro l hfl _ _ p e ha hc hk s m args below hf hfit hheap happ hpre
  obtain ⟨k, o, h1, h2, h3, rfl, hF⟩ := lw_comes l (by unfold Launch.stackTraces; rw [hfl]; decide) p e ha hc hk s m args below hf hfit hheap happ hpre
  exact ⟨k, _, h1, h2, h3, hL args s _, lw_frame hF⟩
theorem i_vc : Claimed_1_1 ∧ Claimed_1_2 := ⟨lw_limb limb_1_1 (fun args s t => by simp [limb_1_1, Cond.after, Cond.holds, Cond.value]), lw_limb limb_1_2 (fun args s t => Cond.after_iff.mpr (by
  first | (rw [show limb_1_2 = Cond.eq .result (.int 1) from rfl, Cond.eq_ints (x := 1) (y := 1) rfl rfl]; simp; done) | (simp [limb_1_2, Cond.value, Term.eval]; done)))⟩
