section SIMS2
variable {p : Program} {l : Launch} {e : Env} {s : State} {m : MethodId} {args : Array Value} {below : List Frame} {meth : Method} {c : Code} {Q : State → Prop} {D : va_G} {ta : ClassId × ClassId × ClassId} {A : Nat → Prop} {kc nc : Nat} {b0 L iz h0 q0 o0 : Nat} {xs : Nat → Int32} {h1 : Nat} {h2 : Nat} {h3 : Nat} {h4 : Nat} {h5 : Nat} {h6 : Nat} {h7 : Nat} {d1 : Nat} {i1 : Nat} {i2 : Nat} {f1 : Nat} {f2 : Nat} {f3 : Nat} {l0 : Nat} {l1 : Nat} {l2 : Nat} {l3 : Nat} {m0 : Nat} {m1 : Nat} {m2 : Nat} {m3 : Nat} {g : Nat → Int32} {sg : Nat} {w : Nat → Int32} {gate : Int64} {probed : Int32} {cel : Nat → Option Nat} {pos : Nat → Option Nat} {len : Nat → Nat} {ent : Nat → Nat} {cnt : Nat → Int32} {num : Int32} {len1 : Nat → Nat} {ent1 : Nat → Nat} {cnt1 : Nat → Int32} {num2 : Int32} {len2 : Nat → Nat} {ent2 : Nat → Nat} {cnt2 : Nat → Int32} {done : Int32} {left : Int32} {off : Bool} {q1 : Nat} {q2 : Nat} {q3 : Nat} {q4 : Nat} {q5 : Nat} {q6 : Nat} {q7 : Nat} {q8 : Nat} {o : Nat → Int64} {em : Nat → Nat} {em1 : Nat → Nat} {gt : Nat → Bool} {flt : Int32}
theorem mcp_off (em : Nat → Nat) (k sr : Nat) : ∀ n q, (q < 12 * k ∨ 12 * k + n ≤ q) → mcp em k sr n q = em q
  | 0, _, _ => rfl
  | n + 1, q, h => by rw [mcp, va_up_ne _ _ (by omega), mcp_off em k sr n q (by omega)]
theorem mcp_on (em : Nat → Nat) {k sr : Nat} (hne : sr ≠ k) : ∀ n, n ≤ 12 → ∀ j, j < n → mcp em k sr n (12 * k + j) = em (12 * sr + j)
  | 0, _, j, h => absurd h (Nat.not_lt_zero _)
  | n + 1, hn, j, h => by
    rw [mcp]
    by_cases e : j = n
    · subst e; rw [va_up_self, mcp_off em k sr j _ (by omega)]
    · rw [va_up_ne _ _ (by omega), mcp_on em hne n (by omega) j (by omega)]
theorem va_up_same {α : Type} (f : Nat → α) (k : Nat) : va_up f k (f k) = f := by
  funext j
  by_cases e : j = k
  · rw [e, va_up_self]
  · rw [va_up_ne _ _ e]
theorem mcp_self (em : Nat → Nat) (k : Nat) : ∀ n, mcp em k k n = em
  | 0 => rfl
  | n + 1 => by rw [mcp, mcp_self em k n, va_up_same]
theorem RR_cp {len ent em : Nat → Nat} (h : RR len ent em) (hl : ∀ f, f < 6 → len f ≤ 12) {k sr : Nat} (hk : k < 6) (hs : sr < 6) (hne : sr ≠ k) : RR (va_up len k (len sr)) (rw_cp ent ent k sr (len sr)) (mcp em k sr 12) := fun f hf j hj => by
  have h1 := hl sr hs
  by_cases e : f = k
  · subst e
    rw [va_up_self] at hj
    rw [rw_cp_on _ _ _ _ _ _ hj, mcp_on em hne 12 (Nat.le_refl _) j (by omega)]
    exact h sr hs j hj
  · rw [va_up_ne _ _ e] at hj
    have h2 := hl f hf
    rw [rw_cp_off _ _ _ _ _ _ (by omega), mcp_off _ _ _ _ _ (by omega)]
    exact h f hf j hj
theorem RR_add {len ent em : Nat → Nat} (h : RR len ent em) (hl : ∀ f, f < 6 → len f ≤ 12) {k b : Nat} (hk : k < 6) : RR (va_up len k (len k + 1)) (va_up ent (k * 12 + len k) b) (va_up em (12 * k + len k) b) := fun f hf j hj => by
  have h0 := hl f hf
  have h1 := hl k hk
  by_cases e : f * 12 + j = k * 12 + len k
  · rw [e, va_up_self, show 12 * f + j = 12 * k + len k by omega, va_up_self]
  · rw [va_up_ne _ _ e, va_up_ne _ _ (by omega)]
    by_cases ef : f = k
    · subst ef; rw [va_up_self] at hj; exact h f hf j (by omega)
    · rw [va_up_ne _ _ ef] at hj; exact h f hf j hj
theorem us_add {len ent : Nat → Nat} {cnt cnt1 : Nat → Int32} (r : RI len ent cnt) {b : Nat} (hb : b < 40) (q : Nat) (h : us_b cnt cnt1 q = true ∨ q = b) : us_b (upd cnt b (cnt b + nI 1)) cnt1 q = true := by
  unfold us_b upd at *
  by_cases e : q = b
  · rw [if_pos e, r.2.2 b hb, nI_add]
    have := ocf_le len ent b 6 r.1
    rw [decide_eq_true ((nI_0lt (by omega)).mpr (Nat.succ_pos _))]
    rfl
  · rw [if_neg e]
    exact h.resolve_right e
theorem fr_ex (p : Nat → Bool) : ∀ n, (∀ u, u < n → p u = true) ∨ ∃ f, f < n ∧ (∀ u, u < f → p u = true) ∧ p f = false
  | 0 => Or.inl (fun u h => absurd h (Nat.not_lt_zero _))
  | n + 1 => by
    rcases fr_ex p n with h | ⟨f, hf, h1, h2⟩
    · cases hp : p n with
      | true => exact Or.inl (fun u hu => by
          by_cases e : u = n
          · rw [e]; exact hp
          · exact h u (by omega))
      | false => exact Or.inr ⟨n, Nat.lt_succ_self n, h, hp⟩
    · exact Or.inr ⟨f, Nat.lt_succ_of_lt hf, h1, h2⟩
theorem wset_eq (w g : Nat → Int32) (f : Nat) : va_cpy g w 0 (f * 4) 4 = wset w g f := by
  funext j
  unfold va_cpy wset upd
  by_cases h : f * 4 ≤ j ∧ j < f * 4 + 4
  · rw [if_pos h]
    rcases (show j = 4 * f + 0 ∨ j = 4 * f + 1 ∨ j = 4 * f + 2 ∨ j = 4 * f + 3 by omega) with e | e | e | e
    · rw [if_neg (by omega), if_neg (by omega), if_neg (by omega), if_pos e, show 0 + (j - f * 4) = 0 by omega]
    · rw [if_neg (by omega), if_neg (by omega), if_pos e, show 0 + (j - f * 4) = 1 by omega]
    · rw [if_neg (by omega), if_pos e, show 0 + (j - f * 4) = 2 by omega]
    · rw [if_pos e, show 0 + (j - f * 4) = 3 by omega]
  · rw [if_neg h, if_neg (by omega), if_neg (by omega), if_neg (by omega), if_neg (by omega)]
theorem wset_off (w g : Nat → Int32) {f j : Nat} (h : j < f * 4 ∨ f * 4 + 4 ≤ j) : wset w g f j = w j := by
  rw [← wset_eq]
  unfold va_cpy
  rw [if_neg (by omega)]
theorem hmN_off (w g : Nat → Int32) {f b : Nat} (h : b ≠ f) : hmN (wset w g f) b = hmN w b := by
  unfold hmN fpN fp_x
  rw [wset_off w g (by omega), wset_off w g (by omega), wset_off w g (by omega), wset_off w g (by omega)]
theorem ix_add {cel pos : Nat → Option Nat} {w : Nat → Int32} (hT : ix_T cel pos (hmN w)) (g : Nat → Int32) {f : Nat} (hf : f < 40) (hp : pos f = none) : ix_T (va_up cel ((hmN (wset w g f) f + ix_s cel (hmN (wset w g f) f)) % 64) (some f)) (va_up pos f (some ((hmN (wset w g f) f + ix_s cel (hmN (wset w g f) f)) % 64))) (hmN (wset w g f)) :=
  ix_in (ix_home hT (fun b j h => hmN_off w g (fun q => by rw [q, hp] at h; cases h))) (hmN_lt _) hf hp
set_option maxHeartbeats 1000000 in
theorem st_copy (C : LC p l s m args c D ta A b0 L xs iz kc nc) (hS : SIM sg len ent cnt len1 ent1 cnt1 len2 ent2 cnt2 em em1 gate gt cel pos w) (kk : ∀ {h1 : Nat} {h2 : Nat} {h3 : Nat} {h4 : Nat} {h5 : Nat} {h6 : Nat} {h7 : Nat} {d1 : Nat} {i1 : Nat} {i2 : Nat} {f1 : Nat} {f2 : Nat} {f3 : Nat} {l0 : Nat} {l1 : Nat} {l2 : Nat} {l3 : Nat} {m0 : Nat} {m1 : Nat} {m2 : Nat} {m3 : Nat} {g : Nat → Int32} {sg : Nat} {w : Nat → Int32} {gate : Int64} {probed : Int32} {cel : Nat → Option Nat} {pos : Nat → Option Nat} {len : Nat → Nat} {ent : Nat → Nat} {cnt : Nat → Int32} {num : Int32} {len1 : Nat → Nat} {ent1 : Nat → Nat} {cnt1 : Nat → Int32} {num2 : Int32} {len2 : Nat → Nat} {ent2 : Nat → Nat} {cnt2 : Nat → Int32} {done : Int32} {left : Int32} {off : Bool} {q1 : Nat} {q2 : Nat} {q3 : Nat} {q4 : Nat} {q5 : Nat} {q6 : Nat} {q7 : Nat} {q8 : Nat} {o : Nat → Int64} {em : Nat → Nat} {em1 : Nat → Nat} {gt : Nat → Bool} {flt : Int32}, SIM sg len ent cnt len1 ent1 cnt1 len2 ent2 cnt2 em em1 gate gt cel pos w → LAS p l e s m args below meth c Q D ta A b0 h0 q0 o0 iz (kc + 1) (nc + 6) h1 h2 h3 h4 h5 h6 h7 d1 i1 i2 f1 f2 f3 l0 l1 l2 l3 m0 m1 m2 m3 g sg w gate probed cel pos len ent cnt num len1 ent1 cnt1 num2 len2 ent2 cnt2 done left off q1 q2 q3 q4 q5 q6 q7 q8 o em em1 gt flt 987) : LAS p l e s m args below meth c Q D ta A b0 h0 q0 o0 iz kc nc h1 h2 h3 h4 h5 h6 h7 d1 i1 i2 f1 f2 f3 l0 l1 l2 l3 m0 m1 m2 m3 g sg w gate probed cel pos len ent cnt num len1 ent1 cnt1 num2 len2 ent2 cnt2 done left off q1 q2 q3 q4 q5 q6 q7 q8 o em em1 gt flt 352 := by
  have KW : ∀ {h1 : Nat} {h2 : Nat} {h3 : Nat} {h4 : Nat} {h5 : Nat} {h6 : Nat} {h7 : Nat} {d1 : Nat} {i1 : Nat} {i2 : Nat} {f1 : Nat} {f2 : Nat} {f3 : Nat} {l0 : Nat} {l1 : Nat} {l2 : Nat} {l3 : Nat} {m0 : Nat} {m1 : Nat} {m2 : Nat} {m3 : Nat} {g : Nat → Int32} {sg : Nat} {w : Nat → Int32} {gate : Int64} {probed : Int32} {cel : Nat → Option Nat} {pos : Nat → Option Nat} {len : Nat → Nat} {ent : Nat → Nat} {cnt : Nat → Int32} {num : Int32} {len1 : Nat → Nat} {ent1 : Nat → Nat} {cnt1 : Nat → Int32} {num2 : Int32} {len2 : Nat → Nat} {ent2 : Nat → Nat} {cnt2 : Nat → Int32} {done : Int32} {left : Int32} {off : Bool} {q1 : Nat} {q2 : Nat} {q3 : Nat} {q4 : Nat} {q5 : Nat} {q6 : Nat} {q7 : Nat} {q8 : Nat} {o : Nat → Int64} {em : Nat → Nat} {em1 : Nat → Nat} {gt : Nat → Bool} {flt : Int32}, SIM sg len ent cnt len1 ent1 cnt1 len2 ent2 cnt2 em em1 gate gt cel pos w → LAS p l e s m args below meth c Q D ta A b0 h0 q0 o0 iz kc nc h1 h2 h3 h4 h5 h6 h7 d1 i1 i2 f1 f2 f3 l0 l1 l2 l3 m0 m1 m2 m3 g sg w gate probed cel pos len ent cnt num len1 ent1 cnt1 num2 len2 ent2 cnt2 done left off q1 q2 q3 q4 q5 q6 q7 q8 o em em1 gt flt 987 := fun h => sw_widen (Nat.le_succ _) (Nat.le_add_right _ 6) (kk h)
  have h31 := SIM_le hS
  obtain ⟨s1, r, r1, r2, rr, rr1, gb, hT, iu⟩ := id hS
  have he := RR_bd r rr
  have he1 := RR_bd r1 rr1
  rcases Bool.eq_false_or_eq_true off with ho | ho
  · exact lw_copyX C.1 C.2.1 C.2.2.1 C.2.2.2.1 C.2.2.2.2.1 C.2.2.2.2.2.1 C.2.2.2.2.2.2.1 C.2.2.2.2.2.2.2.1 C.2.2.2.2.2.2.2.2.1 C.2.2.2.2.2.2.2.2.2 _ _ rfl rfl ho (Or.inl ho) (by rw [ho]; rfl) (kk hS)
  · cases hf : isf (xs (iz + 1)) with
    | false => exact lw_copyF C.1 C.2.1 C.2.2.1 C.2.2.2.1 C.2.2.2.2.1 C.2.2.2.2.2.1 C.2.2.2.2.2.2.1 C.2.2.2.2.2.2.2.1 C.2.2.2.2.2.2.2.2.1 C.2.2.2.2.2.2.2.2.2 _ _ rfl rfl ho (isf_no hf) (Or.inr (Or.inl hf)) (by rw [ho]; rfl) (kk hS)
    | true =>
      obtain ⟨k, hk, e1⟩ := isf_nat hf
      cases hf2 : isf (xs (iz + 2)) with
      | false => exact lw_copyG C.1 C.2.1 C.2.2.1 C.2.2.2.1 C.2.2.2.2.1 C.2.2.2.2.2.1 C.2.2.2.2.2.2.1 C.2.2.2.2.2.2.2.1 C.2.2.2.2.2.2.2.2.1 C.2.2.2.2.2.2.2.2.2 k _ e1 rfl ho hk (isf_no hf2) (Or.inr (Or.inr hf2)) (by rw [ho]; rfl) (kk hS)
      | true =>
        obtain ⟨sr, hs, e2⟩ := isf_nat hf2
        by_cases hks : sr = k
        · subst hks
          have eL : va_up len sr (len sr) = len := va_up_same len sr
          have eM : mcp em sr sr 12 = em := mcp_self em sr 12
          have eu : ∀ i, i < 40 → us_b cnt cnt1 i = mu_b len em len1 em1 i := fun i hi => SIM_us hS hi
          have et := tk_congr (home := hmN w) (cel := cel) (pos := pos) 40 eu
          refine lw_copySelf C.1 C.2.1 C.2.2.1 C.2.2.2.1 C.2.2.2.2.1 C.2.2.2.2.2.1 C.2.2.2.2.2.2.1 C.2.2.2.2.2.2.2.1 C.2.2.2.2.2.2.2.2.1 C.2.2.2.2.2.2.2.2.2 sr pos e1 e2 ho hk hT ho hk hk (by rw [eL]; exact r.1) (by rw [eL, eM]; exact he) r1.1 he1 hT (by rw [eL, eM, et]) ?_
          rw [eL, eM, et]
          exact KW ⟨s1, r, r1, r2, rr, rr1, gb, (tk_T (hmN_lt w) hT 40), fun b j hb => by
              have hq := (tk_T (hmN_lt w) hT 40).2.1 b j hb
              have h40 := ((tk_T (hmN_lt w) hT 40).1 j b hq.1 hq.2).1
              rw [eu b h40]
              exact tk_us (hmN_lt w) hT 40 b j h40 hb⟩
        · have ir := RI_rep r hk (r.1 sr hs) (r.2.1 sr hs)
          have ire := RR_cp rr r.1 hk hs hks
          have eu : ∀ i, i < 40 → us_b (rw_inc (rw_dec cnt ent k 0 (len k - 0)) ent sr (len sr)) cnt1 i = mu_b (va_up len k (len sr)) (mcp em k sr 12) len1 em1 i := fun i hi => RI_us ir ire r1 rr1 hi
          have et := tk_congr (home := hmN w) (cel := cel) (pos := pos) 40 eu
          refine lw_copy C.1 C.2.1 C.2.2.1 C.2.2.2.1 C.2.2.2.2.1 C.2.2.2.2.2.1 C.2.2.2.2.2.2.1 C.2.2.2.2.2.2.2.1 C.2.2.2.2.2.2.2.2.1 C.2.2.2.2.2.2.2.2.2 k sr pos e1 e2 ho hk hs hks (r.1 k hk) (r.2.1 k hk) (r.1 sr hs) (r.2.1 sr hs) hT ho hk hs ir.1 (RR_bd ir ire) r1.1 he1 hT (by rw [et]) ?_
          rw [et]
          exact KW ⟨s1, ir, r1, r2, ire, rr1, gb, (tk_T (hmN_lt w) hT 40), fun b j hb => by
              have hq := (tk_T (hmN_lt w) hT 40).2.1 b j hb
              have h40 := ((tk_T (hmN_lt w) hT 40).1 j b hq.1 hq.2).1
              rw [eu b h40]
              exact tk_us (hmN_lt w) hT 40 b j h40 hb⟩

set_option maxHeartbeats 1000000 in
theorem st_append (C : LC p l s m args c D ta A b0 L xs iz kc nc) (hS : SIM sg len ent cnt len1 ent1 cnt1 len2 ent2 cnt2 em em1 gate gt cel pos w) (kk : ∀ {h1 : Nat} {h2 : Nat} {h3 : Nat} {h4 : Nat} {h5 : Nat} {h6 : Nat} {h7 : Nat} {d1 : Nat} {i1 : Nat} {i2 : Nat} {f1 : Nat} {f2 : Nat} {f3 : Nat} {l0 : Nat} {l1 : Nat} {l2 : Nat} {l3 : Nat} {m0 : Nat} {m1 : Nat} {m2 : Nat} {m3 : Nat} {g : Nat → Int32} {sg : Nat} {w : Nat → Int32} {gate : Int64} {probed : Int32} {cel : Nat → Option Nat} {pos : Nat → Option Nat} {len : Nat → Nat} {ent : Nat → Nat} {cnt : Nat → Int32} {num : Int32} {len1 : Nat → Nat} {ent1 : Nat → Nat} {cnt1 : Nat → Int32} {num2 : Int32} {len2 : Nat → Nat} {ent2 : Nat → Nat} {cnt2 : Nat → Int32} {done : Int32} {left : Int32} {off : Bool} {q1 : Nat} {q2 : Nat} {q3 : Nat} {q4 : Nat} {q5 : Nat} {q6 : Nat} {q7 : Nat} {q8 : Nat} {o : Nat → Int64} {em : Nat → Nat} {em1 : Nat → Nat} {gt : Nat → Bool} {flt : Int32}, SIM sg len ent cnt len1 ent1 cnt1 len2 ent2 cnt2 em em1 gate gt cel pos w → LAS p l e s m args below meth c Q D ta A b0 h0 q0 o0 iz (kc + 1) (nc + 6) h1 h2 h3 h4 h5 h6 h7 d1 i1 i2 f1 f2 f3 l0 l1 l2 l3 m0 m1 m2 m3 g sg w gate probed cel pos len ent cnt num len1 ent1 cnt1 num2 len2 ent2 cnt2 done left off q1 q2 q3 q4 q5 q6 q7 q8 o em em1 gt flt 987) : LAS p l e s m args below meth c Q D ta A b0 h0 q0 o0 iz kc nc h1 h2 h3 h4 h5 h6 h7 d1 i1 i2 f1 f2 f3 l0 l1 l2 l3 m0 m1 m2 m3 g sg w gate probed cel pos len ent cnt num len1 ent1 cnt1 num2 len2 ent2 cnt2 done left off q1 q2 q3 q4 q5 q6 q7 q8 o em em1 gt flt 228 := by
  have KW : ∀ {h1 : Nat} {h2 : Nat} {h3 : Nat} {h4 : Nat} {h5 : Nat} {h6 : Nat} {h7 : Nat} {d1 : Nat} {i1 : Nat} {i2 : Nat} {f1 : Nat} {f2 : Nat} {f3 : Nat} {l0 : Nat} {l1 : Nat} {l2 : Nat} {l3 : Nat} {m0 : Nat} {m1 : Nat} {m2 : Nat} {m3 : Nat} {g : Nat → Int32} {sg : Nat} {w : Nat → Int32} {gate : Int64} {probed : Int32} {cel : Nat → Option Nat} {pos : Nat → Option Nat} {len : Nat → Nat} {ent : Nat → Nat} {cnt : Nat → Int32} {num : Int32} {len1 : Nat → Nat} {ent1 : Nat → Nat} {cnt1 : Nat → Int32} {num2 : Int32} {len2 : Nat → Nat} {ent2 : Nat → Nat} {cnt2 : Nat → Int32} {done : Int32} {left : Int32} {off : Bool} {q1 : Nat} {q2 : Nat} {q3 : Nat} {q4 : Nat} {q5 : Nat} {q6 : Nat} {q7 : Nat} {q8 : Nat} {o : Nat → Int64} {em : Nat → Nat} {em1 : Nat → Nat} {gt : Nat → Bool} {flt : Int32}, SIM sg len ent cnt len1 ent1 cnt1 len2 ent2 cnt2 em em1 gate gt cel pos w → LAS p l e s m args below meth c Q D ta A b0 h0 q0 o0 iz kc nc h1 h2 h3 h4 h5 h6 h7 d1 i1 i2 f1 f2 f3 l0 l1 l2 l3 m0 m1 m2 m3 g sg w gate probed cel pos len ent cnt num len1 ent1 cnt1 num2 len2 ent2 cnt2 done left off q1 q2 q3 q4 q5 q6 q7 q8 o em em1 gt flt 987 := fun h => sw_widen (Nat.le_succ _) (Nat.le_add_right _ 6) (kk h)
  have h31 := SIM_le hS
  obtain ⟨s1, r, r1, r2, rr, rr1, gb, hT, iu⟩ := id hS
  have he := RR_bd r rr
  have he1 := RR_bd r1 rr1
  rcases Bool.eq_false_or_eq_true off with ho | ho
  · exact lw_appendX C.1 C.2.1 C.2.2.1 C.2.2.2.1 C.2.2.2.2.1 C.2.2.2.2.2.1 C.2.2.2.2.2.2.1 C.2.2.2.2.2.2.2.1 C.2.2.2.2.2.2.2.2.1 C.2.2.2.2.2.2.2.2.2 _ rfl ho (Or.inl ho) h31 r.1 (by rw [ho]; rfl) (kk hS)
  · cases hf : isf (xs (iz + 1)) with
    | false => exact lw_appendF C.1 C.2.1 C.2.2.1 C.2.2.2.1 C.2.2.2.2.1 C.2.2.2.2.2.1 C.2.2.2.2.2.2.1 C.2.2.2.2.2.2.2.1 C.2.2.2.2.2.2.2.2.1 C.2.2.2.2.2.2.2.2.2 _ rfl ho (isf_no hf) (Or.inr (Or.inl hf)) h31 r.1 (by rw [ho, hf]; rfl) (kk hS)
    | true =>
      obtain ⟨k, hk, e1⟩ := isf_nat hf
      rcases Nat.lt_or_ge sg 4 with hs | hs
      · exact lw_appendS C.1 C.2.1 C.2.2.1 C.2.2.2.1 C.2.2.2.2.1 C.2.2.2.2.2.1 C.2.2.2.2.2.2.1 C.2.2.2.2.2.2.2.1 C.2.2.2.2.2.2.2.2.1 C.2.2.2.2.2.2.2.2.2 k e1 ho hk hs (Or.inr (Or.inr (Or.inl hs))) h31 r.1 (by rw [ho, isf_of hk]; rfl) (kk hS)
      · have hlk := r.1 k hk
        rcases Nat.lt_or_ge (len k) 12 with hl | hl
        · by_cases hg : gate &&& gb_x g 0 = gb_x g 0
          · have yg := (GB_pass gb g).mp hg
            obtain ⟨t, ht, hgo, hst⟩ := lk_ex hT g w
            rcases hst with hn | ⟨b, hfd, hsm⟩
            · rcases fr_ex (us_b cnt cnt1) 40 with hall | ⟨f, hf40, hu, hff⟩
              · exact lw_appendNoneN C.1 C.2.1 C.2.2.1 C.2.2.2.1 C.2.2.2.2.1 C.2.2.2.2.2.1 C.2.2.2.2.2.2.1 C.2.2.2.2.2.2.2.1 C.2.2.2.2.2.2.2.2.1 C.2.2.2.2.2.2.2.2.2 k t t e1 ho hs h31 hk hl hg ht hgo (fun j b hj e => (hT.1 j b hj e).1) hn hall ho hs h31 hk hl yg ht hgo (fun j b hj e => (hT.1 j b hj e).1) hn r.1 he r1.1 he1 (fun u hu => by rw [← SIM_us hS hu]; exact hall u hu) (KW hS)
              · have yhu : ∀ u, u < f → mu_b len em len1 em1 u = true := fun u hu' => by rw [← SIM_us hS (by omega)]; exact hu u hu'
                have yhf : mu_b len em len1 em1 f = false := by rw [← SIM_us hS hf40]; exact hff
                cases hok : pw_ok left with
                | false => exact lw_appendNoneD C.1 C.2.1 C.2.2.1 C.2.2.2.1 C.2.2.2.2.1 C.2.2.2.2.2.1 C.2.2.2.2.2.2.1 C.2.2.2.2.2.2.2.1 C.2.2.2.2.2.2.2.2.1 C.2.2.2.2.2.2.2.2.2 k t f t f e1 ho hs h31 hk hl hg ht hgo (fun j b hj e => (hT.1 j b hj e).1) hn hf40 hu hff hok ho hs h31 hk hl yg ht hgo (fun j b hj e => (hT.1 j b hj e).1) hn r.1 he r1.1 he1 hf40 yhu yhf hok (KW hS)
                | true =>
                  have hp : pos f = none := by
                    cases hq : pos f with
                    | none => rfl
                    | some j => rw [iu f j hq] at hff; cases hff
                  refine lw_appendNoneW C.1 C.2.1 C.2.2.1 C.2.2.2.1 C.2.2.2.2.1 C.2.2.2.2.2.1 C.2.2.2.2.2.2.1 C.2.2.2.2.2.2.2.1 C.2.2.2.2.2.2.2.2.1 C.2.2.2.2.2.2.2.2.2 k t f t f pos e1 ho hs h31 hk hl hg ht hgo (fun j b hj e => (hT.1 j b hj e).1) hn hf40 hu hff hok hT ho hs h31 hk hl yg ht hgo (fun j b hj e => (hT.1 j b hj e).1) hn r.1 he r1.1 he1 hf40 yhu yhf hok hT rfl ?_
                  rw [wset_eq]
                  exact KW ⟨Nat.zero_le _, RI_add r hk hl hf40, r1, r2, RR_add rr r.1 hk, rr1, GB_or gb _ f, ix_add hT g hf40 hp, fun b j hb => by
                    by_cases e : b = f
                    · exact us_add r hf40 b (Or.inr e)
                    · rw [va_up_ne _ _ e] at hb
                      exact us_add r hf40 b (Or.inl (iu b j hb))⟩
            · have hb40 := (hT.1 _ b (Nat.mod_lt _ (by decide)) hfd).1
              refine lw_appendFound C.1 C.2.1 C.2.2.1 C.2.2.2.1 C.2.2.2.2.1 C.2.2.2.2.2.1 C.2.2.2.2.2.2.1 C.2.2.2.2.2.2.2.1 C.2.2.2.2.2.2.2.2.1 C.2.2.2.2.2.2.2.2.2 k t b t b e1 ho hs h31 hk hl hg ht hgo (fun j b hj e => (hT.1 j b hj e).1) hfd hsm ho hs h31 hk hl yg ht hgo (fun j b hj e => (hT.1 j b hj e).1) hfd hsm rfl ?_
              exact KW ⟨Nat.zero_le _, RI_add r hk hl hb40, r1, r2, RR_add rr r.1 hk, rr1, gb, hT, fun q j hq => us_add r hb40 q (Or.inl (iu q j hq))⟩
          · have yg : gpass gt g = false := by
              cases hq : gpass gt g with
              | false => rfl
              | true => exact absurd ((GB_pass gb g).mpr hq) hg
            rcases fr_ex (us_b cnt cnt1) 40 with hall | ⟨f, hf40, hu, hff⟩
            · exact lw_appendGateN C.1 C.2.1 C.2.2.1 C.2.2.2.1 C.2.2.2.2.1 C.2.2.2.2.2.1 C.2.2.2.2.2.2.1 C.2.2.2.2.2.2.2.1 C.2.2.2.2.2.2.2.2.1 C.2.2.2.2.2.2.2.2.2 k e1 ho hs h31 hk hl hg hall ho hs h31 hk hl yg r.1 he r1.1 he1 (fun u hu => by rw [← SIM_us hS hu]; exact hall u hu) (KW hS)
            · have yhu : ∀ u, u < f → mu_b len em len1 em1 u = true := fun u hu' => by rw [← SIM_us hS (by omega)]; exact hu u hu'
              have yhf : mu_b len em len1 em1 f = false := by rw [← SIM_us hS hf40]; exact hff
              cases hok : pw_ok left with
              | false => exact lw_appendGateD C.1 C.2.1 C.2.2.1 C.2.2.2.1 C.2.2.2.2.1 C.2.2.2.2.2.1 C.2.2.2.2.2.2.1 C.2.2.2.2.2.2.2.1 C.2.2.2.2.2.2.2.2.1 C.2.2.2.2.2.2.2.2.2 k f f e1 ho hs h31 hk hl hg hf40 hu hff hok ho hs h31 hk hl yg r.1 he r1.1 he1 hf40 yhu yhf hok (KW hS)
              | true =>
                have hp : pos f = none := by
                  cases hq : pos f with
                  | none => rfl
                  | some j => rw [iu f j hq] at hff; cases hff
                refine lw_appendGateW C.1 C.2.1 C.2.2.1 C.2.2.2.1 C.2.2.2.2.1 C.2.2.2.2.2.1 C.2.2.2.2.2.2.1 C.2.2.2.2.2.2.2.1 C.2.2.2.2.2.2.2.2.1 C.2.2.2.2.2.2.2.2.2 k f f pos e1 ho hs h31 hk hl hg hf40 hu hff hok hT ho hs h31 hk hl yg r.1 he r1.1 he1 hf40 yhu yhf hok hT rfl ?_
                rw [wset_eq]
                exact KW ⟨Nat.zero_le _, RI_add r hk hl hf40, r1, r2, RR_add rr r.1 hk, rr1, GB_or gb _ f, ix_add hT g hf40 hp, fun b j hb => by
                  by_cases e : b = f
                  · exact us_add r hf40 b (Or.inr e)
                  · rw [va_up_ne _ _ e] at hb
                    exact us_add r hf40 b (Or.inl (iu b j hb))⟩
        · exact lw_appendFull C.1 C.2.1 C.2.2.1 C.2.2.2.1 C.2.2.2.2.1 C.2.2.2.2.2.1 C.2.2.2.2.2.2.1 C.2.2.2.2.2.2.2.1 C.2.2.2.2.2.2.2.2.1 C.2.2.2.2.2.2.2.2.2 k e1 ho hk hs h31 hl (by omega) (Or.inr (Or.inr (Or.inr (by rw [nI_clamp (by omega)]; omega)))) h31 r.1 (by rw [ho, isf_of hk]; rfl) (kk hS)

set_option maxHeartbeats 1000000 in
theorem st_save (C : LC p l s m args c D ta A b0 L xs iz kc nc) (hS : SIM sg len ent cnt len1 ent1 cnt1 len2 ent2 cnt2 em em1 gate gt cel pos w) (kk : ∀ {h1 : Nat} {h2 : Nat} {h3 : Nat} {h4 : Nat} {h5 : Nat} {h6 : Nat} {h7 : Nat} {d1 : Nat} {i1 : Nat} {i2 : Nat} {f1 : Nat} {f2 : Nat} {f3 : Nat} {l0 : Nat} {l1 : Nat} {l2 : Nat} {l3 : Nat} {m0 : Nat} {m1 : Nat} {m2 : Nat} {m3 : Nat} {g : Nat → Int32} {sg : Nat} {w : Nat → Int32} {gate : Int64} {probed : Int32} {cel : Nat → Option Nat} {pos : Nat → Option Nat} {len : Nat → Nat} {ent : Nat → Nat} {cnt : Nat → Int32} {num : Int32} {len1 : Nat → Nat} {ent1 : Nat → Nat} {cnt1 : Nat → Int32} {num2 : Int32} {len2 : Nat → Nat} {ent2 : Nat → Nat} {cnt2 : Nat → Int32} {done : Int32} {left : Int32} {off : Bool} {q1 : Nat} {q2 : Nat} {q3 : Nat} {q4 : Nat} {q5 : Nat} {q6 : Nat} {q7 : Nat} {q8 : Nat} {o : Nat → Int64} {em : Nat → Nat} {em1 : Nat → Nat} {gt : Nat → Bool} {flt : Int32}, SIM sg len ent cnt len1 ent1 cnt1 len2 ent2 cnt2 em em1 gate gt cel pos w → LAS p l e s m args below meth c Q D ta A b0 h0 q0 o0 iz (kc + 1) (nc + 6) h1 h2 h3 h4 h5 h6 h7 d1 i1 i2 f1 f2 f3 l0 l1 l2 l3 m0 m1 m2 m3 g sg w gate probed cel pos len ent cnt num len1 ent1 cnt1 num2 len2 ent2 cnt2 done left off q1 q2 q3 q4 q5 q6 q7 q8 o em em1 gt flt 987) : LAS p l e s m args below meth c Q D ta A b0 h0 q0 o0 iz kc nc h1 h2 h3 h4 h5 h6 h7 d1 i1 i2 f1 f2 f3 l0 l1 l2 l3 m0 m1 m2 m3 g sg w gate probed cel pos len ent cnt num len1 ent1 cnt1 num2 len2 ent2 cnt2 done left off q1 q2 q3 q4 q5 q6 q7 q8 o em em1 gt flt 855 := by
  have KW : ∀ {h1 : Nat} {h2 : Nat} {h3 : Nat} {h4 : Nat} {h5 : Nat} {h6 : Nat} {h7 : Nat} {d1 : Nat} {i1 : Nat} {i2 : Nat} {f1 : Nat} {f2 : Nat} {f3 : Nat} {l0 : Nat} {l1 : Nat} {l2 : Nat} {l3 : Nat} {m0 : Nat} {m1 : Nat} {m2 : Nat} {m3 : Nat} {g : Nat → Int32} {sg : Nat} {w : Nat → Int32} {gate : Int64} {probed : Int32} {cel : Nat → Option Nat} {pos : Nat → Option Nat} {len : Nat → Nat} {ent : Nat → Nat} {cnt : Nat → Int32} {num : Int32} {len1 : Nat → Nat} {ent1 : Nat → Nat} {cnt1 : Nat → Int32} {num2 : Int32} {len2 : Nat → Nat} {ent2 : Nat → Nat} {cnt2 : Nat → Int32} {done : Int32} {left : Int32} {off : Bool} {q1 : Nat} {q2 : Nat} {q3 : Nat} {q4 : Nat} {q5 : Nat} {q6 : Nat} {q7 : Nat} {q8 : Nat} {o : Nat → Int64} {em : Nat → Nat} {em1 : Nat → Nat} {gt : Nat → Bool} {flt : Int32}, SIM sg len ent cnt len1 ent1 cnt1 len2 ent2 cnt2 em em1 gate gt cel pos w → LAS p l e s m args below meth c Q D ta A b0 h0 q0 o0 iz kc nc h1 h2 h3 h4 h5 h6 h7 d1 i1 i2 f1 f2 f3 l0 l1 l2 l3 m0 m1 m2 m3 g sg w gate probed cel pos len ent cnt num len1 ent1 cnt1 num2 len2 ent2 cnt2 done left off q1 q2 q3 q4 q5 q6 q7 q8 o em em1 gt flt 987 := fun h => sw_widen (Nat.le_succ _) (Nat.le_add_right _ 6) (kk h)
  have h31 := SIM_le hS
  obtain ⟨s1, r, r1, r2, rr, rr1, gb, hT, iu⟩ := id hS
  have he := RR_bd r rr
  have he1 := RR_bd r1 rr1
  rcases Bool.eq_false_or_eq_true off with ho | ho
  · exact lw_saveX C.1 C.2.1 C.2.2.1 C.2.2.2.1 C.2.2.2.2.1 C.2.2.2.2.2.1 C.2.2.2.2.2.2.1 C.2.2.2.2.2.2.2.1 C.2.2.2.2.2.2.2.2.1 C.2.2.2.2.2.2.2.2.2 ho ho (kk hS)
  · rcases fr_ex (fun j => pw_ok (pwi left done j).1) 7 with hall | ⟨q, hq, hu, hbad⟩
    · obtain ⟨i1, i2, i3⟩ := RI_rv r2 r.1 r.2.1 6 (Nat.le_refl _)
      have ir : RI len (rv len2 ent2 cnt2 len ent 6).1.2 (rv len2 ent2 cnt2 len ent 6).2 := RI_len i1 i2
      have ire : RR len (rv len2 ent2 cnt2 len ent 6).1.2 em := fun f hf j hj => by rw [i3 f hf j hj]; exact rr f hf j hj
      have eu : ∀ i, i < 40 → us_b cnt (rv len2 ent2 cnt2 len ent 6).2 i = mu_b len em len em i := fun i hi => RI_us r rr ir ire hi
      have et := tk_congr (home := hmN w) (cel := cel) (pos := pos) 40 eu
      refine lw_saveOk C.1 C.2.1 C.2.2.1 C.2.2.2.1 C.2.2.2.2.1 C.2.2.2.2.2.1 C.2.2.2.2.2.2.1 C.2.2.2.2.2.2.2.1 C.2.2.2.2.2.2.2.2.1 C.2.2.2.2.2.2.2.2.2 pos ho r.1 r.2.1 r2.1 r2.2.1 hall hT ho r.1 he hall hT rfl ?_
      rw [et]
      refine sw_arr 18 (f' := fun jx => nI (len jx)) rfl (fun j hj => by show nI _ = nI _; rw [i2 j hj]) (ws' := _) rfl ?_
      refine sw_sub [0, 1, 2, 3, 4, 5, 6, 7, 8, 9, 10, 16, 17, 18, 19, 20, 11, 12, 13, 14, 15, 21, 22, 23, 24, 25, 26, 27, 28, 29, 30, 31] (by decide) (ws' := _) rfl rfl ?_
      exact KW ⟨s1, r, ir, r1, rr, ire, gb, (tk_T (hmN_lt w) hT 40), fun b j hb => by
          have hq := (tk_T (hmN_lt w) hT 40).2.1 b j hb
          have h40 := ((tk_T (hmN_lt w) hT 40).1 j b hq.1 hq.2).1
          rw [eu b h40]
          exact tk_us (hmN_lt w) hT 40 b j h40 hb⟩
    · by_cases hq6 : q = 6
      · subst hq6
        obtain ⟨i1, -, -⟩ := RI_rv r2 r.1 r.2.1 6 (Nat.le_refl _)
        exact lw_saveBad6 C.1 C.2.1 C.2.2.1 C.2.2.2.1 C.2.2.2.2.1 C.2.2.2.2.2.1 C.2.2.2.2.2.2.1 C.2.2.2.2.2.2.2.1 C.2.2.2.2.2.2.2.2.1 C.2.2.2.2.2.2.2.2.2 6 ho r.1 r.2.1 r2.1 r2.2.1 hu hbad ho (by decide) hu hbad (KW ⟨s1, r, r1, i1, rr, rr1, gb, hT, iu⟩)
      · obtain ⟨i1, -, -⟩ := RI_rv r2 r.1 r.2.1 q (by omega)
        exact lw_saveBad C.1 C.2.1 C.2.2.1 C.2.2.2.1 C.2.2.2.2.1 C.2.2.2.2.2.1 C.2.2.2.2.2.2.1 C.2.2.2.2.2.2.2.1 C.2.2.2.2.2.2.2.2.1 C.2.2.2.2.2.2.2.2.2 q q ho r.1 r.2.1 r2.1 r2.2.1 (by omega) hu hbad ho hq hu hbad (KW ⟨s1, r, r1, i1, rr, rr1, gb, hT, iu⟩)
end SIMS2
