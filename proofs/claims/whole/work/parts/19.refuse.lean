theorem wd_245 : Cond.classLink RXB 60 EIS ∈ sbT := sb_in 245 (by decide +kernel) rfl
theorem wd_12 : Cond.initialized EIS ∈ sbT := sb_in 12 (by decide +kernel) rfl
theorem wd_332 : Cond.classLink RXB 107 EIO ∈ sbT := sb_in 332 (by decide +kernel) rfl
theorem wd_13 : Cond.initialized EIO ∈ sbT := sb_in 13 (by decide +kernel) rfl
theorem wd_526 : Cond.classLink RXB 162 EIA ∈ sbT := sb_in 526 (by decide +kernel) rfl
theorem wd_17 : Cond.initialized EIA ∈ sbT := sb_in 17 (by decide +kernel) rfl
set_option maxRecDepth 100000 in
set_option maxHeartbeats 4000000 in
theorem c_XB_demandPowerX (l : Launch) (D : va_G) (ta : ClassId × ClassId × ClassId) (h0 : Nat) (h1 : Nat) (h2 : Nat) (h3 : Nat) (h4 : Nat) (h5 : Nat) (h6 : Nat) (h7 : Nat) (sg : Nat) (done : Int32) (left : Int32) (off : Bool) (htr : l.stackTraces = false) (ho : off = true) : sx l yXB_demandPower wsXB_demandPower ({ frames := 6, cells := 1, slots := 6, locals := 82 }) D ta [.ref h0] [(h0, .inr (5, [.ref h1, .int (nI sg), .ref h2, .ref h3, .ref h4, .ref h5, .ref h6, .ref h7])), (h7, .inr (2, [.int done, .int left, .int (sp_b off)]))] EIS := by
  refine sx_ofW (y := yXB_demandPower) (cc := cXB_demandPower) (nL := 1) (ret := none) (by decide) (Nat.le_of_ble_eq_true rfl) (fun p e s m below meth c G hlk hZ hnh => ?_)
  refine sw_eq (ws' := [(h0, .inr (5, [.ref h1, .int (nI sg), .ref h2, .ref h3, .ref h4, .ref h5, .ref h6, .ref h7])), (h7, .inr (2, [.int done, .int left, .int (sp_b off)]))]) (lv2 := [(0, .ref h0)]) (pc2 := 0) (st2 := []) rfl ?_
  refine sw_aload_n G dXB_demandPower_0 rfl 0 rfl ?_
  refine sw_get (C := RXB) (T := TXB) (ref := RXB) (N := 8) G inXB 0 rfl rfl 7 (by decide) wd_116 rfl rfl dXB_demandPower_1 ?_
  refine sw_readV (As := []) (rest := []) G (c_XP_isOff l D ta h7 done left off ) (cwV 0 G.2.2.2.2.1 (sb_goodV wd_138 wd_139 wd_140 wd_7 wd_141) rfl rfl rfl (by decide +kernel) ⟨Nat.le_of_ble_eq_true rfl, Nat.le_of_ble_eq_true rfl⟩) 1 2 rfl rfl rfl rfl (Nat.le_of_ble_eq_true rfl) dXB_demandPower_4 ⟨Nat.le_of_ble_eq_true rfl, Nat.le_of_ble_eq_true rfl⟩ [1] rfl (by decide) ?_
  refine sw_eq (ws' := [(h0, .inr (5, [.ref h1, .int (nI sg), .ref h2, .ref h3, .ref h4, .ref h5, .ref h6, .ref h7])), (h7, .inr (2, [.int done, .int left, .int (sp_b off)]))]) (lv2 := [(0, .ref h0)]) (pc2 := 7) (st2 := [.int (sp_b off)]) rfl ?_
  refine sw_if_eq (x := sp_b off) (tgt := 20) G dXB_demandPower_7 (by decide) (fun br7 => ?_) (fun br7 => ?_)
  · exact absurd (by rw [ho]; decide) (not_not_intro br7)
  · exact sx_site (E := EIS) (ic := 60) (ix := 64) (is := 182) G htr hZ hlk hnh (by decide +kernel) wd_245 wd_12 (by decide) sx_own64 dXB_demandPower_10 dXB_demandPower_13 dXB_demandPower_14 dXB_demandPower_16 dXB_demandPower_19 ⟨Nat.le_of_ble_eq_true rfl, Nat.le_of_ble_eq_true rfl, Nat.le_of_ble_eq_true rfl, Nat.le_of_ble_eq_true rfl⟩

set_option maxRecDepth 100000 in
set_option maxHeartbeats 4000000 in
theorem c_XB_demandFullStageX (l : Launch) (D : va_G) (ta : ClassId × ClassId × ClassId) (h0 : Nat) (h1 : Nat) (h2 : Nat) (h3 : Nat) (h4 : Nat) (h5 : Nat) (h6 : Nat) (h7 : Nat) (sg : Nat) (htr : l.stackTraces = false) (hs : sg < 4) : sx l yXB_demandFullStage wsXB_demandFullStage ({ frames := 6, cells := 1, slots := 6, locals := 82 }) D ta [.ref h0] [(h0, .inr (5, [.ref h1, .int (nI sg), .ref h2, .ref h3, .ref h4, .ref h5, .ref h6, .ref h7]))] EIS := by
  refine sx_ofW (y := yXB_demandFullStage) (cc := cXB_demandFullStage) (nL := 1) (ret := none) (by decide) (Nat.le_of_ble_eq_true rfl) (fun p e s m below meth c G hlk hZ hnh => ?_)
  refine sw_eq (ws' := [(h0, .inr (5, [.ref h1, .int (nI sg), .ref h2, .ref h3, .ref h4, .ref h5, .ref h6, .ref h7]))]) (lv2 := [(0, .ref h0)]) (pc2 := 0) (st2 := []) rfl ?_
  refine sw_aload_n G dXB_demandFullStage_0 rfl 0 rfl ?_
  refine sw_get (C := RXB) (T := TXB) (ref := RXB) (N := 8) G inXB 0 rfl rfl 1 (by decide) wd_110 rfl rfl dXB_demandFullStage_1 ?_
  refine sw_iconst (v := nI 4) G dXB_demandFullStage_4 (by decide) ?_
  refine sw_icmpN_ge (a := sg) (b := 4) (tgt := 18) G dXB_demandFullStage_5 (by decide) (by omega) (by omega) (fun br5 => ?_) (fun br5 => ?_)
  · exact absurd br5 (by omega)
  · exact sx_site (E := EIS) (ic := 60) (ix := 64) (is := 184) G htr hZ hlk hnh (by decide +kernel) wd_245 wd_12 (by decide) sx_own64 dXB_demandFullStage_8 dXB_demandFullStage_11 dXB_demandFullStage_12 dXB_demandFullStage_14 dXB_demandFullStage_17 ⟨Nat.le_of_ble_eq_true rfl, Nat.le_of_ble_eq_true rfl, Nat.le_of_ble_eq_true rfl, Nat.le_of_ble_eq_true rfl⟩

set_option maxRecDepth 100000 in
set_option maxHeartbeats 4000000 in
theorem c_XB_demandFileX (l : Launch) (D : va_G) (ta : ClassId × ClassId × ClassId) (x : Int32) (htr : l.stackTraces = false) (hx : x < 0 ∨ ¬ x < nI 6) : sx l yXB_demandFile wsXB_demandFile ({ frames := 6, cells := 1, slots := 6, locals := 82 }) D ta [.int x] [] EIO := by
  refine sx_ofW (y := yXB_demandFile) (cc := cXB_demandFile) (nL := 1) (ret := none) (by decide) (Nat.le_of_ble_eq_true rfl) (fun p e s m below meth c G hlk hZ hnh => ?_)
  refine sw_eq (ws' := []) (lv2 := [(0, .int x)]) (pc2 := 0) (st2 := []) rfl ?_
  refine sw_iload_n G dXB_demandFile_0 rfl 0 rfl ?_
  refine sw_if_lt (x := x) (tgt := 10) G dXB_demandFile_1 (by decide) (fun br1 => ?_) (fun br1 => ?_)
  · exact sx_site (E := EIO) (ic := 107) (ix := 111) (is := 188) G htr hZ hlk hnh (by decide +kernel) wd_332 wd_13 (by decide) sx_own111 dXB_demandFile_10 dXB_demandFile_13 dXB_demandFile_14 dXB_demandFile_16 dXB_demandFile_19 ⟨Nat.le_of_ble_eq_true rfl, Nat.le_of_ble_eq_true rfl, Nat.le_of_ble_eq_true rfl, Nat.le_of_ble_eq_true rfl⟩
  · refine sw_iload_n G dXB_demandFile_4 rfl 0 rfl ?_
    refine sw_bipush (v := nI 6) G dXB_demandFile_5 (by decide) ?_
    refine sw_icmp_lt (x := x) (y := nI 6) (tgt := 20) G dXB_demandFile_7 (by decide) (fun br7 => ?_) (fun br7 => ?_)
    · exact hx.elim (fun q => absurd q br1) (fun q => absurd br7 q)
    · exact sx_site (E := EIO) (ic := 107) (ix := 111) (is := 188) G htr hZ hlk hnh (by decide +kernel) wd_332 wd_13 (by decide) sx_own111 dXB_demandFile_10 dXB_demandFile_13 dXB_demandFile_14 dXB_demandFile_16 dXB_demandFile_19 ⟨Nat.le_of_ble_eq_true rfl, Nat.le_of_ble_eq_true rfl, Nat.le_of_ble_eq_true rfl, Nat.le_of_ble_eq_true rfl⟩

set_option maxRecDepth 100000 in
set_option maxHeartbeats 4000000 in
theorem c_XB_demandBlockOfF (l : Launch) (D : va_G) (ta : ClassId × ClassId × ClassId) (h0 : Nat) (h1 : Nat) (h2 : Nat) (h3 : Nat) (h4 : Nat) (h5 : Nat) (h6 : Nat) (h7 : Nat) (sg : Nat) (x : Int32) (y : Int32) (htr : l.stackTraces = false) (hx : x < 0 ∨ ¬ x < nI 6) : sx l yXB_demandBlockOf wsXB_demandBlockOf ({ frames := 7, cells := 1, slots := 6, locals := 102 }) D ta [.ref h0, .int x, .int y] [(h0, .inr (5, [.ref h1, .int (nI sg), .ref h2, .ref h3, .ref h4, .ref h5, .ref h6, .ref h7]))] EIO := by
  refine sx_ofW (y := yXB_demandBlockOf) (cc := cXB_demandBlockOf) (nL := 3) (ret := none) (by decide) (Nat.le_of_ble_eq_true rfl) (fun p e s m below meth c G hlk hZ hnh => ?_)
  refine sw_eq (ws' := [(h0, .inr (5, [.ref h1, .int (nI sg), .ref h2, .ref h3, .ref h4, .ref h5, .ref h6, .ref h7]))]) (lv2 := [(0, .ref h0), (1, .int x), (2, .int y)]) (pc2 := 0) (st2 := []) rfl ?_
  refine sw_iload_n G dXB_demandBlockOf_0 rfl 1 rfl ?_
  exact sx_callS (E := EIO) (As := [.int x]) (rest := []) G hZ hlk hnh (c_XB_demandFileX l D ta x (htr) (hx)) (va_cwS 1 G.2.2.2.2.1 (sb_goodS wd_329 wd_330 wd_1 wd_331) rfl rfl rfl (by decide +kernel) ⟨Nat.le_of_ble_eq_true rfl, Nat.le_of_ble_eq_true rfl⟩) rfl rfl (Nat.le_of_ble_eq_true rfl) dXB_demandBlockOf_1 ⟨Nat.le_of_ble_eq_true rfl, Nat.le_of_ble_eq_true rfl⟩ [] rfl (by decide)

set_option maxRecDepth 100000 in
set_option maxHeartbeats 4000000 in
theorem c_XB_demandBlockOfN (l : Launch) (D : va_G) (ta : ClassId × ClassId × ClassId) (h0 : Nat) (h1 : Nat) (h2 : Nat) (h3 : Nat) (h4 : Nat) (h5 : Nat) (h6 : Nat) (h7 : Nat) (f1 : Nat) (f2 : Nat) (f3 : Nat) (sg : Nat) (len : Nat → Nat) (ent : Nat → Nat) (cnt : Nat → Int32) (k : Nat) (y : Int32) (htr : l.stackTraces = false) (hk : k < 6) (hl : len k ≤ 12) (hx : y < 0 ∨ ¬ y < nI (len k)) : sx l yXB_demandBlockOf wsXB_demandBlockOf ({ frames := 6, cells := 1, slots := 6, locals := 82 }) D ta [.ref h0, .int (nI k), .int y] [(h0, .inr (5, [.ref h1, .int (nI sg), .ref h2, .ref h3, .ref h4, .ref h5, .ref h6, .ref h7])), (h4, .inr (3, [.ref f1, .ref f2, .ref f3])), (f1, .inl (ta.1, 6, .inl (fun jx => nI (len jx)))), (f2, .inl (ta.1, 72, .inl (fun jx => nI (ent jx)))), (f3, .inl (ta.1, 40, .inl (cnt)))] EIO := by
  refine sx_ofW (y := yXB_demandBlockOf) (cc := cXB_demandBlockOf) (nL := 3) (ret := none) (by decide) (Nat.le_of_ble_eq_true rfl) (fun p e s m below meth c G hlk hZ hnh => ?_)
  refine sw_eq (ws' := [(h0, .inr (5, [.ref h1, .int (nI sg), .ref h2, .ref h3, .ref h4, .ref h5, .ref h6, .ref h7])), (h4, .inr (3, [.ref f1, .ref f2, .ref f3])), (f1, .inl (ta.1, 6, .inl (fun jx => nI (len jx)))), (f2, .inl (ta.1, 72, .inl (fun jx => nI (ent jx)))), (f3, .inl (ta.1, 40, .inl (cnt)))]) (lv2 := [(0, .ref h0), (1, .int (nI k)), (2, .int y)]) (pc2 := 0) (st2 := []) rfl ?_
  refine sw_iload_n G dXB_demandBlockOf_0 rfl 1 rfl ?_
  refine sw_readS (As := [.int (nI k)]) (rest := []) G (c_XB_demandFile l D ta k (by omega)) (va_cwS 1 G.2.2.2.2.1 (sb_goodS wd_329 wd_330 wd_1 wd_331) rfl rfl rfl (by decide +kernel) ⟨Nat.le_of_ble_eq_true rfl, Nat.le_of_ble_eq_true rfl⟩) rfl rfl (Nat.le_of_ble_eq_true rfl) dXB_demandBlockOf_1 ⟨Nat.le_of_ble_eq_true rfl, Nat.le_of_ble_eq_true rfl⟩ [] rfl (by decide) ?_
  refine sw_eq (ws' := [(h0, .inr (5, [.ref h1, .int (nI sg), .ref h2, .ref h3, .ref h4, .ref h5, .ref h6, .ref h7])), (h4, .inr (3, [.ref f1, .ref f2, .ref f3])), (f1, .inl (ta.1, 6, .inl (fun jx => nI (len jx)))), (f2, .inl (ta.1, 72, .inl (fun jx => nI (ent jx)))), (f3, .inl (ta.1, 40, .inl (cnt)))]) (lv2 := [(0, .ref h0), (1, .int (nI k)), (2, .int y)]) (pc2 := 4) (st2 := []) rfl ?_
  refine sw_iload_n G dXB_demandBlockOf_4 rfl 2 rfl ?_
  refine sw_if_lt (x := y) (tgt := 20) G dXB_demandBlockOf_5 (by decide) (fun br5 => ?_) (fun br5 => ?_)
  · exact sx_site (E := EIO) (ic := 107) (ix := 111) (is := 186) G htr hZ hlk hnh (by decide +kernel) wd_332 wd_13 (by decide) sx_own111 dXB_demandBlockOf_20 dXB_demandBlockOf_23 dXB_demandBlockOf_24 dXB_demandBlockOf_26 dXB_demandBlockOf_29 ⟨Nat.le_of_ble_eq_true rfl, Nat.le_of_ble_eq_true rfl, Nat.le_of_ble_eq_true rfl, Nat.le_of_ble_eq_true rfl⟩
  · refine sw_iload_n G dXB_demandBlockOf_8 rfl 2 rfl ?_
    refine sw_aload_n G dXB_demandBlockOf_9 rfl 0 rfl ?_
    refine sw_get (C := RXB) (T := TXB) (ref := RXB) (N := 8) G inXB 0 rfl rfl 4 (by decide) wd_113 rfl rfl dXB_demandBlockOf_10 ?_
    refine sw_iload_n G dXB_demandBlockOf_13 rfl 1 rfl ?_
    refine sw_readV (As := [.int (nI k)]) (rest := [.int y]) G (c_XR_length l D ta h4 f1 f2 f3 len ent cnt k (by omega)) (cwV 1 G.2.2.2.2.1 (sb_goodV wd_353 wd_167 wd_168 wd_5 wd_169) rfl rfl rfl (by decide +kernel) ⟨Nat.le_of_ble_eq_true rfl, Nat.le_of_ble_eq_true rfl⟩) 1 3 rfl rfl rfl rfl (Nat.le_of_ble_eq_true rfl) dXB_demandBlockOf_14 ⟨Nat.le_of_ble_eq_true rfl, Nat.le_of_ble_eq_true rfl⟩ [1, 2, 3, 4] rfl (by decide) ?_
    refine sw_eq (ws' := [(h0, .inr (5, [.ref h1, .int (nI sg), .ref h2, .ref h3, .ref h4, .ref h5, .ref h6, .ref h7])), (h4, .inr (3, [.ref f1, .ref f2, .ref f3])), (f1, .inl (ta.1, 6, .inl (fun jx => nI (len jx)))), (f2, .inl (ta.1, 72, .inl (fun jx => nI (ent jx)))), (f3, .inl (ta.1, 40, .inl (cnt)))]) (lv2 := [(0, .ref h0), (1, .int (nI k)), (2, .int y)]) (pc2 := 17) (st2 := [.int (nI (len k)), .int y]) rfl ?_
    refine sw_icmp_lt (x := y) (y := nI (len k)) (tgt := 30) G dXB_demandBlockOf_17 (by decide) (fun br17 => ?_) (fun br17 => ?_)
    · exact hx.elim (fun q => absurd q br5) (fun q => absurd br17 q)
    · exact sx_site (E := EIO) (ic := 107) (ix := 111) (is := 186) G htr hZ hlk hnh (by decide +kernel) wd_332 wd_13 (by decide) sx_own111 dXB_demandBlockOf_20 dXB_demandBlockOf_23 dXB_demandBlockOf_24 dXB_demandBlockOf_26 dXB_demandBlockOf_29 ⟨Nat.le_of_ble_eq_true rfl, Nat.le_of_ble_eq_true rfl, Nat.le_of_ble_eq_true rfl, Nat.le_of_ble_eq_true rfl⟩

set_option maxRecDepth 100000 in
set_option maxHeartbeats 4000000 in
theorem c_XB_feedX (l : Launch) (D : va_G) (ta : ClassId × ClassId × ClassId) (h0 : Nat) (h1 : Nat) (h2 : Nat) (h3 : Nat) (h4 : Nat) (h5 : Nat) (h6 : Nat) (h7 : Nat) (sg : Nat) (done : Int32) (left : Int32) (off : Bool) (x : Int32) (htr : l.stackTraces = false) (ho : off = true) : sx l yXB_feed wsXB_feed ({ frames := 7, cells := 1, slots := 6, locals := 102 }) D ta [.ref h0, .int x] [(h0, .inr (5, [.ref h1, .int (nI sg), .ref h2, .ref h3, .ref h4, .ref h5, .ref h6, .ref h7])), (h7, .inr (2, [.int done, .int left, .int (sp_b off)]))] EIS := by
  refine sx_ofW (y := yXB_feed) (cc := cXB_feed) (nL := 2) (ret := (some .int)) (by decide) (Nat.le_of_ble_eq_true rfl) (fun p e s m below meth c G hlk hZ hnh => ?_)
  refine sw_eq (ws' := [(h0, .inr (5, [.ref h1, .int (nI sg), .ref h2, .ref h3, .ref h4, .ref h5, .ref h6, .ref h7])), (h7, .inr (2, [.int done, .int left, .int (sp_b off)]))]) (lv2 := [(0, .ref h0), (1, .int x)]) (pc2 := 0) (st2 := []) rfl ?_
  refine sw_aload_n G dXB_feed_0 rfl 0 rfl ?_
  exact sx_callV (E := EIS) (As := []) (rest := []) G hZ hlk hnh (c_XB_demandPowerX l D ta h0 h1 h2 h3 h4 h5 h6 h7 sg done left off (htr) (ho)) (cwV 0 G.2.2.2.2.1 (sb_goodV wd_241 wd_243 ws_XB_demandPower wd_1 wd_244) rfl rfl rfl (by decide +kernel) ⟨Nat.le_of_ble_eq_true rfl, Nat.le_of_ble_eq_true rfl⟩) 0 5 rfl rfl rfl rfl (Nat.le_of_ble_eq_true rfl) dXB_feed_1 ⟨Nat.le_of_ble_eq_true rfl, Nat.le_of_ble_eq_true rfl⟩ [0, 1] rfl (by decide)

set_option maxRecDepth 100000 in
set_option maxHeartbeats 4000000 in
theorem c_XB_dropX (l : Launch) (D : va_G) (ta : ClassId × ClassId × ClassId) (h0 : Nat) (h1 : Nat) (h2 : Nat) (h3 : Nat) (h4 : Nat) (h5 : Nat) (h6 : Nat) (h7 : Nat) (sg : Nat) (done : Int32) (left : Int32) (off : Bool) (htr : l.stackTraces = false) (ho : off = true) : sx l yXB_drop wsXB_drop ({ frames := 7, cells := 1, slots := 6, locals := 102 }) D ta [.ref h0] [(h0, .inr (5, [.ref h1, .int (nI sg), .ref h2, .ref h3, .ref h4, .ref h5, .ref h6, .ref h7])), (h7, .inr (2, [.int done, .int left, .int (sp_b off)]))] EIS := by
  refine sx_ofW (y := yXB_drop) (cc := cXB_drop) (nL := 2) (ret := (some .int)) (by decide) (Nat.le_of_ble_eq_true rfl) (fun p e s m below meth c G hlk hZ hnh => ?_)
  refine sw_eq (ws' := [(h0, .inr (5, [.ref h1, .int (nI sg), .ref h2, .ref h3, .ref h4, .ref h5, .ref h6, .ref h7])), (h7, .inr (2, [.int done, .int left, .int (sp_b off)]))]) (lv2 := [(0, .ref h0)]) (pc2 := 0) (st2 := []) rfl ?_
  refine sw_aload_n G dXB_drop_0 rfl 0 rfl ?_
  exact sx_callV (E := EIS) (As := []) (rest := []) G hZ hlk hnh (c_XB_demandPowerX l D ta h0 h1 h2 h3 h4 h5 h6 h7 sg done left off (htr) (ho)) (cwV 0 G.2.2.2.2.1 (sb_goodV wd_241 wd_243 ws_XB_demandPower wd_1 wd_244) rfl rfl rfl (by decide +kernel) ⟨Nat.le_of_ble_eq_true rfl, Nat.le_of_ble_eq_true rfl⟩) 0 5 rfl rfl rfl rfl (Nat.le_of_ble_eq_true rfl) dXB_drop_1 ⟨Nat.le_of_ble_eq_true rfl, Nat.le_of_ble_eq_true rfl⟩ [0, 1] rfl (by decide)

set_option maxRecDepth 100000 in
set_option maxHeartbeats 4000000 in
theorem c_XB_appendX (l : Launch) (D : va_G) (ta : ClassId × ClassId × ClassId) (h0 : Nat) (h1 : Nat) (h2 : Nat) (h3 : Nat) (h4 : Nat) (h5 : Nat) (h6 : Nat) (h7 : Nat) (sg : Nat) (done : Int32) (left : Int32) (off : Bool) (x : Int32) (htr : l.stackTraces = false) (ho : off = true) : sx l yXB_append wsXB_append ({ frames := 7, cells := 1, slots := 6, locals := 102 }) D ta [.ref h0, .int x] [(h0, .inr (5, [.ref h1, .int (nI sg), .ref h2, .ref h3, .ref h4, .ref h5, .ref h6, .ref h7])), (h7, .inr (2, [.int done, .int left, .int (sp_b off)]))] EIS := by
  refine sx_ofW (y := yXB_append) (cc := cXB_append) (nL := 3) (ret := (some .int)) (by decide) (Nat.le_of_ble_eq_true rfl) (fun p e s m below meth c G hlk hZ hnh => ?_)
  refine sw_eq (ws' := [(h0, .inr (5, [.ref h1, .int (nI sg), .ref h2, .ref h3, .ref h4, .ref h5, .ref h6, .ref h7])), (h7, .inr (2, [.int done, .int left, .int (sp_b off)]))]) (lv2 := [(0, .ref h0), (1, .int x)]) (pc2 := 0) (st2 := []) rfl ?_
  refine sw_aload_n G dXB_append_0 rfl 0 rfl ?_
  exact sx_callV (E := EIS) (As := []) (rest := []) G hZ hlk hnh (c_XB_demandPowerX l D ta h0 h1 h2 h3 h4 h5 h6 h7 sg done left off (htr) (ho)) (cwV 0 G.2.2.2.2.1 (sb_goodV wd_241 wd_243 ws_XB_demandPower wd_1 wd_244) rfl rfl rfl (by decide +kernel) ⟨Nat.le_of_ble_eq_true rfl, Nat.le_of_ble_eq_true rfl⟩) 0 5 rfl rfl rfl rfl (Nat.le_of_ble_eq_true rfl) dXB_append_1 ⟨Nat.le_of_ble_eq_true rfl, Nat.le_of_ble_eq_true rfl⟩ [0, 1] rfl (by decide)

set_option maxRecDepth 100000 in
set_option maxHeartbeats 4000000 in
theorem c_XB_cutX (l : Launch) (D : va_G) (ta : ClassId × ClassId × ClassId) (h0 : Nat) (h1 : Nat) (h2 : Nat) (h3 : Nat) (h4 : Nat) (h5 : Nat) (h6 : Nat) (h7 : Nat) (sg : Nat) (done : Int32) (left : Int32) (off : Bool) (x : Int32) (y : Int32) (htr : l.stackTraces = false) (ho : off = true) : sx l yXB_cut wsXB_cut ({ frames := 7, cells := 1, slots := 6, locals := 102 }) D ta [.ref h0, .int x, .int y] [(h0, .inr (5, [.ref h1, .int (nI sg), .ref h2, .ref h3, .ref h4, .ref h5, .ref h6, .ref h7])), (h7, .inr (2, [.int done, .int left, .int (sp_b off)]))] EIS := by
  refine sx_ofW (y := yXB_cut) (cc := cXB_cut) (nL := 3) (ret := (some .int)) (by decide) (Nat.le_of_ble_eq_true rfl) (fun p e s m below meth c G hlk hZ hnh => ?_)
  refine sw_eq (ws' := [(h0, .inr (5, [.ref h1, .int (nI sg), .ref h2, .ref h3, .ref h4, .ref h5, .ref h6, .ref h7])), (h7, .inr (2, [.int done, .int left, .int (sp_b off)]))]) (lv2 := [(0, .ref h0), (1, .int x), (2, .int y)]) (pc2 := 0) (st2 := []) rfl ?_
  refine sw_aload_n G dXB_cut_0 rfl 0 rfl ?_
  exact sx_callV (E := EIS) (As := []) (rest := []) G hZ hlk hnh (c_XB_demandPowerX l D ta h0 h1 h2 h3 h4 h5 h6 h7 sg done left off (htr) (ho)) (cwV 0 G.2.2.2.2.1 (sb_goodV wd_241 wd_243 ws_XB_demandPower wd_1 wd_244) rfl rfl rfl (by decide +kernel) ⟨Nat.le_of_ble_eq_true rfl, Nat.le_of_ble_eq_true rfl⟩) 0 5 rfl rfl rfl rfl (Nat.le_of_ble_eq_true rfl) dXB_cut_1 ⟨Nat.le_of_ble_eq_true rfl, Nat.le_of_ble_eq_true rfl⟩ [0, 1] rfl (by decide)

set_option maxRecDepth 100000 in
set_option maxHeartbeats 4000000 in
theorem c_XB_copyX (l : Launch) (D : va_G) (ta : ClassId × ClassId × ClassId) (h0 : Nat) (h1 : Nat) (h2 : Nat) (h3 : Nat) (h4 : Nat) (h5 : Nat) (h6 : Nat) (h7 : Nat) (sg : Nat) (done : Int32) (left : Int32) (off : Bool) (x : Int32) (y : Int32) (htr : l.stackTraces = false) (ho : off = true) : sx l yXB_copy wsXB_copy ({ frames := 7, cells := 1, slots := 6, locals := 102 }) D ta [.ref h0, .int x, .int y] [(h0, .inr (5, [.ref h1, .int (nI sg), .ref h2, .ref h3, .ref h4, .ref h5, .ref h6, .ref h7])), (h7, .inr (2, [.int done, .int left, .int (sp_b off)]))] EIS := by
  refine sx_ofW (y := yXB_copy) (cc := cXB_copy) (nL := 3) (ret := (some .int)) (by decide) (Nat.le_of_ble_eq_true rfl) (fun p e s m below meth c G hlk hZ hnh => ?_)
  refine sw_eq (ws' := [(h0, .inr (5, [.ref h1, .int (nI sg), .ref h2, .ref h3, .ref h4, .ref h5, .ref h6, .ref h7])), (h7, .inr (2, [.int done, .int left, .int (sp_b off)]))]) (lv2 := [(0, .ref h0), (1, .int x), (2, .int y)]) (pc2 := 0) (st2 := []) rfl ?_
  refine sw_aload_n G dXB_copy_0 rfl 0 rfl ?_
  exact sx_callV (E := EIS) (As := []) (rest := []) G hZ hlk hnh (c_XB_demandPowerX l D ta h0 h1 h2 h3 h4 h5 h6 h7 sg done left off (htr) (ho)) (cwV 0 G.2.2.2.2.1 (sb_goodV wd_241 wd_243 ws_XB_demandPower wd_1 wd_244) rfl rfl rfl (by decide +kernel) ⟨Nat.le_of_ble_eq_true rfl, Nat.le_of_ble_eq_true rfl⟩) 0 5 rfl rfl rfl rfl (Nat.le_of_ble_eq_true rfl) dXB_copy_1 ⟨Nat.le_of_ble_eq_true rfl, Nat.le_of_ble_eq_true rfl⟩ [0, 1] rfl (by decide)

set_option maxRecDepth 100000 in
set_option maxHeartbeats 4000000 in
theorem c_XB_blocksX (l : Launch) (D : va_G) (ta : ClassId × ClassId × ClassId) (h0 : Nat) (h1 : Nat) (h2 : Nat) (h3 : Nat) (h4 : Nat) (h5 : Nat) (h6 : Nat) (h7 : Nat) (sg : Nat) (done : Int32) (left : Int32) (off : Bool) (x : Int32) (htr : l.stackTraces = false) (ho : off = true) : sx l yXB_blocks wsXB_blocks ({ frames := 7, cells := 1, slots := 6, locals := 102 }) D ta [.ref h0, .int x] [(h0, .inr (5, [.ref h1, .int (nI sg), .ref h2, .ref h3, .ref h4, .ref h5, .ref h6, .ref h7])), (h7, .inr (2, [.int done, .int left, .int (sp_b off)]))] EIS := by
  refine sx_ofW (y := yXB_blocks) (cc := cXB_blocks) (nL := 2) (ret := (some .int)) (by decide) (Nat.le_of_ble_eq_true rfl) (fun p e s m below meth c G hlk hZ hnh => ?_)
  refine sw_eq (ws' := [(h0, .inr (5, [.ref h1, .int (nI sg), .ref h2, .ref h3, .ref h4, .ref h5, .ref h6, .ref h7])), (h7, .inr (2, [.int done, .int left, .int (sp_b off)]))]) (lv2 := [(0, .ref h0), (1, .int x)]) (pc2 := 0) (st2 := []) rfl ?_
  refine sw_aload_n G dXB_blocks_0 rfl 0 rfl ?_
  exact sx_callV (E := EIS) (As := []) (rest := []) G hZ hlk hnh (c_XB_demandPowerX l D ta h0 h1 h2 h3 h4 h5 h6 h7 sg done left off (htr) (ho)) (cwV 0 G.2.2.2.2.1 (sb_goodV wd_241 wd_243 ws_XB_demandPower wd_1 wd_244) rfl rfl rfl (by decide +kernel) ⟨Nat.le_of_ble_eq_true rfl, Nat.le_of_ble_eq_true rfl⟩) 0 5 rfl rfl rfl rfl (Nat.le_of_ble_eq_true rfl) dXB_blocks_1 ⟨Nat.le_of_ble_eq_true rfl, Nat.le_of_ble_eq_true rfl⟩ [0, 1] rfl (by decide)

set_option maxRecDepth 100000 in
set_option maxHeartbeats 4000000 in
theorem c_XB_blockX (l : Launch) (D : va_G) (ta : ClassId × ClassId × ClassId) (h0 : Nat) (h1 : Nat) (h2 : Nat) (h3 : Nat) (h4 : Nat) (h5 : Nat) (h6 : Nat) (h7 : Nat) (sg : Nat) (done : Int32) (left : Int32) (off : Bool) (x : Int32) (y : Int32) (htr : l.stackTraces = false) (ho : off = true) : sx l yXB_block wsXB_block ({ frames := 7, cells := 1, slots := 6, locals := 102 }) D ta [.ref h0, .int x, .int y] [(h0, .inr (5, [.ref h1, .int (nI sg), .ref h2, .ref h3, .ref h4, .ref h5, .ref h6, .ref h7])), (h7, .inr (2, [.int done, .int left, .int (sp_b off)]))] EIS := by
  refine sx_ofW (y := yXB_block) (cc := cXB_block) (nL := 3) (ret := (some .int)) (by decide) (Nat.le_of_ble_eq_true rfl) (fun p e s m below meth c G hlk hZ hnh => ?_)
  refine sw_eq (ws' := [(h0, .inr (5, [.ref h1, .int (nI sg), .ref h2, .ref h3, .ref h4, .ref h5, .ref h6, .ref h7])), (h7, .inr (2, [.int done, .int left, .int (sp_b off)]))]) (lv2 := [(0, .ref h0), (1, .int x), (2, .int y)]) (pc2 := 0) (st2 := []) rfl ?_
  refine sw_aload_n G dXB_block_0 rfl 0 rfl ?_
  exact sx_callV (E := EIS) (As := []) (rest := []) G hZ hlk hnh (c_XB_demandPowerX l D ta h0 h1 h2 h3 h4 h5 h6 h7 sg done left off (htr) (ho)) (cwV 0 G.2.2.2.2.1 (sb_goodV wd_241 wd_243 ws_XB_demandPower wd_1 wd_244) rfl rfl rfl (by decide +kernel) ⟨Nat.le_of_ble_eq_true rfl, Nat.le_of_ble_eq_true rfl⟩) 0 5 rfl rfl rfl rfl (Nat.le_of_ble_eq_true rfl) dXB_block_1 ⟨Nat.le_of_ble_eq_true rfl, Nat.le_of_ble_eq_true rfl⟩ [0, 1] rfl (by decide)

set_option maxRecDepth 100000 in
set_option maxHeartbeats 4000000 in
theorem c_XB_wordX (l : Launch) (D : va_G) (ta : ClassId × ClassId × ClassId) (h0 : Nat) (h1 : Nat) (h2 : Nat) (h3 : Nat) (h4 : Nat) (h5 : Nat) (h6 : Nat) (h7 : Nat) (sg : Nat) (done : Int32) (left : Int32) (off : Bool) (x : Int32) (y : Int32) (v : Int32) (htr : l.stackTraces = false) (ho : off = true) : sx l yXB_word wsXB_word ({ frames := 7, cells := 1, slots := 6, locals := 102 }) D ta [.ref h0, .int x, .int y, .int v] [(h0, .inr (5, [.ref h1, .int (nI sg), .ref h2, .ref h3, .ref h4, .ref h5, .ref h6, .ref h7])), (h7, .inr (2, [.int done, .int left, .int (sp_b off)]))] EIS := by
  refine sx_ofW (y := yXB_word) (cc := cXB_word) (nL := 4) (ret := (some .int)) (by decide) (Nat.le_of_ble_eq_true rfl) (fun p e s m below meth c G hlk hZ hnh => ?_)
  refine sw_eq (ws' := [(h0, .inr (5, [.ref h1, .int (nI sg), .ref h2, .ref h3, .ref h4, .ref h5, .ref h6, .ref h7])), (h7, .inr (2, [.int done, .int left, .int (sp_b off)]))]) (lv2 := [(0, .ref h0), (1, .int x), (2, .int y), (3, .int v)]) (pc2 := 0) (st2 := []) rfl ?_
  refine sw_aload_n G dXB_word_0 rfl 0 rfl ?_
  exact sx_callV (E := EIS) (As := []) (rest := []) G hZ hlk hnh (c_XB_demandPowerX l D ta h0 h1 h2 h3 h4 h5 h6 h7 sg done left off (htr) (ho)) (cwV 0 G.2.2.2.2.1 (sb_goodV wd_241 wd_243 ws_XB_demandPower wd_1 wd_244) rfl rfl rfl (by decide +kernel) ⟨Nat.le_of_ble_eq_true rfl, Nat.le_of_ble_eq_true rfl⟩) 0 5 rfl rfl rfl rfl (Nat.le_of_ble_eq_true rfl) dXB_word_1 ⟨Nat.le_of_ble_eq_true rfl, Nat.le_of_ble_eq_true rfl⟩ [0, 1] rfl (by decide)

set_option maxRecDepth 100000 in
set_option maxHeartbeats 4000000 in
theorem c_XB_findX (l : Launch) (D : va_G) (ta : ClassId × ClassId × ClassId) (h0 : Nat) (h1 : Nat) (h2 : Nat) (h3 : Nat) (h4 : Nat) (h5 : Nat) (h6 : Nat) (h7 : Nat) (sg : Nat) (done : Int32) (left : Int32) (off : Bool) (htr : l.stackTraces = false) (ho : off = true) : sx l yXB_find wsXB_find ({ frames := 7, cells := 1, slots := 6, locals := 102 }) D ta [.ref h0] [(h0, .inr (5, [.ref h1, .int (nI sg), .ref h2, .ref h3, .ref h4, .ref h5, .ref h6, .ref h7])), (h7, .inr (2, [.int done, .int left, .int (sp_b off)]))] EIS := by
  refine sx_ofW (y := yXB_find) (cc := cXB_find) (nL := 1) (ret := (some .int)) (by decide) (Nat.le_of_ble_eq_true rfl) (fun p e s m below meth c G hlk hZ hnh => ?_)
  refine sw_eq (ws' := [(h0, .inr (5, [.ref h1, .int (nI sg), .ref h2, .ref h3, .ref h4, .ref h5, .ref h6, .ref h7])), (h7, .inr (2, [.int done, .int left, .int (sp_b off)]))]) (lv2 := [(0, .ref h0)]) (pc2 := 0) (st2 := []) rfl ?_
  refine sw_aload_n G dXB_find_0 rfl 0 rfl ?_
  exact sx_callV (E := EIS) (As := []) (rest := []) G hZ hlk hnh (c_XB_demandPowerX l D ta h0 h1 h2 h3 h4 h5 h6 h7 sg done left off (htr) (ho)) (cwV 0 G.2.2.2.2.1 (sb_goodV wd_241 wd_243 ws_XB_demandPower wd_1 wd_244) rfl rfl rfl (by decide +kernel) ⟨Nat.le_of_ble_eq_true rfl, Nat.le_of_ble_eq_true rfl⟩) 0 5 rfl rfl rfl rfl (Nat.le_of_ble_eq_true rfl) dXB_find_1 ⟨Nat.le_of_ble_eq_true rfl, Nat.le_of_ble_eq_true rfl⟩ [0, 1] rfl (by decide)

set_option maxRecDepth 100000 in
set_option maxHeartbeats 4000000 in
theorem c_XB_passesX (l : Launch) (D : va_G) (ta : ClassId × ClassId × ClassId) (h0 : Nat) (h1 : Nat) (h2 : Nat) (h3 : Nat) (h4 : Nat) (h5 : Nat) (h6 : Nat) (h7 : Nat) (sg : Nat) (done : Int32) (left : Int32) (off : Bool) (htr : l.stackTraces = false) (ho : off = true) : sx l yXB_passes wsXB_passes ({ frames := 7, cells := 1, slots := 6, locals := 102 }) D ta [.ref h0] [(h0, .inr (5, [.ref h1, .int (nI sg), .ref h2, .ref h3, .ref h4, .ref h5, .ref h6, .ref h7])), (h7, .inr (2, [.int done, .int left, .int (sp_b off)]))] EIS := by
  refine sx_ofW (y := yXB_passes) (cc := cXB_passes) (nL := 1) (ret := (some .boolean)) (by decide) (Nat.le_of_ble_eq_true rfl) (fun p e s m below meth c G hlk hZ hnh => ?_)
  refine sw_eq (ws' := [(h0, .inr (5, [.ref h1, .int (nI sg), .ref h2, .ref h3, .ref h4, .ref h5, .ref h6, .ref h7])), (h7, .inr (2, [.int done, .int left, .int (sp_b off)]))]) (lv2 := [(0, .ref h0)]) (pc2 := 0) (st2 := []) rfl ?_
  refine sw_aload_n G dXB_passes_0 rfl 0 rfl ?_
  exact sx_callV (E := EIS) (As := []) (rest := []) G hZ hlk hnh (c_XB_demandPowerX l D ta h0 h1 h2 h3 h4 h5 h6 h7 sg done left off (htr) (ho)) (cwV 0 G.2.2.2.2.1 (sb_goodV wd_241 wd_243 ws_XB_demandPower wd_1 wd_244) rfl rfl rfl (by decide +kernel) ⟨Nat.le_of_ble_eq_true rfl, Nat.le_of_ble_eq_true rfl⟩) 0 5 rfl rfl rfl rfl (Nat.le_of_ble_eq_true rfl) dXB_passes_1 ⟨Nat.le_of_ble_eq_true rfl, Nat.le_of_ble_eq_true rfl⟩ [0, 1] rfl (by decide)

set_option maxRecDepth 100000 in
set_option maxHeartbeats 4000000 in
theorem c_XB_cellX (l : Launch) (D : va_G) (ta : ClassId × ClassId × ClassId) (h0 : Nat) (h1 : Nat) (h2 : Nat) (h3 : Nat) (h4 : Nat) (h5 : Nat) (h6 : Nat) (h7 : Nat) (sg : Nat) (done : Int32) (left : Int32) (off : Bool) (x : Int32) (htr : l.stackTraces = false) (ho : off = true) : sx l yXB_cell wsXB_cell ({ frames := 7, cells := 1, slots := 6, locals := 102 }) D ta [.ref h0, .int x] [(h0, .inr (5, [.ref h1, .int (nI sg), .ref h2, .ref h3, .ref h4, .ref h5, .ref h6, .ref h7])), (h7, .inr (2, [.int done, .int left, .int (sp_b off)]))] EIS := by
  refine sx_ofW (y := yXB_cell) (cc := cXB_cell) (nL := 2) (ret := (some .int)) (by decide) (Nat.le_of_ble_eq_true rfl) (fun p e s m below meth c G hlk hZ hnh => ?_)
  refine sw_eq (ws' := [(h0, .inr (5, [.ref h1, .int (nI sg), .ref h2, .ref h3, .ref h4, .ref h5, .ref h6, .ref h7])), (h7, .inr (2, [.int done, .int left, .int (sp_b off)]))]) (lv2 := [(0, .ref h0), (1, .int x)]) (pc2 := 0) (st2 := []) rfl ?_
  refine sw_aload_n G dXB_cell_0 rfl 0 rfl ?_
  exact sx_callV (E := EIS) (As := []) (rest := []) G hZ hlk hnh (c_XB_demandPowerX l D ta h0 h1 h2 h3 h4 h5 h6 h7 sg done left off (htr) (ho)) (cwV 0 G.2.2.2.2.1 (sb_goodV wd_241 wd_243 ws_XB_demandPower wd_1 wd_244) rfl rfl rfl (by decide +kernel) ⟨Nat.le_of_ble_eq_true rfl, Nat.le_of_ble_eq_true rfl⟩) 0 5 rfl rfl rfl rfl (Nat.le_of_ble_eq_true rfl) dXB_cell_1 ⟨Nat.le_of_ble_eq_true rfl, Nat.le_of_ble_eq_true rfl⟩ [0, 1] rfl (by decide)

set_option maxRecDepth 100000 in
set_option maxHeartbeats 4000000 in
theorem c_XB_countX (l : Launch) (D : va_G) (ta : ClassId × ClassId × ClassId) (h0 : Nat) (h1 : Nat) (h2 : Nat) (h3 : Nat) (h4 : Nat) (h5 : Nat) (h6 : Nat) (h7 : Nat) (sg : Nat) (done : Int32) (left : Int32) (off : Bool) (x : Int32) (htr : l.stackTraces = false) (ho : off = true) : sx l yXB_count wsXB_count ({ frames := 7, cells := 1, slots := 6, locals := 102 }) D ta [.ref h0, .int x] [(h0, .inr (5, [.ref h1, .int (nI sg), .ref h2, .ref h3, .ref h4, .ref h5, .ref h6, .ref h7])), (h7, .inr (2, [.int done, .int left, .int (sp_b off)]))] EIS := by
  refine sx_ofW (y := yXB_count) (cc := cXB_count) (nL := 2) (ret := (some .int)) (by decide) (Nat.le_of_ble_eq_true rfl) (fun p e s m below meth c G hlk hZ hnh => ?_)
  refine sw_eq (ws' := [(h0, .inr (5, [.ref h1, .int (nI sg), .ref h2, .ref h3, .ref h4, .ref h5, .ref h6, .ref h7])), (h7, .inr (2, [.int done, .int left, .int (sp_b off)]))]) (lv2 := [(0, .ref h0), (1, .int x)]) (pc2 := 0) (st2 := []) rfl ?_
  refine sw_aload_n G dXB_count_0 rfl 0 rfl ?_
  exact sx_callV (E := EIS) (As := []) (rest := []) G hZ hlk hnh (c_XB_demandPowerX l D ta h0 h1 h2 h3 h4 h5 h6 h7 sg done left off (htr) (ho)) (cwV 0 G.2.2.2.2.1 (sb_goodV wd_241 wd_243 ws_XB_demandPower wd_1 wd_244) rfl rfl rfl (by decide +kernel) ⟨Nat.le_of_ble_eq_true rfl, Nat.le_of_ble_eq_true rfl⟩) 0 5 rfl rfl rfl rfl (Nat.le_of_ble_eq_true rfl) dXB_count_1 ⟨Nat.le_of_ble_eq_true rfl, Nat.le_of_ble_eq_true rfl⟩ [0, 1] rfl (by decide)

set_option maxRecDepth 100000 in
set_option maxHeartbeats 4000000 in
theorem c_XB_refreshX (l : Launch) (D : va_G) (ta : ClassId × ClassId × ClassId) (h0 : Nat) (h1 : Nat) (h2 : Nat) (h3 : Nat) (h4 : Nat) (h5 : Nat) (h6 : Nat) (h7 : Nat) (sg : Nat) (done : Int32) (left : Int32) (off : Bool) (htr : l.stackTraces = false) (ho : off = true) : sx l yXB_refresh wsXB_refresh ({ frames := 7, cells := 1, slots := 6, locals := 102 }) D ta [.ref h0] [(h0, .inr (5, [.ref h1, .int (nI sg), .ref h2, .ref h3, .ref h4, .ref h5, .ref h6, .ref h7])), (h7, .inr (2, [.int done, .int left, .int (sp_b off)]))] EIS := by
  refine sx_ofW (y := yXB_refresh) (cc := cXB_refresh) (nL := 1) (ret := none) (by decide) (Nat.le_of_ble_eq_true rfl) (fun p e s m below meth c G hlk hZ hnh => ?_)
  refine sw_eq (ws' := [(h0, .inr (5, [.ref h1, .int (nI sg), .ref h2, .ref h3, .ref h4, .ref h5, .ref h6, .ref h7])), (h7, .inr (2, [.int done, .int left, .int (sp_b off)]))]) (lv2 := [(0, .ref h0)]) (pc2 := 0) (st2 := []) rfl ?_
  refine sw_aload_n G dXB_refresh_0 rfl 0 rfl ?_
  exact sx_callV (E := EIS) (As := []) (rest := []) G hZ hlk hnh (c_XB_demandPowerX l D ta h0 h1 h2 h3 h4 h5 h6 h7 sg done left off (htr) (ho)) (cwV 0 G.2.2.2.2.1 (sb_goodV wd_241 wd_243 ws_XB_demandPower wd_1 wd_244) rfl rfl rfl (by decide +kernel) ⟨Nat.le_of_ble_eq_true rfl, Nat.le_of_ble_eq_true rfl⟩) 0 5 rfl rfl rfl rfl (Nat.le_of_ble_eq_true rfl) dXB_refresh_1 ⟨Nat.le_of_ble_eq_true rfl, Nat.le_of_ble_eq_true rfl⟩ [0, 1] rfl (by decide)

set_option maxRecDepth 100000 in
set_option maxHeartbeats 4000000 in
theorem c_XB_saveX (l : Launch) (D : va_G) (ta : ClassId × ClassId × ClassId) (h0 : Nat) (h1 : Nat) (h2 : Nat) (h3 : Nat) (h4 : Nat) (h5 : Nat) (h6 : Nat) (h7 : Nat) (sg : Nat) (done : Int32) (left : Int32) (off : Bool) (htr : l.stackTraces = false) (ho : off = true) : sx l yXB_save wsXB_save ({ frames := 7, cells := 1, slots := 6, locals := 102 }) D ta [.ref h0] [(h0, .inr (5, [.ref h1, .int (nI sg), .ref h2, .ref h3, .ref h4, .ref h5, .ref h6, .ref h7])), (h7, .inr (2, [.int done, .int left, .int (sp_b off)]))] EIS := by
  refine sx_ofW (y := yXB_save) (cc := cXB_save) (nL := 2) (ret := (some .int)) (by decide) (Nat.le_of_ble_eq_true rfl) (fun p e s m below meth c G hlk hZ hnh => ?_)
  refine sw_eq (ws' := [(h0, .inr (5, [.ref h1, .int (nI sg), .ref h2, .ref h3, .ref h4, .ref h5, .ref h6, .ref h7])), (h7, .inr (2, [.int done, .int left, .int (sp_b off)]))]) (lv2 := [(0, .ref h0)]) (pc2 := 0) (st2 := []) rfl ?_
  refine sw_aload_n G dXB_save_0 rfl 0 rfl ?_
  exact sx_callV (E := EIS) (As := []) (rest := []) G hZ hlk hnh (c_XB_demandPowerX l D ta h0 h1 h2 h3 h4 h5 h6 h7 sg done left off (htr) (ho)) (cwV 0 G.2.2.2.2.1 (sb_goodV wd_241 wd_243 ws_XB_demandPower wd_1 wd_244) rfl rfl rfl (by decide +kernel) ⟨Nat.le_of_ble_eq_true rfl, Nat.le_of_ble_eq_true rfl⟩) 0 5 rfl rfl rfl rfl (Nat.le_of_ble_eq_true rfl) dXB_save_1 ⟨Nat.le_of_ble_eq_true rfl, Nat.le_of_ble_eq_true rfl⟩ [0, 1] rfl (by decide)

set_option maxRecDepth 100000 in
set_option maxHeartbeats 4000000 in
theorem c_XB_feedFull (l : Launch) (D : va_G) (ta : ClassId × ClassId × ClassId) (h0 : Nat) (h1 : Nat) (h2 : Nat) (h3 : Nat) (h4 : Nat) (h5 : Nat) (h6 : Nat) (h7 : Nat) (sg : Nat) (done : Int32) (left : Int32) (off : Bool) (x : Int32) (htr : l.stackTraces = false) (ho : off = false) (hs : 4 ≤ sg) (hs2 : sg < 2 ^ 31) : sx l yXB_feed wsXB_feed ({ frames := 6, cells := 1, slots := 6, locals := 82 }) D ta [.ref h0, .int x] [(h0, .inr (5, [.ref h1, .int (nI sg), .ref h2, .ref h3, .ref h4, .ref h5, .ref h6, .ref h7])), (h7, .inr (2, [.int done, .int left, .int (sp_b off)]))] EIS := by
  refine sx_ofW (y := yXB_feed) (cc := cXB_feed) (nL := 2) (ret := (some .int)) (by decide) (Nat.le_of_ble_eq_true rfl) (fun p e s m below meth c G hlk hZ hnh => ?_)
  refine sw_eq (ws' := [(h0, .inr (5, [.ref h1, .int (nI sg), .ref h2, .ref h3, .ref h4, .ref h5, .ref h6, .ref h7])), (h7, .inr (2, [.int done, .int left, .int (sp_b off)]))]) (lv2 := [(0, .ref h0), (1, .int x)]) (pc2 := 0) (st2 := []) rfl ?_
  refine sw_aload_n G dXB_feed_0 rfl 0 rfl ?_
  refine sw_readV (As := []) (rest := []) G (c_XB_demandPower l D ta h0 h1 h2 h3 h4 h5 h6 h7 sg done left off (ho)) (cwV 0 G.2.2.2.2.1 (sb_goodV wd_241 wd_243 ws_XB_demandPower wd_1 wd_244) rfl rfl rfl (by decide +kernel) ⟨Nat.le_of_ble_eq_true rfl, Nat.le_of_ble_eq_true rfl⟩) 0 5 rfl rfl rfl rfl (Nat.le_of_ble_eq_true rfl) dXB_feed_1 ⟨Nat.le_of_ble_eq_true rfl, Nat.le_of_ble_eq_true rfl⟩ [0, 1] rfl (by decide) ?_
  refine sw_eq (ws' := [(h0, .inr (5, [.ref h1, .int (nI sg), .ref h2, .ref h3, .ref h4, .ref h5, .ref h6, .ref h7])), (h7, .inr (2, [.int done, .int left, .int (sp_b off)]))]) (lv2 := [(0, .ref h0), (1, .int x)]) (pc2 := 4) (st2 := []) rfl ?_
  refine sw_aload_n G dXB_feed_4 rfl 0 rfl ?_
  refine sw_get (C := RXB) (T := TXB) (ref := RXB) (N := 8) G inXB 0 rfl rfl 1 (by decide) wd_110 rfl rfl dXB_feed_5 ?_
  refine sw_iconst (v := nI 4) G dXB_feed_8 (by decide) ?_
  refine sw_icmpN_lt (a := sg) (b := 4) (tgt := 22) G dXB_feed_9 (by decide) (by omega) (by omega) (fun br9 => ?_) (fun br9 => ?_)
  · exact absurd br9 (by omega)
  · exact sx_site (E := EIS) (ic := 60) (ix := 64) (is := 62) G htr hZ hlk hnh (by decide +kernel) wd_245 wd_12 (by decide) sx_own64 dXB_feed_12 dXB_feed_15 dXB_feed_16 dXB_feed_18 dXB_feed_21 ⟨Nat.le_of_ble_eq_true rfl, Nat.le_of_ble_eq_true rfl, Nat.le_of_ble_eq_true rfl, Nat.le_of_ble_eq_true rfl⟩

set_option maxRecDepth 100000 in
set_option maxHeartbeats 4000000 in
theorem c_XB_appendF (l : Launch) (D : va_G) (ta : ClassId × ClassId × ClassId) (h0 : Nat) (h1 : Nat) (h2 : Nat) (h3 : Nat) (h4 : Nat) (h5 : Nat) (h6 : Nat) (h7 : Nat) (sg : Nat) (done : Int32) (left : Int32) (off : Bool) (x : Int32) (htr : l.stackTraces = false) (ho : off = false) (hx : x < 0 ∨ ¬ x < nI 6) : sx l yXB_append wsXB_append ({ frames := 7, cells := 1, slots := 6, locals := 102 }) D ta [.ref h0, .int x] [(h0, .inr (5, [.ref h1, .int (nI sg), .ref h2, .ref h3, .ref h4, .ref h5, .ref h6, .ref h7])), (h7, .inr (2, [.int done, .int left, .int (sp_b off)]))] EIO := by
  refine sx_ofW (y := yXB_append) (cc := cXB_append) (nL := 3) (ret := (some .int)) (by decide) (Nat.le_of_ble_eq_true rfl) (fun p e s m below meth c G hlk hZ hnh => ?_)
  refine sw_eq (ws' := [(h0, .inr (5, [.ref h1, .int (nI sg), .ref h2, .ref h3, .ref h4, .ref h5, .ref h6, .ref h7])), (h7, .inr (2, [.int done, .int left, .int (sp_b off)]))]) (lv2 := [(0, .ref h0), (1, .int x)]) (pc2 := 0) (st2 := []) rfl ?_
  refine sw_aload_n G dXB_append_0 rfl 0 rfl ?_
  refine sw_readV (As := []) (rest := []) G (c_XB_demandPower l D ta h0 h1 h2 h3 h4 h5 h6 h7 sg done left off (ho)) (cwV 0 G.2.2.2.2.1 (sb_goodV wd_241 wd_243 ws_XB_demandPower wd_1 wd_244) rfl rfl rfl (by decide +kernel) ⟨Nat.le_of_ble_eq_true rfl, Nat.le_of_ble_eq_true rfl⟩) 0 5 rfl rfl rfl rfl (Nat.le_of_ble_eq_true rfl) dXB_append_1 ⟨Nat.le_of_ble_eq_true rfl, Nat.le_of_ble_eq_true rfl⟩ [0, 1] rfl (by decide) ?_
  refine sw_eq (ws' := [(h0, .inr (5, [.ref h1, .int (nI sg), .ref h2, .ref h3, .ref h4, .ref h5, .ref h6, .ref h7])), (h7, .inr (2, [.int done, .int left, .int (sp_b off)]))]) (lv2 := [(0, .ref h0), (1, .int x)]) (pc2 := 4) (st2 := []) rfl ?_
  refine sw_iload_n G dXB_append_4 rfl 1 rfl ?_
  exact sx_callS (E := EIO) (As := [.int x]) (rest := []) G hZ hlk hnh (c_XB_demandFileX l D ta x (htr) (hx)) (va_cwS 1 G.2.2.2.2.1 (sb_goodS wd_329 wd_330 wd_1 wd_331) rfl rfl rfl (by decide +kernel) ⟨Nat.le_of_ble_eq_true rfl, Nat.le_of_ble_eq_true rfl⟩) rfl rfl (Nat.le_of_ble_eq_true rfl) dXB_append_5 ⟨Nat.le_of_ble_eq_true rfl, Nat.le_of_ble_eq_true rfl⟩ [] rfl (by decide)

set_option maxRecDepth 100000 in
set_option maxHeartbeats 4000000 in
theorem c_XB_appendS (l : Launch) (D : va_G) (ta : ClassId × ClassId × ClassId) (h0 : Nat) (h1 : Nat) (h2 : Nat) (h3 : Nat) (h4 : Nat) (h5 : Nat) (h6 : Nat) (h7 : Nat) (sg : Nat) (done : Int32) (left : Int32) (off : Bool) (k : Nat) (htr : l.stackTraces = false) (ho : off = false) (hk : k < 6) (hs : sg < 4) : sx l yXB_append wsXB_append ({ frames := 7, cells := 1, slots := 6, locals := 102 }) D ta [.ref h0, .int (nI k)] [(h0, .inr (5, [.ref h1, .int (nI sg), .ref h2, .ref h3, .ref h4, .ref h5, .ref h6, .ref h7])), (h7, .inr (2, [.int done, .int left, .int (sp_b off)]))] EIS := by
  refine sx_ofW (y := yXB_append) (cc := cXB_append) (nL := 3) (ret := (some .int)) (by decide) (Nat.le_of_ble_eq_true rfl) (fun p e s m below meth c G hlk hZ hnh => ?_)
  refine sw_eq (ws' := [(h0, .inr (5, [.ref h1, .int (nI sg), .ref h2, .ref h3, .ref h4, .ref h5, .ref h6, .ref h7])), (h7, .inr (2, [.int done, .int left, .int (sp_b off)]))]) (lv2 := [(0, .ref h0), (1, .int (nI k))]) (pc2 := 0) (st2 := []) rfl ?_
  refine sw_aload_n G dXB_append_0 rfl 0 rfl ?_
  refine sw_readV (As := []) (rest := []) G (c_XB_demandPower l D ta h0 h1 h2 h3 h4 h5 h6 h7 sg done left off (ho)) (cwV 0 G.2.2.2.2.1 (sb_goodV wd_241 wd_243 ws_XB_demandPower wd_1 wd_244) rfl rfl rfl (by decide +kernel) ⟨Nat.le_of_ble_eq_true rfl, Nat.le_of_ble_eq_true rfl⟩) 0 5 rfl rfl rfl rfl (Nat.le_of_ble_eq_true rfl) dXB_append_1 ⟨Nat.le_of_ble_eq_true rfl, Nat.le_of_ble_eq_true rfl⟩ [0, 1] rfl (by decide) ?_
  refine sw_eq (ws' := [(h0, .inr (5, [.ref h1, .int (nI sg), .ref h2, .ref h3, .ref h4, .ref h5, .ref h6, .ref h7])), (h7, .inr (2, [.int done, .int left, .int (sp_b off)]))]) (lv2 := [(0, .ref h0), (1, .int (nI k))]) (pc2 := 4) (st2 := []) rfl ?_
  refine sw_iload_n G dXB_append_4 rfl 1 rfl ?_
  refine sw_readS (As := [.int (nI k)]) (rest := []) G (c_XB_demandFile l D ta k (by omega)) (va_cwS 1 G.2.2.2.2.1 (sb_goodS wd_329 wd_330 wd_1 wd_331) rfl rfl rfl (by decide +kernel) ⟨Nat.le_of_ble_eq_true rfl, Nat.le_of_ble_eq_true rfl⟩) rfl rfl (Nat.le_of_ble_eq_true rfl) dXB_append_5 ⟨Nat.le_of_ble_eq_true rfl, Nat.le_of_ble_eq_true rfl⟩ [] rfl (by decide) ?_
  refine sw_eq (ws' := [(h0, .inr (5, [.ref h1, .int (nI sg), .ref h2, .ref h3, .ref h4, .ref h5, .ref h6, .ref h7])), (h7, .inr (2, [.int done, .int left, .int (sp_b off)]))]) (lv2 := [(0, .ref h0), (1, .int (nI k))]) (pc2 := 8) (st2 := []) rfl ?_
  refine sw_aload_n G dXB_append_8 rfl 0 rfl ?_
  exact sx_callV (E := EIS) (As := []) (rest := []) G hZ hlk hnh (c_XB_demandFullStageX l D ta h0 h1 h2 h3 h4 h5 h6 h7 sg (htr) (hs)) (cwV 0 G.2.2.2.2.1 (sb_goodV wd_348 wd_350 ws_XB_demandFullStage wd_1 wd_351) rfl rfl rfl (by decide +kernel) ⟨Nat.le_of_ble_eq_true rfl, Nat.le_of_ble_eq_true rfl⟩) 0 5 rfl rfl rfl rfl (Nat.le_of_ble_eq_true rfl) dXB_append_9 ⟨Nat.le_of_ble_eq_true rfl, Nat.le_of_ble_eq_true rfl⟩ [0] rfl (by decide)

set_option maxRecDepth 100000 in
set_option maxHeartbeats 4000000 in
theorem c_XB_appendFull (l : Launch) (D : va_G) (ta : ClassId × ClassId × ClassId) (h0 : Nat) (h1 : Nat) (h2 : Nat) (h3 : Nat) (h4 : Nat) (h5 : Nat) (h6 : Nat) (h7 : Nat) (f1 : Nat) (f2 : Nat) (f3 : Nat) (sg : Nat) (len : Nat → Nat) (ent : Nat → Nat) (cnt : Nat → Int32) (done : Int32) (left : Int32) (off : Bool) (k : Nat) (htr : l.stackTraces = false) (ho : off = false) (hk : k < 6) (hs : 4 ≤ sg) (hs2 : sg < 2 ^ 31) (hl : 12 ≤ len k) (hl2 : len k < 2 ^ 31) : sx l yXB_append wsXB_append ({ frames := 6, cells := 1, slots := 6, locals := 82 }) D ta [.ref h0, .int (nI k)] [(h0, .inr (5, [.ref h1, .int (nI sg), .ref h2, .ref h3, .ref h4, .ref h5, .ref h6, .ref h7])), (h4, .inr (3, [.ref f1, .ref f2, .ref f3])), (f1, .inl (ta.1, 6, .inl (fun jx => nI (len jx)))), (f2, .inl (ta.1, 72, .inl (fun jx => nI (ent jx)))), (f3, .inl (ta.1, 40, .inl (cnt))), (h7, .inr (2, [.int done, .int left, .int (sp_b off)]))] EIS := by
  refine sx_ofW (y := yXB_append) (cc := cXB_append) (nL := 3) (ret := (some .int)) (by decide) (Nat.le_of_ble_eq_true rfl) (fun p e s m below meth c G hlk hZ hnh => ?_)
  refine sw_eq (ws' := [(h0, .inr (5, [.ref h1, .int (nI sg), .ref h2, .ref h3, .ref h4, .ref h5, .ref h6, .ref h7])), (h4, .inr (3, [.ref f1, .ref f2, .ref f3])), (f1, .inl (ta.1, 6, .inl (fun jx => nI (len jx)))), (f2, .inl (ta.1, 72, .inl (fun jx => nI (ent jx)))), (f3, .inl (ta.1, 40, .inl (cnt))), (h7, .inr (2, [.int done, .int left, .int (sp_b off)]))]) (lv2 := [(0, .ref h0), (1, .int (nI k))]) (pc2 := 0) (st2 := []) rfl ?_
  refine sw_aload_n G dXB_append_0 rfl 0 rfl ?_
  refine sw_readV (As := []) (rest := []) G (c_XB_demandPower l D ta h0 h1 h2 h3 h4 h5 h6 h7 sg done left off (ho)) (cwV 0 G.2.2.2.2.1 (sb_goodV wd_241 wd_243 ws_XB_demandPower wd_1 wd_244) rfl rfl rfl (by decide +kernel) ⟨Nat.le_of_ble_eq_true rfl, Nat.le_of_ble_eq_true rfl⟩) 0 5 rfl rfl rfl rfl (Nat.le_of_ble_eq_true rfl) dXB_append_1 ⟨Nat.le_of_ble_eq_true rfl, Nat.le_of_ble_eq_true rfl⟩ [0, 5] rfl (by decide) ?_
  refine sw_eq (ws' := [(h0, .inr (5, [.ref h1, .int (nI sg), .ref h2, .ref h3, .ref h4, .ref h5, .ref h6, .ref h7])), (h4, .inr (3, [.ref f1, .ref f2, .ref f3])), (f1, .inl (ta.1, 6, .inl (fun jx => nI (len jx)))), (f2, .inl (ta.1, 72, .inl (fun jx => nI (ent jx)))), (f3, .inl (ta.1, 40, .inl (cnt))), (h7, .inr (2, [.int done, .int left, .int (sp_b off)]))]) (lv2 := [(0, .ref h0), (1, .int (nI k))]) (pc2 := 4) (st2 := []) rfl ?_
  refine sw_iload_n G dXB_append_4 rfl 1 rfl ?_
  refine sw_readS (As := [.int (nI k)]) (rest := []) G (c_XB_demandFile l D ta k (by omega)) (va_cwS 1 G.2.2.2.2.1 (sb_goodS wd_329 wd_330 wd_1 wd_331) rfl rfl rfl (by decide +kernel) ⟨Nat.le_of_ble_eq_true rfl, Nat.le_of_ble_eq_true rfl⟩) rfl rfl (Nat.le_of_ble_eq_true rfl) dXB_append_5 ⟨Nat.le_of_ble_eq_true rfl, Nat.le_of_ble_eq_true rfl⟩ [] rfl (by decide) ?_
  refine sw_eq (ws' := [(h0, .inr (5, [.ref h1, .int (nI sg), .ref h2, .ref h3, .ref h4, .ref h5, .ref h6, .ref h7])), (h4, .inr (3, [.ref f1, .ref f2, .ref f3])), (f1, .inl (ta.1, 6, .inl (fun jx => nI (len jx)))), (f2, .inl (ta.1, 72, .inl (fun jx => nI (ent jx)))), (f3, .inl (ta.1, 40, .inl (cnt))), (h7, .inr (2, [.int done, .int left, .int (sp_b off)]))]) (lv2 := [(0, .ref h0), (1, .int (nI k))]) (pc2 := 8) (st2 := []) rfl ?_
  refine sw_aload_n G dXB_append_8 rfl 0 rfl ?_
  refine sw_readV (As := []) (rest := []) G (c_XB_demandFullStage l D ta h0 h1 h2 h3 h4 h5 h6 h7 sg (by omega) (by omega)) (cwV 0 G.2.2.2.2.1 (sb_goodV wd_348 wd_350 ws_XB_demandFullStage wd_1 wd_351) rfl rfl rfl (by decide +kernel) ⟨Nat.le_of_ble_eq_true rfl, Nat.le_of_ble_eq_true rfl⟩) 0 5 rfl rfl rfl rfl (Nat.le_of_ble_eq_true rfl) dXB_append_9 ⟨Nat.le_of_ble_eq_true rfl, Nat.le_of_ble_eq_true rfl⟩ [0] rfl (by decide) ?_
  refine sw_eq (ws' := [(h0, .inr (5, [.ref h1, .int (nI sg), .ref h2, .ref h3, .ref h4, .ref h5, .ref h6, .ref h7])), (h4, .inr (3, [.ref f1, .ref f2, .ref f3])), (f1, .inl (ta.1, 6, .inl (fun jx => nI (len jx)))), (f2, .inl (ta.1, 72, .inl (fun jx => nI (ent jx)))), (f3, .inl (ta.1, 40, .inl (cnt))), (h7, .inr (2, [.int done, .int left, .int (sp_b off)]))]) (lv2 := [(0, .ref h0), (1, .int (nI k))]) (pc2 := 12) (st2 := []) rfl ?_
  refine sw_aload_n G dXB_append_12 rfl 0 rfl ?_
  refine sw_get (C := RXB) (T := TXB) (ref := RXB) (N := 8) G inXB 0 rfl rfl 4 (by decide) wd_113 rfl rfl dXB_append_13 ?_
  refine sw_iload_n G dXB_append_16 rfl 1 rfl ?_
  refine sw_readV (As := [.int (nI k)]) (rest := []) G (c_XR_length l D ta h4 f1 f2 f3 len ent cnt k (by omega)) (cwV 1 G.2.2.2.2.1 (sb_goodV wd_353 wd_167 wd_168 wd_5 wd_169) rfl rfl rfl (by decide +kernel) ⟨Nat.le_of_ble_eq_true rfl, Nat.le_of_ble_eq_true rfl⟩) 1 3 rfl rfl rfl rfl (Nat.le_of_ble_eq_true rfl) dXB_append_17 ⟨Nat.le_of_ble_eq_true rfl, Nat.le_of_ble_eq_true rfl⟩ [1, 2, 3, 4] rfl (by decide) ?_
  refine sw_eq (ws' := [(h0, .inr (5, [.ref h1, .int (nI sg), .ref h2, .ref h3, .ref h4, .ref h5, .ref h6, .ref h7])), (h4, .inr (3, [.ref f1, .ref f2, .ref f3])), (f1, .inl (ta.1, 6, .inl (fun jx => nI (len jx)))), (f2, .inl (ta.1, 72, .inl (fun jx => nI (ent jx)))), (f3, .inl (ta.1, 40, .inl (cnt))), (h7, .inr (2, [.int done, .int left, .int (sp_b off)]))]) (lv2 := [(0, .ref h0), (1, .int (nI k))]) (pc2 := 20) (st2 := [.int (nI (len k))]) rfl ?_
  refine sw_bipush (v := nI 12) G dXB_append_20 (by decide) ?_
  refine sw_icmpN_lt (a := len k) (b := 12) (tgt := 35) G dXB_append_22 (by decide) (by omega) (by omega) (fun br22 => ?_) (fun br22 => ?_)
  · exact absurd br22 (by omega)
  · exact sx_site (E := EIS) (ic := 60) (ix := 64) (is := 78) G htr hZ hlk hnh (by decide +kernel) wd_245 wd_12 (by decide) sx_own64 dXB_append_25 dXB_append_28 dXB_append_29 dXB_append_31 dXB_append_34 ⟨Nat.le_of_ble_eq_true rfl, Nat.le_of_ble_eq_true rfl, Nat.le_of_ble_eq_true rfl, Nat.le_of_ble_eq_true rfl⟩

set_option maxRecDepth 100000 in
set_option maxHeartbeats 4000000 in
theorem c_XB_cutF (l : Launch) (D : va_G) (ta : ClassId × ClassId × ClassId) (h0 : Nat) (h1 : Nat) (h2 : Nat) (h3 : Nat) (h4 : Nat) (h5 : Nat) (h6 : Nat) (h7 : Nat) (sg : Nat) (done : Int32) (left : Int32) (off : Bool) (x : Int32) (y : Int32) (htr : l.stackTraces = false) (ho : off = false) (hx : x < 0 ∨ ¬ x < nI 6) : sx l yXB_cut wsXB_cut ({ frames := 7, cells := 1, slots := 6, locals := 102 }) D ta [.ref h0, .int x, .int y] [(h0, .inr (5, [.ref h1, .int (nI sg), .ref h2, .ref h3, .ref h4, .ref h5, .ref h6, .ref h7])), (h7, .inr (2, [.int done, .int left, .int (sp_b off)]))] EIO := by
  refine sx_ofW (y := yXB_cut) (cc := cXB_cut) (nL := 3) (ret := (some .int)) (by decide) (Nat.le_of_ble_eq_true rfl) (fun p e s m below meth c G hlk hZ hnh => ?_)
  refine sw_eq (ws' := [(h0, .inr (5, [.ref h1, .int (nI sg), .ref h2, .ref h3, .ref h4, .ref h5, .ref h6, .ref h7])), (h7, .inr (2, [.int done, .int left, .int (sp_b off)]))]) (lv2 := [(0, .ref h0), (1, .int x), (2, .int y)]) (pc2 := 0) (st2 := []) rfl ?_
  refine sw_aload_n G dXB_cut_0 rfl 0 rfl ?_
  refine sw_readV (As := []) (rest := []) G (c_XB_demandPower l D ta h0 h1 h2 h3 h4 h5 h6 h7 sg done left off (ho)) (cwV 0 G.2.2.2.2.1 (sb_goodV wd_241 wd_243 ws_XB_demandPower wd_1 wd_244) rfl rfl rfl (by decide +kernel) ⟨Nat.le_of_ble_eq_true rfl, Nat.le_of_ble_eq_true rfl⟩) 0 5 rfl rfl rfl rfl (Nat.le_of_ble_eq_true rfl) dXB_cut_1 ⟨Nat.le_of_ble_eq_true rfl, Nat.le_of_ble_eq_true rfl⟩ [0, 1] rfl (by decide) ?_
  refine sw_eq (ws' := [(h0, .inr (5, [.ref h1, .int (nI sg), .ref h2, .ref h3, .ref h4, .ref h5, .ref h6, .ref h7])), (h7, .inr (2, [.int done, .int left, .int (sp_b off)]))]) (lv2 := [(0, .ref h0), (1, .int x), (2, .int y)]) (pc2 := 4) (st2 := []) rfl ?_
  refine sw_iload_n G dXB_cut_4 rfl 1 rfl ?_
  exact sx_callS (E := EIO) (As := [.int x]) (rest := []) G hZ hlk hnh (c_XB_demandFileX l D ta x (htr) (hx)) (va_cwS 1 G.2.2.2.2.1 (sb_goodS wd_329 wd_330 wd_1 wd_331) rfl rfl rfl (by decide +kernel) ⟨Nat.le_of_ble_eq_true rfl, Nat.le_of_ble_eq_true rfl⟩) rfl rfl (Nat.le_of_ble_eq_true rfl) dXB_cut_5 ⟨Nat.le_of_ble_eq_true rfl, Nat.le_of_ble_eq_true rfl⟩ [] rfl (by decide)

set_option maxRecDepth 100000 in
set_option maxHeartbeats 4000000 in
theorem c_XB_cutN (l : Launch) (D : va_G) (ta : ClassId × ClassId × ClassId) (h0 : Nat) (h1 : Nat) (h2 : Nat) (h3 : Nat) (h4 : Nat) (h5 : Nat) (h6 : Nat) (h7 : Nat) (f1 : Nat) (f2 : Nat) (f3 : Nat) (sg : Nat) (len : Nat → Nat) (ent : Nat → Nat) (cnt : Nat → Int32) (done : Int32) (left : Int32) (off : Bool) (k : Nat) (y : Int32) (htr : l.stackTraces = false) (ho : off = false) (hk : k < 6) (hl : len k ≤ 12) (hx : y < 0 ∨ ¬ y ≤ nI (len k)) : sx l yXB_cut wsXB_cut ({ frames := 6, cells := 1, slots := 6, locals := 82 }) D ta [.ref h0, .int (nI k), .int y] [(h0, .inr (5, [.ref h1, .int (nI sg), .ref h2, .ref h3, .ref h4, .ref h5, .ref h6, .ref h7])), (h4, .inr (3, [.ref f1, .ref f2, .ref f3])), (f1, .inl (ta.1, 6, .inl (fun jx => nI (len jx)))), (f2, .inl (ta.1, 72, .inl (fun jx => nI (ent jx)))), (f3, .inl (ta.1, 40, .inl (cnt))), (h7, .inr (2, [.int done, .int left, .int (sp_b off)]))] EIO := by
  refine sx_ofW (y := yXB_cut) (cc := cXB_cut) (nL := 3) (ret := (some .int)) (by decide) (Nat.le_of_ble_eq_true rfl) (fun p e s m below meth c G hlk hZ hnh => ?_)
  refine sw_eq (ws' := [(h0, .inr (5, [.ref h1, .int (nI sg), .ref h2, .ref h3, .ref h4, .ref h5, .ref h6, .ref h7])), (h4, .inr (3, [.ref f1, .ref f2, .ref f3])), (f1, .inl (ta.1, 6, .inl (fun jx => nI (len jx)))), (f2, .inl (ta.1, 72, .inl (fun jx => nI (ent jx)))), (f3, .inl (ta.1, 40, .inl (cnt))), (h7, .inr (2, [.int done, .int left, .int (sp_b off)]))]) (lv2 := [(0, .ref h0), (1, .int (nI k)), (2, .int y)]) (pc2 := 0) (st2 := []) rfl ?_
  refine sw_aload_n G dXB_cut_0 rfl 0 rfl ?_
  refine sw_readV (As := []) (rest := []) G (c_XB_demandPower l D ta h0 h1 h2 h3 h4 h5 h6 h7 sg done left off (ho)) (cwV 0 G.2.2.2.2.1 (sb_goodV wd_241 wd_243 ws_XB_demandPower wd_1 wd_244) rfl rfl rfl (by decide +kernel) ⟨Nat.le_of_ble_eq_true rfl, Nat.le_of_ble_eq_true rfl⟩) 0 5 rfl rfl rfl rfl (Nat.le_of_ble_eq_true rfl) dXB_cut_1 ⟨Nat.le_of_ble_eq_true rfl, Nat.le_of_ble_eq_true rfl⟩ [0, 5] rfl (by decide) ?_
  refine sw_eq (ws' := [(h0, .inr (5, [.ref h1, .int (nI sg), .ref h2, .ref h3, .ref h4, .ref h5, .ref h6, .ref h7])), (h4, .inr (3, [.ref f1, .ref f2, .ref f3])), (f1, .inl (ta.1, 6, .inl (fun jx => nI (len jx)))), (f2, .inl (ta.1, 72, .inl (fun jx => nI (ent jx)))), (f3, .inl (ta.1, 40, .inl (cnt))), (h7, .inr (2, [.int done, .int left, .int (sp_b off)]))]) (lv2 := [(0, .ref h0), (1, .int (nI k)), (2, .int y)]) (pc2 := 4) (st2 := []) rfl ?_
  refine sw_iload_n G dXB_cut_4 rfl 1 rfl ?_
  refine sw_readS (As := [.int (nI k)]) (rest := []) G (c_XB_demandFile l D ta k (by omega)) (va_cwS 1 G.2.2.2.2.1 (sb_goodS wd_329 wd_330 wd_1 wd_331) rfl rfl rfl (by decide +kernel) ⟨Nat.le_of_ble_eq_true rfl, Nat.le_of_ble_eq_true rfl⟩) rfl rfl (Nat.le_of_ble_eq_true rfl) dXB_cut_5 ⟨Nat.le_of_ble_eq_true rfl, Nat.le_of_ble_eq_true rfl⟩ [] rfl (by decide) ?_
  refine sw_eq (ws' := [(h0, .inr (5, [.ref h1, .int (nI sg), .ref h2, .ref h3, .ref h4, .ref h5, .ref h6, .ref h7])), (h4, .inr (3, [.ref f1, .ref f2, .ref f3])), (f1, .inl (ta.1, 6, .inl (fun jx => nI (len jx)))), (f2, .inl (ta.1, 72, .inl (fun jx => nI (ent jx)))), (f3, .inl (ta.1, 40, .inl (cnt))), (h7, .inr (2, [.int done, .int left, .int (sp_b off)]))]) (lv2 := [(0, .ref h0), (1, .int (nI k)), (2, .int y)]) (pc2 := 8) (st2 := []) rfl ?_
  refine sw_iload_n G dXB_cut_8 rfl 2 rfl ?_
  refine sw_if_lt (x := y) (tgt := 24) G dXB_cut_9 (by decide) (fun br9 => ?_) (fun br9 => ?_)
  · exact sx_site (E := EIO) (ic := 107) (ix := 111) (is := 109) G htr hZ hlk hnh (by decide +kernel) wd_332 wd_13 (by decide) sx_own111 dXB_cut_24 dXB_cut_27 dXB_cut_28 dXB_cut_30 dXB_cut_33 ⟨Nat.le_of_ble_eq_true rfl, Nat.le_of_ble_eq_true rfl, Nat.le_of_ble_eq_true rfl, Nat.le_of_ble_eq_true rfl⟩
  · refine sw_iload_n G dXB_cut_12 rfl 2 rfl ?_
    refine sw_aload_n G dXB_cut_13 rfl 0 rfl ?_
    refine sw_get (C := RXB) (T := TXB) (ref := RXB) (N := 8) G inXB 0 rfl rfl 4 (by decide) wd_113 rfl rfl dXB_cut_14 ?_
    refine sw_iload_n G dXB_cut_17 rfl 1 rfl ?_
    refine sw_readV (As := [.int (nI k)]) (rest := [.int y]) G (c_XR_length l D ta h4 f1 f2 f3 len ent cnt k (by omega)) (cwV 1 G.2.2.2.2.1 (sb_goodV wd_353 wd_167 wd_168 wd_5 wd_169) rfl rfl rfl (by decide +kernel) ⟨Nat.le_of_ble_eq_true rfl, Nat.le_of_ble_eq_true rfl⟩) 1 3 rfl rfl rfl rfl (Nat.le_of_ble_eq_true rfl) dXB_cut_18 ⟨Nat.le_of_ble_eq_true rfl, Nat.le_of_ble_eq_true rfl⟩ [1, 2, 3, 4] rfl (by decide) ?_
    refine sw_eq (ws' := [(h0, .inr (5, [.ref h1, .int (nI sg), .ref h2, .ref h3, .ref h4, .ref h5, .ref h6, .ref h7])), (h4, .inr (3, [.ref f1, .ref f2, .ref f3])), (f1, .inl (ta.1, 6, .inl (fun jx => nI (len jx)))), (f2, .inl (ta.1, 72, .inl (fun jx => nI (ent jx)))), (f3, .inl (ta.1, 40, .inl (cnt))), (h7, .inr (2, [.int done, .int left, .int (sp_b off)]))]) (lv2 := [(0, .ref h0), (1, .int (nI k)), (2, .int y)]) (pc2 := 21) (st2 := [.int (nI (len k)), .int y]) rfl ?_
    refine sw_icmp_le (x := y) (y := nI (len k)) (tgt := 34) G dXB_cut_21 (by decide) (fun br21 => ?_) (fun br21 => ?_)
    · exact hx.elim (fun q => absurd q br9) (fun q => absurd br21 q)
    · exact sx_site (E := EIO) (ic := 107) (ix := 111) (is := 109) G htr hZ hlk hnh (by decide +kernel) wd_332 wd_13 (by decide) sx_own111 dXB_cut_24 dXB_cut_27 dXB_cut_28 dXB_cut_30 dXB_cut_33 ⟨Nat.le_of_ble_eq_true rfl, Nat.le_of_ble_eq_true rfl, Nat.le_of_ble_eq_true rfl, Nat.le_of_ble_eq_true rfl⟩

set_option maxRecDepth 100000 in
set_option maxHeartbeats 4000000 in
theorem c_XB_copyF (l : Launch) (D : va_G) (ta : ClassId × ClassId × ClassId) (h0 : Nat) (h1 : Nat) (h2 : Nat) (h3 : Nat) (h4 : Nat) (h5 : Nat) (h6 : Nat) (h7 : Nat) (sg : Nat) (done : Int32) (left : Int32) (off : Bool) (x : Int32) (y : Int32) (htr : l.stackTraces = false) (ho : off = false) (hx : x < 0 ∨ ¬ x < nI 6) : sx l yXB_copy wsXB_copy ({ frames := 7, cells := 1, slots := 6, locals := 102 }) D ta [.ref h0, .int x, .int y] [(h0, .inr (5, [.ref h1, .int (nI sg), .ref h2, .ref h3, .ref h4, .ref h5, .ref h6, .ref h7])), (h7, .inr (2, [.int done, .int left, .int (sp_b off)]))] EIO := by
  refine sx_ofW (y := yXB_copy) (cc := cXB_copy) (nL := 3) (ret := (some .int)) (by decide) (Nat.le_of_ble_eq_true rfl) (fun p e s m below meth c G hlk hZ hnh => ?_)
  refine sw_eq (ws' := [(h0, .inr (5, [.ref h1, .int (nI sg), .ref h2, .ref h3, .ref h4, .ref h5, .ref h6, .ref h7])), (h7, .inr (2, [.int done, .int left, .int (sp_b off)]))]) (lv2 := [(0, .ref h0), (1, .int x), (2, .int y)]) (pc2 := 0) (st2 := []) rfl ?_
  refine sw_aload_n G dXB_copy_0 rfl 0 rfl ?_
  refine sw_readV (As := []) (rest := []) G (c_XB_demandPower l D ta h0 h1 h2 h3 h4 h5 h6 h7 sg done left off (ho)) (cwV 0 G.2.2.2.2.1 (sb_goodV wd_241 wd_243 ws_XB_demandPower wd_1 wd_244) rfl rfl rfl (by decide +kernel) ⟨Nat.le_of_ble_eq_true rfl, Nat.le_of_ble_eq_true rfl⟩) 0 5 rfl rfl rfl rfl (Nat.le_of_ble_eq_true rfl) dXB_copy_1 ⟨Nat.le_of_ble_eq_true rfl, Nat.le_of_ble_eq_true rfl⟩ [0, 1] rfl (by decide) ?_
  refine sw_eq (ws' := [(h0, .inr (5, [.ref h1, .int (nI sg), .ref h2, .ref h3, .ref h4, .ref h5, .ref h6, .ref h7])), (h7, .inr (2, [.int done, .int left, .int (sp_b off)]))]) (lv2 := [(0, .ref h0), (1, .int x), (2, .int y)]) (pc2 := 4) (st2 := []) rfl ?_
  refine sw_iload_n G dXB_copy_4 rfl 1 rfl ?_
  exact sx_callS (E := EIO) (As := [.int x]) (rest := []) G hZ hlk hnh (c_XB_demandFileX l D ta x (htr) (hx)) (va_cwS 1 G.2.2.2.2.1 (sb_goodS wd_329 wd_330 wd_1 wd_331) rfl rfl rfl (by decide +kernel) ⟨Nat.le_of_ble_eq_true rfl, Nat.le_of_ble_eq_true rfl⟩) rfl rfl (Nat.le_of_ble_eq_true rfl) dXB_copy_5 ⟨Nat.le_of_ble_eq_true rfl, Nat.le_of_ble_eq_true rfl⟩ [] rfl (by decide)

set_option maxRecDepth 100000 in
set_option maxHeartbeats 4000000 in
theorem c_XB_copyG (l : Launch) (D : va_G) (ta : ClassId × ClassId × ClassId) (h0 : Nat) (h1 : Nat) (h2 : Nat) (h3 : Nat) (h4 : Nat) (h5 : Nat) (h6 : Nat) (h7 : Nat) (sg : Nat) (done : Int32) (left : Int32) (off : Bool) (k : Nat) (x : Int32) (htr : l.stackTraces = false) (ho : off = false) (hk : k < 6) (hx : x < 0 ∨ ¬ x < nI 6) : sx l yXB_copy wsXB_copy ({ frames := 7, cells := 1, slots := 6, locals := 102 }) D ta [.ref h0, .int (nI k), .int x] [(h0, .inr (5, [.ref h1, .int (nI sg), .ref h2, .ref h3, .ref h4, .ref h5, .ref h6, .ref h7])), (h7, .inr (2, [.int done, .int left, .int (sp_b off)]))] EIO := by
  refine sx_ofW (y := yXB_copy) (cc := cXB_copy) (nL := 3) (ret := (some .int)) (by decide) (Nat.le_of_ble_eq_true rfl) (fun p e s m below meth c G hlk hZ hnh => ?_)
  refine sw_eq (ws' := [(h0, .inr (5, [.ref h1, .int (nI sg), .ref h2, .ref h3, .ref h4, .ref h5, .ref h6, .ref h7])), (h7, .inr (2, [.int done, .int left, .int (sp_b off)]))]) (lv2 := [(0, .ref h0), (1, .int (nI k)), (2, .int x)]) (pc2 := 0) (st2 := []) rfl ?_
  refine sw_aload_n G dXB_copy_0 rfl 0 rfl ?_
  refine sw_readV (As := []) (rest := []) G (c_XB_demandPower l D ta h0 h1 h2 h3 h4 h5 h6 h7 sg done left off (ho)) (cwV 0 G.2.2.2.2.1 (sb_goodV wd_241 wd_243 ws_XB_demandPower wd_1 wd_244) rfl rfl rfl (by decide +kernel) ⟨Nat.le_of_ble_eq_true rfl, Nat.le_of_ble_eq_true rfl⟩) 0 5 rfl rfl rfl rfl (Nat.le_of_ble_eq_true rfl) dXB_copy_1 ⟨Nat.le_of_ble_eq_true rfl, Nat.le_of_ble_eq_true rfl⟩ [0, 1] rfl (by decide) ?_
  refine sw_eq (ws' := [(h0, .inr (5, [.ref h1, .int (nI sg), .ref h2, .ref h3, .ref h4, .ref h5, .ref h6, .ref h7])), (h7, .inr (2, [.int done, .int left, .int (sp_b off)]))]) (lv2 := [(0, .ref h0), (1, .int (nI k)), (2, .int x)]) (pc2 := 4) (st2 := []) rfl ?_
  refine sw_iload_n G dXB_copy_4 rfl 1 rfl ?_
  refine sw_readS (As := [.int (nI k)]) (rest := []) G (c_XB_demandFile l D ta k (by omega)) (va_cwS 1 G.2.2.2.2.1 (sb_goodS wd_329 wd_330 wd_1 wd_331) rfl rfl rfl (by decide +kernel) ⟨Nat.le_of_ble_eq_true rfl, Nat.le_of_ble_eq_true rfl⟩) rfl rfl (Nat.le_of_ble_eq_true rfl) dXB_copy_5 ⟨Nat.le_of_ble_eq_true rfl, Nat.le_of_ble_eq_true rfl⟩ [] rfl (by decide) ?_
  refine sw_eq (ws' := [(h0, .inr (5, [.ref h1, .int (nI sg), .ref h2, .ref h3, .ref h4, .ref h5, .ref h6, .ref h7])), (h7, .inr (2, [.int done, .int left, .int (sp_b off)]))]) (lv2 := [(0, .ref h0), (1, .int (nI k)), (2, .int x)]) (pc2 := 8) (st2 := []) rfl ?_
  refine sw_iload_n G dXB_copy_8 rfl 2 rfl ?_
  exact sx_callS (E := EIO) (As := [.int x]) (rest := []) G hZ hlk hnh (c_XB_demandFileX l D ta x (htr) (hx)) (va_cwS 1 G.2.2.2.2.1 (sb_goodS wd_329 wd_330 wd_1 wd_331) rfl rfl rfl (by decide +kernel) ⟨Nat.le_of_ble_eq_true rfl, Nat.le_of_ble_eq_true rfl⟩) rfl rfl (Nat.le_of_ble_eq_true rfl) dXB_copy_9 ⟨Nat.le_of_ble_eq_true rfl, Nat.le_of_ble_eq_true rfl⟩ [] rfl (by decide)

set_option maxRecDepth 100000 in
set_option maxHeartbeats 4000000 in
theorem c_XB_blocksF (l : Launch) (D : va_G) (ta : ClassId × ClassId × ClassId) (h0 : Nat) (h1 : Nat) (h2 : Nat) (h3 : Nat) (h4 : Nat) (h5 : Nat) (h6 : Nat) (h7 : Nat) (sg : Nat) (done : Int32) (left : Int32) (off : Bool) (x : Int32) (htr : l.stackTraces = false) (ho : off = false) (hx : x < 0 ∨ ¬ x < nI 6) : sx l yXB_blocks wsXB_blocks ({ frames := 7, cells := 1, slots := 6, locals := 102 }) D ta [.ref h0, .int x] [(h0, .inr (5, [.ref h1, .int (nI sg), .ref h2, .ref h3, .ref h4, .ref h5, .ref h6, .ref h7])), (h7, .inr (2, [.int done, .int left, .int (sp_b off)]))] EIO := by
  refine sx_ofW (y := yXB_blocks) (cc := cXB_blocks) (nL := 2) (ret := (some .int)) (by decide) (Nat.le_of_ble_eq_true rfl) (fun p e s m below meth c G hlk hZ hnh => ?_)
  refine sw_eq (ws' := [(h0, .inr (5, [.ref h1, .int (nI sg), .ref h2, .ref h3, .ref h4, .ref h5, .ref h6, .ref h7])), (h7, .inr (2, [.int done, .int left, .int (sp_b off)]))]) (lv2 := [(0, .ref h0), (1, .int x)]) (pc2 := 0) (st2 := []) rfl ?_
  refine sw_aload_n G dXB_blocks_0 rfl 0 rfl ?_
  refine sw_readV (As := []) (rest := []) G (c_XB_demandPower l D ta h0 h1 h2 h3 h4 h5 h6 h7 sg done left off (ho)) (cwV 0 G.2.2.2.2.1 (sb_goodV wd_241 wd_243 ws_XB_demandPower wd_1 wd_244) rfl rfl rfl (by decide +kernel) ⟨Nat.le_of_ble_eq_true rfl, Nat.le_of_ble_eq_true rfl⟩) 0 5 rfl rfl rfl rfl (Nat.le_of_ble_eq_true rfl) dXB_blocks_1 ⟨Nat.le_of_ble_eq_true rfl, Nat.le_of_ble_eq_true rfl⟩ [0, 1] rfl (by decide) ?_
  refine sw_eq (ws' := [(h0, .inr (5, [.ref h1, .int (nI sg), .ref h2, .ref h3, .ref h4, .ref h5, .ref h6, .ref h7])), (h7, .inr (2, [.int done, .int left, .int (sp_b off)]))]) (lv2 := [(0, .ref h0), (1, .int x)]) (pc2 := 4) (st2 := []) rfl ?_
  refine sw_iload_n G dXB_blocks_4 rfl 1 rfl ?_
  exact sx_callS (E := EIO) (As := [.int x]) (rest := []) G hZ hlk hnh (c_XB_demandFileX l D ta x (htr) (hx)) (va_cwS 1 G.2.2.2.2.1 (sb_goodS wd_329 wd_330 wd_1 wd_331) rfl rfl rfl (by decide +kernel) ⟨Nat.le_of_ble_eq_true rfl, Nat.le_of_ble_eq_true rfl⟩) rfl rfl (Nat.le_of_ble_eq_true rfl) dXB_blocks_5 ⟨Nat.le_of_ble_eq_true rfl, Nat.le_of_ble_eq_true rfl⟩ [] rfl (by decide)

set_option maxRecDepth 100000 in
set_option maxHeartbeats 4000000 in
theorem c_XB_blockF (l : Launch) (D : va_G) (ta : ClassId × ClassId × ClassId) (h0 : Nat) (h1 : Nat) (h2 : Nat) (h3 : Nat) (h4 : Nat) (h5 : Nat) (h6 : Nat) (h7 : Nat) (sg : Nat) (done : Int32) (left : Int32) (off : Bool) (x : Int32) (y : Int32) (htr : l.stackTraces = false) (ho : off = false) (hx : x < 0 ∨ ¬ x < nI 6) : sx l yXB_block wsXB_block ({ frames := 8, cells := 1, slots := 6, locals := 124 }) D ta [.ref h0, .int x, .int y] [(h0, .inr (5, [.ref h1, .int (nI sg), .ref h2, .ref h3, .ref h4, .ref h5, .ref h6, .ref h7])), (h7, .inr (2, [.int done, .int left, .int (sp_b off)]))] EIO := by
  refine sx_ofW (y := yXB_block) (cc := cXB_block) (nL := 3) (ret := (some .int)) (by decide) (Nat.le_of_ble_eq_true rfl) (fun p e s m below meth c G hlk hZ hnh => ?_)
  refine sw_eq (ws' := [(h0, .inr (5, [.ref h1, .int (nI sg), .ref h2, .ref h3, .ref h4, .ref h5, .ref h6, .ref h7])), (h7, .inr (2, [.int done, .int left, .int (sp_b off)]))]) (lv2 := [(0, .ref h0), (1, .int x), (2, .int y)]) (pc2 := 0) (st2 := []) rfl ?_
  refine sw_aload_n G dXB_block_0 rfl 0 rfl ?_
  refine sw_readV (As := []) (rest := []) G (c_XB_demandPower l D ta h0 h1 h2 h3 h4 h5 h6 h7 sg done left off (ho)) (cwV 0 G.2.2.2.2.1 (sb_goodV wd_241 wd_243 ws_XB_demandPower wd_1 wd_244) rfl rfl rfl (by decide +kernel) ⟨Nat.le_of_ble_eq_true rfl, Nat.le_of_ble_eq_true rfl⟩) 0 5 rfl rfl rfl rfl (Nat.le_of_ble_eq_true rfl) dXB_block_1 ⟨Nat.le_of_ble_eq_true rfl, Nat.le_of_ble_eq_true rfl⟩ [0, 1] rfl (by decide) ?_
  refine sw_eq (ws' := [(h0, .inr (5, [.ref h1, .int (nI sg), .ref h2, .ref h3, .ref h4, .ref h5, .ref h6, .ref h7])), (h7, .inr (2, [.int done, .int left, .int (sp_b off)]))]) (lv2 := [(0, .ref h0), (1, .int x), (2, .int y)]) (pc2 := 4) (st2 := []) rfl ?_
  refine sw_aload_n G dXB_block_4 rfl 0 rfl ?_
  refine sw_iload_n G dXB_block_5 rfl 1 rfl ?_
  refine sw_iload_n G dXB_block_6 rfl 2 rfl ?_
  exact sx_callV (E := EIO) (As := [.int x, .int y]) (rest := []) G hZ hlk hnh (c_XB_demandBlockOfF l D ta h0 h1 h2 h3 h4 h5 h6 h7 sg x y (htr) (hx)) (cwV 2 G.2.2.2.2.1 (sb_goodV wd_431 wd_433 ws_XB_demandBlockOf wd_1 wd_434) rfl rfl rfl (by decide +kernel) ⟨Nat.le_of_ble_eq_true rfl, Nat.le_of_ble_eq_true rfl⟩) 0 5 rfl rfl rfl rfl (Nat.le_of_ble_eq_true rfl) dXB_block_7 ⟨Nat.le_of_ble_eq_true rfl, Nat.le_of_ble_eq_true rfl⟩ [0] rfl (by decide)

set_option maxRecDepth 100000 in
set_option maxHeartbeats 4000000 in
theorem c_XB_blockN (l : Launch) (D : va_G) (ta : ClassId × ClassId × ClassId) (h0 : Nat) (h1 : Nat) (h2 : Nat) (h3 : Nat) (h4 : Nat) (h5 : Nat) (h6 : Nat) (h7 : Nat) (f1 : Nat) (f2 : Nat) (f3 : Nat) (sg : Nat) (len : Nat → Nat) (ent : Nat → Nat) (cnt : Nat → Int32) (done : Int32) (left : Int32) (off : Bool) (k : Nat) (y : Int32) (htr : l.stackTraces = false) (ho : off = false) (hk : k < 6) (hl : len k ≤ 12) (hx : y < 0 ∨ ¬ y < nI (len k)) : sx l yXB_block wsXB_block ({ frames := 7, cells := 1, slots := 6, locals := 104 }) D ta [.ref h0, .int (nI k), .int y] [(h0, .inr (5, [.ref h1, .int (nI sg), .ref h2, .ref h3, .ref h4, .ref h5, .ref h6, .ref h7])), (h4, .inr (3, [.ref f1, .ref f2, .ref f3])), (f1, .inl (ta.1, 6, .inl (fun jx => nI (len jx)))), (f2, .inl (ta.1, 72, .inl (fun jx => nI (ent jx)))), (f3, .inl (ta.1, 40, .inl (cnt))), (h7, .inr (2, [.int done, .int left, .int (sp_b off)]))] EIO := by
  refine sx_ofW (y := yXB_block) (cc := cXB_block) (nL := 3) (ret := (some .int)) (by decide) (Nat.le_of_ble_eq_true rfl) (fun p e s m below meth c G hlk hZ hnh => ?_)
  refine sw_eq (ws' := [(h0, .inr (5, [.ref h1, .int (nI sg), .ref h2, .ref h3, .ref h4, .ref h5, .ref h6, .ref h7])), (h4, .inr (3, [.ref f1, .ref f2, .ref f3])), (f1, .inl (ta.1, 6, .inl (fun jx => nI (len jx)))), (f2, .inl (ta.1, 72, .inl (fun jx => nI (ent jx)))), (f3, .inl (ta.1, 40, .inl (cnt))), (h7, .inr (2, [.int done, .int left, .int (sp_b off)]))]) (lv2 := [(0, .ref h0), (1, .int (nI k)), (2, .int y)]) (pc2 := 0) (st2 := []) rfl ?_
  refine sw_aload_n G dXB_block_0 rfl 0 rfl ?_
  refine sw_readV (As := []) (rest := []) G (c_XB_demandPower l D ta h0 h1 h2 h3 h4 h5 h6 h7 sg done left off (ho)) (cwV 0 G.2.2.2.2.1 (sb_goodV wd_241 wd_243 ws_XB_demandPower wd_1 wd_244) rfl rfl rfl (by decide +kernel) ⟨Nat.le_of_ble_eq_true rfl, Nat.le_of_ble_eq_true rfl⟩) 0 5 rfl rfl rfl rfl (Nat.le_of_ble_eq_true rfl) dXB_block_1 ⟨Nat.le_of_ble_eq_true rfl, Nat.le_of_ble_eq_true rfl⟩ [0, 5] rfl (by decide) ?_
  refine sw_eq (ws' := [(h0, .inr (5, [.ref h1, .int (nI sg), .ref h2, .ref h3, .ref h4, .ref h5, .ref h6, .ref h7])), (h4, .inr (3, [.ref f1, .ref f2, .ref f3])), (f1, .inl (ta.1, 6, .inl (fun jx => nI (len jx)))), (f2, .inl (ta.1, 72, .inl (fun jx => nI (ent jx)))), (f3, .inl (ta.1, 40, .inl (cnt))), (h7, .inr (2, [.int done, .int left, .int (sp_b off)]))]) (lv2 := [(0, .ref h0), (1, .int (nI k)), (2, .int y)]) (pc2 := 4) (st2 := []) rfl ?_
  refine sw_aload_n G dXB_block_4 rfl 0 rfl ?_
  refine sw_iload_n G dXB_block_5 rfl 1 rfl ?_
  refine sw_iload_n G dXB_block_6 rfl 2 rfl ?_
  exact sx_callV (E := EIO) (As := [.int (nI k), .int y]) (rest := []) G hZ hlk hnh (c_XB_demandBlockOfN l D ta h0 h1 h2 h3 h4 h5 h6 h7 f1 f2 f3 sg len ent cnt k y (htr) (hk) (hl) (hx)) (cwV 2 G.2.2.2.2.1 (sb_goodV wd_431 wd_433 ws_XB_demandBlockOf wd_1 wd_434) rfl rfl rfl (by decide +kernel) ⟨Nat.le_of_ble_eq_true rfl, Nat.le_of_ble_eq_true rfl⟩) 0 5 rfl rfl rfl rfl (Nat.le_of_ble_eq_true rfl) dXB_block_7 ⟨Nat.le_of_ble_eq_true rfl, Nat.le_of_ble_eq_true rfl⟩ [0, 1, 2, 3, 4] rfl (by decide)

set_option maxRecDepth 100000 in
set_option maxHeartbeats 4000000 in
theorem c_XB_wordF (l : Launch) (D : va_G) (ta : ClassId × ClassId × ClassId) (h0 : Nat) (h1 : Nat) (h2 : Nat) (h3 : Nat) (h4 : Nat) (h5 : Nat) (h6 : Nat) (h7 : Nat) (sg : Nat) (done : Int32) (left : Int32) (off : Bool) (x : Int32) (y : Int32) (v : Int32) (htr : l.stackTraces = false) (ho : off = false) (hx : x < 0 ∨ ¬ x < nI 6) : sx l yXB_word wsXB_word ({ frames := 8, cells := 1, slots := 6, locals := 124 }) D ta [.ref h0, .int x, .int y, .int v] [(h0, .inr (5, [.ref h1, .int (nI sg), .ref h2, .ref h3, .ref h4, .ref h5, .ref h6, .ref h7])), (h7, .inr (2, [.int done, .int left, .int (sp_b off)]))] EIO := by
  refine sx_ofW (y := yXB_word) (cc := cXB_word) (nL := 4) (ret := (some .int)) (by decide) (Nat.le_of_ble_eq_true rfl) (fun p e s m below meth c G hlk hZ hnh => ?_)
  refine sw_eq (ws' := [(h0, .inr (5, [.ref h1, .int (nI sg), .ref h2, .ref h3, .ref h4, .ref h5, .ref h6, .ref h7])), (h7, .inr (2, [.int done, .int left, .int (sp_b off)]))]) (lv2 := [(0, .ref h0), (1, .int x), (2, .int y), (3, .int v)]) (pc2 := 0) (st2 := []) rfl ?_
  refine sw_aload_n G dXB_word_0 rfl 0 rfl ?_
  refine sw_readV (As := []) (rest := []) G (c_XB_demandPower l D ta h0 h1 h2 h3 h4 h5 h6 h7 sg done left off (ho)) (cwV 0 G.2.2.2.2.1 (sb_goodV wd_241 wd_243 ws_XB_demandPower wd_1 wd_244) rfl rfl rfl (by decide +kernel) ⟨Nat.le_of_ble_eq_true rfl, Nat.le_of_ble_eq_true rfl⟩) 0 5 rfl rfl rfl rfl (Nat.le_of_ble_eq_true rfl) dXB_word_1 ⟨Nat.le_of_ble_eq_true rfl, Nat.le_of_ble_eq_true rfl⟩ [0, 1] rfl (by decide) ?_
  refine sw_eq (ws' := [(h0, .inr (5, [.ref h1, .int (nI sg), .ref h2, .ref h3, .ref h4, .ref h5, .ref h6, .ref h7])), (h7, .inr (2, [.int done, .int left, .int (sp_b off)]))]) (lv2 := [(0, .ref h0), (1, .int x), (2, .int y), (3, .int v)]) (pc2 := 4) (st2 := []) rfl ?_
  refine sw_aload_n G dXB_word_4 rfl 0 rfl ?_
  refine sw_iload_n G dXB_word_5 rfl 1 rfl ?_
  refine sw_iload_n G dXB_word_6 rfl 2 rfl ?_
  exact sx_callV (E := EIO) (As := [.int x, .int y]) (rest := []) G hZ hlk hnh (c_XB_demandBlockOfF l D ta h0 h1 h2 h3 h4 h5 h6 h7 sg x y (htr) (hx)) (cwV 2 G.2.2.2.2.1 (sb_goodV wd_431 wd_433 ws_XB_demandBlockOf wd_1 wd_434) rfl rfl rfl (by decide +kernel) ⟨Nat.le_of_ble_eq_true rfl, Nat.le_of_ble_eq_true rfl⟩) 0 5 rfl rfl rfl rfl (Nat.le_of_ble_eq_true rfl) dXB_word_7 ⟨Nat.le_of_ble_eq_true rfl, Nat.le_of_ble_eq_true rfl⟩ [0] rfl (by decide)

set_option maxRecDepth 100000 in
set_option maxHeartbeats 4000000 in
theorem c_XB_wordN (l : Launch) (D : va_G) (ta : ClassId × ClassId × ClassId) (h0 : Nat) (h1 : Nat) (h2 : Nat) (h3 : Nat) (h4 : Nat) (h5 : Nat) (h6 : Nat) (h7 : Nat) (f1 : Nat) (f2 : Nat) (f3 : Nat) (sg : Nat) (len : Nat → Nat) (ent : Nat → Nat) (cnt : Nat → Int32) (done : Int32) (left : Int32) (off : Bool) (k : Nat) (y : Int32) (v : Int32) (htr : l.stackTraces = false) (ho : off = false) (hk : k < 6) (hl : len k ≤ 12) (hx : y < 0 ∨ ¬ y < nI (len k)) : sx l yXB_word wsXB_word ({ frames := 7, cells := 1, slots := 6, locals := 104 }) D ta [.ref h0, .int (nI k), .int y, .int v] [(h0, .inr (5, [.ref h1, .int (nI sg), .ref h2, .ref h3, .ref h4, .ref h5, .ref h6, .ref h7])), (h4, .inr (3, [.ref f1, .ref f2, .ref f3])), (f1, .inl (ta.1, 6, .inl (fun jx => nI (len jx)))), (f2, .inl (ta.1, 72, .inl (fun jx => nI (ent jx)))), (f3, .inl (ta.1, 40, .inl (cnt))), (h7, .inr (2, [.int done, .int left, .int (sp_b off)]))] EIO := by
  refine sx_ofW (y := yXB_word) (cc := cXB_word) (nL := 4) (ret := (some .int)) (by decide) (Nat.le_of_ble_eq_true rfl) (fun p e s m below meth c G hlk hZ hnh => ?_)
  refine sw_eq (ws' := [(h0, .inr (5, [.ref h1, .int (nI sg), .ref h2, .ref h3, .ref h4, .ref h5, .ref h6, .ref h7])), (h4, .inr (3, [.ref f1, .ref f2, .ref f3])), (f1, .inl (ta.1, 6, .inl (fun jx => nI (len jx)))), (f2, .inl (ta.1, 72, .inl (fun jx => nI (ent jx)))), (f3, .inl (ta.1, 40, .inl (cnt))), (h7, .inr (2, [.int done, .int left, .int (sp_b off)]))]) (lv2 := [(0, .ref h0), (1, .int (nI k)), (2, .int y), (3, .int v)]) (pc2 := 0) (st2 := []) rfl ?_
  refine sw_aload_n G dXB_word_0 rfl 0 rfl ?_
  refine sw_readV (As := []) (rest := []) G (c_XB_demandPower l D ta h0 h1 h2 h3 h4 h5 h6 h7 sg done left off (ho)) (cwV 0 G.2.2.2.2.1 (sb_goodV wd_241 wd_243 ws_XB_demandPower wd_1 wd_244) rfl rfl rfl (by decide +kernel) ⟨Nat.le_of_ble_eq_true rfl, Nat.le_of_ble_eq_true rfl⟩) 0 5 rfl rfl rfl rfl (Nat.le_of_ble_eq_true rfl) dXB_word_1 ⟨Nat.le_of_ble_eq_true rfl, Nat.le_of_ble_eq_true rfl⟩ [0, 5] rfl (by decide) ?_
  refine sw_eq (ws' := [(h0, .inr (5, [.ref h1, .int (nI sg), .ref h2, .ref h3, .ref h4, .ref h5, .ref h6, .ref h7])), (h4, .inr (3, [.ref f1, .ref f2, .ref f3])), (f1, .inl (ta.1, 6, .inl (fun jx => nI (len jx)))), (f2, .inl (ta.1, 72, .inl (fun jx => nI (ent jx)))), (f3, .inl (ta.1, 40, .inl (cnt))), (h7, .inr (2, [.int done, .int left, .int (sp_b off)]))]) (lv2 := [(0, .ref h0), (1, .int (nI k)), (2, .int y), (3, .int v)]) (pc2 := 4) (st2 := []) rfl ?_
  refine sw_aload_n G dXB_word_4 rfl 0 rfl ?_
  refine sw_iload_n G dXB_word_5 rfl 1 rfl ?_
  refine sw_iload_n G dXB_word_6 rfl 2 rfl ?_
  exact sx_callV (E := EIO) (As := [.int (nI k), .int y]) (rest := []) G hZ hlk hnh (c_XB_demandBlockOfN l D ta h0 h1 h2 h3 h4 h5 h6 h7 f1 f2 f3 sg len ent cnt k y (htr) (hk) (hl) (hx)) (cwV 2 G.2.2.2.2.1 (sb_goodV wd_431 wd_433 ws_XB_demandBlockOf wd_1 wd_434) rfl rfl rfl (by decide +kernel) ⟨Nat.le_of_ble_eq_true rfl, Nat.le_of_ble_eq_true rfl⟩) 0 5 rfl rfl rfl rfl (Nat.le_of_ble_eq_true rfl) dXB_word_7 ⟨Nat.le_of_ble_eq_true rfl, Nat.le_of_ble_eq_true rfl⟩ [0, 1, 2, 3, 4] rfl (by decide)

set_option maxRecDepth 100000 in
set_option maxHeartbeats 4000000 in
theorem c_XB_wordW (l : Launch) (D : va_G) (ta : ClassId × ClassId × ClassId) (h0 : Nat) (h1 : Nat) (h2 : Nat) (h3 : Nat) (h4 : Nat) (h5 : Nat) (h6 : Nat) (h7 : Nat) (f1 : Nat) (f2 : Nat) (f3 : Nat) (sg : Nat) (len : Nat → Nat) (ent : Nat → Nat) (cnt : Nat → Int32) (done : Int32) (left : Int32) (off : Bool) (k : Nat) (b : Nat) (v : Int32) (htr : l.stackTraces = false) (ho : off = false) (hk : k < 6) (hb : b < len k) (hl : len k ≤ 12) (hx : v < 0 ∨ ¬ v < nI 4) : sx l yXB_word wsXB_word ({ frames := 6, cells := 1, slots := 6, locals := 82 }) D ta [.ref h0, .int (nI k), .int (nI b), .int v] [(h0, .inr (5, [.ref h1, .int (nI sg), .ref h2, .ref h3, .ref h4, .ref h5, .ref h6, .ref h7])), (h4, .inr (3, [.ref f1, .ref f2, .ref f3])), (f1, .inl (ta.1, 6, .inl (fun jx => nI (len jx)))), (f2, .inl (ta.1, 72, .inl (fun jx => nI (ent jx)))), (f3, .inl (ta.1, 40, .inl (cnt))), (h7, .inr (2, [.int done, .int left, .int (sp_b off)]))] EIO := by
  refine sx_ofW (y := yXB_word) (cc := cXB_word) (nL := 4) (ret := (some .int)) (by decide) (Nat.le_of_ble_eq_true rfl) (fun p e s m below meth c G hlk hZ hnh => ?_)
  refine sw_eq (ws' := [(h0, .inr (5, [.ref h1, .int (nI sg), .ref h2, .ref h3, .ref h4, .ref h5, .ref h6, .ref h7])), (h4, .inr (3, [.ref f1, .ref f2, .ref f3])), (f1, .inl (ta.1, 6, .inl (fun jx => nI (len jx)))), (f2, .inl (ta.1, 72, .inl (fun jx => nI (ent jx)))), (f3, .inl (ta.1, 40, .inl (cnt))), (h7, .inr (2, [.int done, .int left, .int (sp_b off)]))]) (lv2 := [(0, .ref h0), (1, .int (nI k)), (2, .int (nI b)), (3, .int v)]) (pc2 := 0) (st2 := []) rfl ?_
  refine sw_aload_n G dXB_word_0 rfl 0 rfl ?_
  refine sw_readV (As := []) (rest := []) G (c_XB_demandPower l D ta h0 h1 h2 h3 h4 h5 h6 h7 sg done left off (ho)) (cwV 0 G.2.2.2.2.1 (sb_goodV wd_241 wd_243 ws_XB_demandPower wd_1 wd_244) rfl rfl rfl (by decide +kernel) ⟨Nat.le_of_ble_eq_true rfl, Nat.le_of_ble_eq_true rfl⟩) 0 5 rfl rfl rfl rfl (Nat.le_of_ble_eq_true rfl) dXB_word_1 ⟨Nat.le_of_ble_eq_true rfl, Nat.le_of_ble_eq_true rfl⟩ [0, 5] rfl (by decide) ?_
  refine sw_eq (ws' := [(h0, .inr (5, [.ref h1, .int (nI sg), .ref h2, .ref h3, .ref h4, .ref h5, .ref h6, .ref h7])), (h4, .inr (3, [.ref f1, .ref f2, .ref f3])), (f1, .inl (ta.1, 6, .inl (fun jx => nI (len jx)))), (f2, .inl (ta.1, 72, .inl (fun jx => nI (ent jx)))), (f3, .inl (ta.1, 40, .inl (cnt))), (h7, .inr (2, [.int done, .int left, .int (sp_b off)]))]) (lv2 := [(0, .ref h0), (1, .int (nI k)), (2, .int (nI b)), (3, .int v)]) (pc2 := 4) (st2 := []) rfl ?_
  refine sw_aload_n G dXB_word_4 rfl 0 rfl ?_
  refine sw_iload_n G dXB_word_5 rfl 1 rfl ?_
  refine sw_iload_n G dXB_word_6 rfl 2 rfl ?_
  refine sw_readV (As := [.int (nI k), .int (nI b)]) (rest := []) G (c_XB_demandBlockOf l D ta h0 h1 h2 h3 h4 h5 h6 h7 f1 f2 f3 sg len ent cnt k b (by omega) (by omega) (by omega)) (cwV 2 G.2.2.2.2.1 (sb_goodV wd_431 wd_433 ws_XB_demandBlockOf wd_1 wd_434) rfl rfl rfl (by decide +kernel) ⟨Nat.le_of_ble_eq_true rfl, Nat.le_of_ble_eq_true rfl⟩) 0 5 rfl rfl rfl rfl (Nat.le_of_ble_eq_true rfl) dXB_word_7 ⟨Nat.le_of_ble_eq_true rfl, Nat.le_of_ble_eq_true rfl⟩ [0, 1, 2, 3, 4] rfl (by decide) ?_
  refine sw_eq (ws' := [(h0, .inr (5, [.ref h1, .int (nI sg), .ref h2, .ref h3, .ref h4, .ref h5, .ref h6, .ref h7])), (h4, .inr (3, [.ref f1, .ref f2, .ref f3])), (f1, .inl (ta.1, 6, .inl (fun jx => nI (len jx)))), (f2, .inl (ta.1, 72, .inl (fun jx => nI (ent jx)))), (f3, .inl (ta.1, 40, .inl (cnt))), (h7, .inr (2, [.int done, .int left, .int (sp_b off)]))]) (lv2 := [(0, .ref h0), (1, .int (nI k)), (2, .int (nI b)), (3, .int v)]) (pc2 := 10) (st2 := []) rfl ?_
  refine sw_iload_n G dXB_word_10 rfl 3 rfl ?_
  refine sw_if_lt (x := v) (tgt := 19) G dXB_word_11 (by decide) (fun br11 => ?_) (fun br11 => ?_)
  · exact sx_site (E := EIO) (ic := 107) (ix := 111) (is := 129) G htr hZ hlk hnh (by decide +kernel) wd_332 wd_13 (by decide) sx_own111 dXB_word_19 dXB_word_22 dXB_word_23 dXB_word_25 dXB_word_28 ⟨Nat.le_of_ble_eq_true rfl, Nat.le_of_ble_eq_true rfl, Nat.le_of_ble_eq_true rfl, Nat.le_of_ble_eq_true rfl⟩
  · refine sw_iload_n G dXB_word_14 rfl 3 rfl ?_
    refine sw_iconst (v := nI 4) G dXB_word_15 (by decide) ?_
    refine sw_icmp_lt (x := v) (y := nI 4) (tgt := 29) G dXB_word_16 (by decide) (fun br16 => ?_) (fun br16 => ?_)
    · exact hx.elim (fun q => absurd q br11) (fun q => absurd br16 q)
    · exact sx_site (E := EIO) (ic := 107) (ix := 111) (is := 129) G htr hZ hlk hnh (by decide +kernel) wd_332 wd_13 (by decide) sx_own111 dXB_word_19 dXB_word_22 dXB_word_23 dXB_word_25 dXB_word_28 ⟨Nat.le_of_ble_eq_true rfl, Nat.le_of_ble_eq_true rfl, Nat.le_of_ble_eq_true rfl, Nat.le_of_ble_eq_true rfl⟩

set_option maxRecDepth 100000 in
set_option maxHeartbeats 4000000 in
theorem c_XB_findS (l : Launch) (D : va_G) (ta : ClassId × ClassId × ClassId) (h0 : Nat) (h1 : Nat) (h2 : Nat) (h3 : Nat) (h4 : Nat) (h5 : Nat) (h6 : Nat) (h7 : Nat) (sg : Nat) (done : Int32) (left : Int32) (off : Bool) (htr : l.stackTraces = false) (ho : off = false) (hs : sg < 4) : sx l yXB_find wsXB_find ({ frames := 7, cells := 1, slots := 6, locals := 102 }) D ta [.ref h0] [(h0, .inr (5, [.ref h1, .int (nI sg), .ref h2, .ref h3, .ref h4, .ref h5, .ref h6, .ref h7])), (h7, .inr (2, [.int done, .int left, .int (sp_b off)]))] EIS := by
  refine sx_ofW (y := yXB_find) (cc := cXB_find) (nL := 1) (ret := (some .int)) (by decide) (Nat.le_of_ble_eq_true rfl) (fun p e s m below meth c G hlk hZ hnh => ?_)
  refine sw_eq (ws' := [(h0, .inr (5, [.ref h1, .int (nI sg), .ref h2, .ref h3, .ref h4, .ref h5, .ref h6, .ref h7])), (h7, .inr (2, [.int done, .int left, .int (sp_b off)]))]) (lv2 := [(0, .ref h0)]) (pc2 := 0) (st2 := []) rfl ?_
  refine sw_aload_n G dXB_find_0 rfl 0 rfl ?_
  refine sw_readV (As := []) (rest := []) G (c_XB_demandPower l D ta h0 h1 h2 h3 h4 h5 h6 h7 sg done left off (ho)) (cwV 0 G.2.2.2.2.1 (sb_goodV wd_241 wd_243 ws_XB_demandPower wd_1 wd_244) rfl rfl rfl (by decide +kernel) ⟨Nat.le_of_ble_eq_true rfl, Nat.le_of_ble_eq_true rfl⟩) 0 5 rfl rfl rfl rfl (Nat.le_of_ble_eq_true rfl) dXB_find_1 ⟨Nat.le_of_ble_eq_true rfl, Nat.le_of_ble_eq_true rfl⟩ [0, 1] rfl (by decide) ?_
  refine sw_eq (ws' := [(h0, .inr (5, [.ref h1, .int (nI sg), .ref h2, .ref h3, .ref h4, .ref h5, .ref h6, .ref h7])), (h7, .inr (2, [.int done, .int left, .int (sp_b off)]))]) (lv2 := [(0, .ref h0)]) (pc2 := 4) (st2 := []) rfl ?_
  refine sw_aload_n G dXB_find_4 rfl 0 rfl ?_
  exact sx_callV (E := EIS) (As := []) (rest := []) G hZ hlk hnh (c_XB_demandFullStageX l D ta h0 h1 h2 h3 h4 h5 h6 h7 sg (htr) (hs)) (cwV 0 G.2.2.2.2.1 (sb_goodV wd_348 wd_350 ws_XB_demandFullStage wd_1 wd_351) rfl rfl rfl (by decide +kernel) ⟨Nat.le_of_ble_eq_true rfl, Nat.le_of_ble_eq_true rfl⟩) 0 5 rfl rfl rfl rfl (Nat.le_of_ble_eq_true rfl) dXB_find_5 ⟨Nat.le_of_ble_eq_true rfl, Nat.le_of_ble_eq_true rfl⟩ [0] rfl (by decide)

set_option maxRecDepth 100000 in
set_option maxHeartbeats 4000000 in
theorem c_XB_passesS (l : Launch) (D : va_G) (ta : ClassId × ClassId × ClassId) (h0 : Nat) (h1 : Nat) (h2 : Nat) (h3 : Nat) (h4 : Nat) (h5 : Nat) (h6 : Nat) (h7 : Nat) (sg : Nat) (done : Int32) (left : Int32) (off : Bool) (htr : l.stackTraces = false) (ho : off = false) (hs : sg < 4) : sx l yXB_passes wsXB_passes ({ frames := 7, cells := 1, slots := 6, locals := 102 }) D ta [.ref h0] [(h0, .inr (5, [.ref h1, .int (nI sg), .ref h2, .ref h3, .ref h4, .ref h5, .ref h6, .ref h7])), (h7, .inr (2, [.int done, .int left, .int (sp_b off)]))] EIS := by
  refine sx_ofW (y := yXB_passes) (cc := cXB_passes) (nL := 1) (ret := (some .boolean)) (by decide) (Nat.le_of_ble_eq_true rfl) (fun p e s m below meth c G hlk hZ hnh => ?_)
  refine sw_eq (ws' := [(h0, .inr (5, [.ref h1, .int (nI sg), .ref h2, .ref h3, .ref h4, .ref h5, .ref h6, .ref h7])), (h7, .inr (2, [.int done, .int left, .int (sp_b off)]))]) (lv2 := [(0, .ref h0)]) (pc2 := 0) (st2 := []) rfl ?_
  refine sw_aload_n G dXB_passes_0 rfl 0 rfl ?_
  refine sw_readV (As := []) (rest := []) G (c_XB_demandPower l D ta h0 h1 h2 h3 h4 h5 h6 h7 sg done left off (ho)) (cwV 0 G.2.2.2.2.1 (sb_goodV wd_241 wd_243 ws_XB_demandPower wd_1 wd_244) rfl rfl rfl (by decide +kernel) ⟨Nat.le_of_ble_eq_true rfl, Nat.le_of_ble_eq_true rfl⟩) 0 5 rfl rfl rfl rfl (Nat.le_of_ble_eq_true rfl) dXB_passes_1 ⟨Nat.le_of_ble_eq_true rfl, Nat.le_of_ble_eq_true rfl⟩ [0, 1] rfl (by decide) ?_
  refine sw_eq (ws' := [(h0, .inr (5, [.ref h1, .int (nI sg), .ref h2, .ref h3, .ref h4, .ref h5, .ref h6, .ref h7])), (h7, .inr (2, [.int done, .int left, .int (sp_b off)]))]) (lv2 := [(0, .ref h0)]) (pc2 := 4) (st2 := []) rfl ?_
  refine sw_aload_n G dXB_passes_4 rfl 0 rfl ?_
  exact sx_callV (E := EIS) (As := []) (rest := []) G hZ hlk hnh (c_XB_demandFullStageX l D ta h0 h1 h2 h3 h4 h5 h6 h7 sg (htr) (hs)) (cwV 0 G.2.2.2.2.1 (sb_goodV wd_348 wd_350 ws_XB_demandFullStage wd_1 wd_351) rfl rfl rfl (by decide +kernel) ⟨Nat.le_of_ble_eq_true rfl, Nat.le_of_ble_eq_true rfl⟩) 0 5 rfl rfl rfl rfl (Nat.le_of_ble_eq_true rfl) dXB_passes_5 ⟨Nat.le_of_ble_eq_true rfl, Nat.le_of_ble_eq_true rfl⟩ [0] rfl (by decide)

set_option maxRecDepth 100000 in
set_option maxHeartbeats 4000000 in
theorem c_XB_crashAfterX (l : Launch) (D : va_G) (ta : ClassId × ClassId × ClassId) (h0 : Nat) (h1 : Nat) (h2 : Nat) (h3 : Nat) (h4 : Nat) (h5 : Nat) (h6 : Nat) (h7 : Nat) (sg : Nat) (done : Int32) (left : Int32) (off : Bool) (x : Int32) (htr : l.stackTraces = false) (hx : x < -1 ∨ ¬ x ≤ nI 1000) : sx l yXB_crashAfter wsXB_crashAfter ({ frames := 6, cells := 1, slots := 6, locals := 82 }) D ta [.ref h0, .int x] [(h0, .inr (5, [.ref h1, .int (nI sg), .ref h2, .ref h3, .ref h4, .ref h5, .ref h6, .ref h7])), (h7, .inr (2, [.int done, .int left, .int (sp_b off)]))] EIA := by
  refine sx_ofW (y := yXB_crashAfter) (cc := cXB_crashAfter) (nL := 2) (ret := none) (by decide) (Nat.le_of_ble_eq_true rfl) (fun p e s m below meth c G hlk hZ hnh => ?_)
  refine sw_eq (ws' := [(h0, .inr (5, [.ref h1, .int (nI sg), .ref h2, .ref h3, .ref h4, .ref h5, .ref h6, .ref h7])), (h7, .inr (2, [.int done, .int left, .int (sp_b off)]))]) (lv2 := [(0, .ref h0), (1, .int x)]) (pc2 := 0) (st2 := []) rfl ?_
  refine sw_iload_n G dXB_crashAfter_0 rfl 1 rfl ?_
  refine sw_iconst (v := -1) G dXB_crashAfter_1 (by decide) ?_
  refine sw_icmp_lt (x := x) (y := -1) (tgt := 12) G dXB_crashAfter_2 (by decide) (fun br2 => ?_) (fun br2 => ?_)
  · exact sx_site (E := EIA) (ic := 162) (ix := 166) (is := 164) G htr hZ hlk hnh (by decide +kernel) wd_526 wd_17 (by decide) sx_own166 dXB_crashAfter_12 dXB_crashAfter_15 dXB_crashAfter_16 dXB_crashAfter_18 dXB_crashAfter_21 ⟨Nat.le_of_ble_eq_true rfl, Nat.le_of_ble_eq_true rfl, Nat.le_of_ble_eq_true rfl, Nat.le_of_ble_eq_true rfl⟩
  · refine sw_iload_n G dXB_crashAfter_5 rfl 1 rfl ?_
    refine sw_sipush (v := nI 1000) G dXB_crashAfter_6 (by decide) ?_
    refine sw_icmp_le (x := x) (y := nI 1000) (tgt := 22) G dXB_crashAfter_9 (by decide) (fun br9 => ?_) (fun br9 => ?_)
    · exact hx.elim (fun q => absurd q br2) (fun q => absurd br9 q)
    · exact sx_site (E := EIA) (ic := 162) (ix := 166) (is := 164) G htr hZ hlk hnh (by decide +kernel) wd_526 wd_17 (by decide) sx_own166 dXB_crashAfter_12 dXB_crashAfter_15 dXB_crashAfter_16 dXB_crashAfter_18 dXB_crashAfter_21 ⟨Nat.le_of_ble_eq_true rfl, Nat.le_of_ble_eq_true rfl, Nat.le_of_ble_eq_true rfl, Nat.le_of_ble_eq_true rfl⟩
