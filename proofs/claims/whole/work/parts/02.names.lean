def sbT : List Cond := lw_tbl.filter goodWord
theorem sb_in {w : Cond} (i : Nat) (h : tables_1[i]? = some w) (g : goodWord w = true) : w ∈ sbT := List.mem_filter.mpr ⟨List.mem_append_right _ (List.mem_of_getElem? h), g⟩
theorem sb_sel {q : MethodName × Nat} (i : Nat) (h : lw_privs[i]? = some q) : Cond.selects q.1.cls q.1 q.1 ∈ sbT := List.mem_filter.mpr ⟨List.mem_append_left _ (List.mem_map.mpr ⟨q, List.mem_of_getElem? h, rfl⟩), rfl⟩
theorem sb_good : ∀ w ∈ sbT, goodWord w = true := fun w h => (List.mem_filter.mp h).2
theorem sb_goodL {ws : List Cond} (h : ∀ w ∈ ws, w ∈ sbT) : GoodIn sbT ws := fun w hw => ⟨h w hw, good_of_word (sb_good w (h w hw))⟩
theorem sb_goodV {cd : Cond} {own C : String} {idx : Nat} {y : MethodName} (h1 : Cond.methodLink own idx y ∈ sbT) (h2 : Cond.instanceMethod y ∈ sbT) (h3 : Cond.selects C y y ∈ sbT) (h4 : Cond.initialized C ∈ sbT) (h5 : cd ∈ sbT) : GoodIn sbT (wsV own idx C y (cd :: sbT)) := sb_goodL (fun w hw => by
  simp only [wsV, List.mem_append, List.mem_cons, List.not_mem_nil, or_false] at hw
  rcases hw with (rfl | rfl | rfl | rfl) | rfl | hw <;> assumption)
theorem sb_goodS {cd : Cond} {own : String} {idx : Nat} {y : MethodName} (h1 : Cond.methodLink own idx y ∈ sbT) (h2 : Cond.static y ∈ sbT) (h3 : Cond.initialized y.cls ∈ sbT) (h5 : cd ∈ sbT) : GoodIn sbT (va_wsS own idx y (cd :: sbT)) := sb_goodL (fun w hw => by
  simp only [va_wsS, List.mem_append, List.mem_cons, List.not_mem_nil, or_false] at hw
  rcases hw with (rfl | rfl | rfl) | rfl | hw <;> assumption)
def RXC : String := "SharedBlockStore$Content"
def RXD : String := "SharedBlockStore$Disk"
def RXI : String := "SharedBlockStore$Index"
def RXP : String := "SharedBlockStore$Power"
def RXR : String := "SharedBlockStore$Rows"
def RXS : String := "SharedBlockStore$Slot"
def RXB : String := "SharedBlockStore"
def RXM : String := "SharedBlockStoreModel"
def RXL : String := "SharedBlockStoreLaw"
def RXA : String := "java/util/Arrays"
def RXG : String := "java/lang/Long"
def TXD : u_T := fun k => match k with
  | _ => (RXD, "words", "[I", true)
def tyXD : Nat → FieldType := fun k => match k with
  | _ => .array .int
theorem nmXD : ∀ a, a < 1 → ∀ b, b < 1 → a ≠ b → (TXD a).2.1 ≠ (TXD b).2.1 := by decide +kernel
theorem tyXD_ok : ∀ k, k < 1 → parseFieldDescriptor (TXD k).2.2.1 = some (tyXD k) := by decide +kernel
theorem inXD : ∀ w ∈ u_ws RXD TXD 1, w ∈ sbT := List.forall_mem_map.mpr (fun k hk => by
  have hk := List.mem_range.mp hk
  rcases (show k = 0 by omega) with rfl
  · exact sb_in 33 (by decide +kernel) rfl)
def TXI : u_T := fun k => match k with
  | 0 => (RXI, "disk", "LSharedBlockStore$Disk;", true)
  | 1 => (RXI, "blockIn", "[I", true)
  | 2 => (RXI, "cellOf", "[I", true)
  | 3 => (RXI, "gate", "J", false)
  | _ => (RXI, "probed", "I", false)
def tyXI : Nat → FieldType := fun k => match k with
  | 0 => .object "SharedBlockStore$Disk"
  | 1 => .array .int
  | 2 => .array .int
  | 3 => .long
  | _ => .int
theorem nmXI : ∀ a, a < 5 → ∀ b, b < 5 → a ≠ b → (TXI a).2.1 ≠ (TXI b).2.1 := by decide +kernel
theorem tyXI_ok : ∀ k, k < 5 → parseFieldDescriptor (TXI k).2.2.1 = some (tyXI k) := by decide +kernel
theorem inXI : ∀ w ∈ u_ws RXI TXI 5, w ∈ sbT := List.forall_mem_map.mpr (fun k hk => by
  have hk := List.mem_range.mp hk
  rcases (show k = 0 ∨ k = 1 ∨ k = 2 ∨ k = 3 ∨ k = 4 by omega) with rfl | rfl | rfl | rfl | rfl
  · exact sb_in 51 (by decide +kernel) rfl
  · exact sb_in 53 (by decide +kernel) rfl
  · exact sb_in 55 (by decide +kernel) rfl
  · exact sb_in 57 (by decide +kernel) rfl
  · exact sb_in 59 (by decide +kernel) rfl)
def TXP : u_T := fun k => match k with
  | 0 => (RXP, "done", "I", false)
  | 1 => (RXP, "left", "I", false)
  | _ => (RXP, "off", "Z", false)
def tyXP : Nat → FieldType := fun k => match k with
  | 0 => .int
  | 1 => .int
  | _ => .boolean
theorem nmXP : ∀ a, a < 3 → ∀ b, b < 3 → a ≠ b → (TXP a).2.1 ≠ (TXP b).2.1 := by decide +kernel
theorem tyXP_ok : ∀ k, k < 3 → parseFieldDescriptor (TXP k).2.2.1 = some (tyXP k) := by decide +kernel
theorem inXP : ∀ w ∈ u_ws RXP TXP 3, w ∈ sbT := List.forall_mem_map.mpr (fun k hk => by
  have hk := List.mem_range.mp hk
  rcases (show k = 0 ∨ k = 1 ∨ k = 2 by omega) with rfl | rfl | rfl
  · exact sb_in 102 (by decide +kernel) rfl
  · exact sb_in 104 (by decide +kernel) rfl
  · exact sb_in 106 (by decide +kernel) rfl)
def TXR : u_T := fun k => match k with
  | 0 => (RXR, "lengths", "[I", true)
  | 1 => (RXR, "entries", "[I", true)
  | _ => (RXR, "timesHad", "[I", true)
def tyXR : Nat → FieldType := fun k => match k with
  | 0 => .array .int
  | 1 => .array .int
  | _ => .array .int
theorem nmXR : ∀ a, a < 3 → ∀ b, b < 3 → a ≠ b → (TXR a).2.1 ≠ (TXR b).2.1 := by decide +kernel
theorem tyXR_ok : ∀ k, k < 3 → parseFieldDescriptor (TXR k).2.2.1 = some (tyXR k) := by decide +kernel
theorem inXR : ∀ w ∈ u_ws RXR TXR 3, w ∈ sbT := List.forall_mem_map.mpr (fun k hk => by
  have hk := List.mem_range.mp hk
  rcases (show k = 0 ∨ k = 1 ∨ k = 2 by omega) with rfl | rfl | rfl
  · exact sb_in 71 (by decide +kernel) rfl
  · exact sb_in 73 (by decide +kernel) rfl
  · exact sb_in 75 (by decide +kernel) rfl)
def TXS : u_T := fun k => match k with
  | 0 => (RXS, "rows", "LSharedBlockStore$Rows;", true)
  | _ => (RXS, "number", "I", false)
def tyXS : Nat → FieldType := fun k => match k with
  | 0 => .object "SharedBlockStore$Rows"
  | _ => .int
theorem nmXS : ∀ a, a < 2 → ∀ b, b < 2 → a ≠ b → (TXS a).2.1 ≠ (TXS b).2.1 := by decide +kernel
theorem tyXS_ok : ∀ k, k < 2 → parseFieldDescriptor (TXS k).2.2.1 = some (tyXS k) := by decide +kernel
theorem inXS : ∀ w ∈ u_ws RXS TXS 2, w ∈ sbT := List.forall_mem_map.mpr (fun k hk => by
  have hk := List.mem_range.mp hk
  rcases (show k = 0 ∨ k = 1 by omega) with rfl | rfl
  · exact sb_in 88 (by decide +kernel) rfl
  · exact sb_in 90 (by decide +kernel) rfl)
def TXB : u_T := fun k => match k with
  | 0 => (RXB, "stage", "[I", true)
  | 1 => (RXB, "staged", "I", false)
  | 2 => (RXB, "disk", "LSharedBlockStore$Disk;", true)
  | 3 => (RXB, "index", "LSharedBlockStore$Index;", true)
  | 4 => (RXB, "files", "LSharedBlockStore$Rows;", true)
  | 5 => (RXB, "latest", "LSharedBlockStore$Slot;", false)
  | 6 => (RXB, "other", "LSharedBlockStore$Slot;", false)
  | _ => (RXB, "power", "LSharedBlockStore$Power;", true)
def tyXB : Nat → FieldType := fun k => match k with
  | 0 => .array .int
  | 1 => .int
  | 2 => .object "SharedBlockStore$Disk"
  | 3 => .object "SharedBlockStore$Index"
  | 4 => .object "SharedBlockStore$Rows"
  | 5 => .object "SharedBlockStore$Slot"
  | 6 => .object "SharedBlockStore$Slot"
  | _ => .object "SharedBlockStore$Power"
theorem nmXB : ∀ a, a < 8 → ∀ b, b < 8 → a ≠ b → (TXB a).2.1 ≠ (TXB b).2.1 := by decide +kernel
theorem tyXB_ok : ∀ k, k < 8 → parseFieldDescriptor (TXB k).2.2.1 = some (tyXB k) := by decide +kernel
theorem inXB : ∀ w ∈ u_ws RXB TXB 8, w ∈ sbT := List.forall_mem_map.mpr (fun k hk => by
  have hk := List.mem_range.mp hk
  rcases (show k = 0 ∨ k = 1 ∨ k = 2 ∨ k = 3 ∨ k = 4 ∨ k = 5 ∨ k = 6 ∨ k = 7 by omega) with rfl | rfl | rfl | rfl | rfl | rfl | rfl | rfl
  · exact sb_in 117 (by decide +kernel) rfl
  · exact sb_in 119 (by decide +kernel) rfl
  · exact sb_in 121 (by decide +kernel) rfl
  · exact sb_in 123 (by decide +kernel) rfl
  · exact sb_in 125 (by decide +kernel) rfl
  · exact sb_in 127 (by decide +kernel) rfl
  · exact sb_in 129 (by decide +kernel) rfl
  · exact sb_in 131 (by decide +kernel) rfl)
def TXM : u_T := fun k => match k with
  | 0 => (RXM, "fault", "I", false)
  | 1 => (RXM, "isDown", "Z", false)
  | 2 => (RXM, "left", "I", false)
  | 3 => (RXM, "writes", "I", false)
  | 4 => (RXM, "probes", "I", false)
  | 5 => (RXM, "staged", "I", false)
  | 6 => (RXM, "stage", "[I", true)
  | 7 => (RXM, "content", "[I", true)
  | 8 => (RXM, "row", "[I", true)
  | 9 => (RXM, "rows", "[I", true)
  | 10 => (RXM, "savedRow", "[I", true)
  | 11 => (RXM, "savedRows", "[I", true)
  | 12 => (RXM, "number", "I", false)
  | 13 => (RXM, "cells", "[I", true)
  | _ => (RXM, "gate", "[Z", true)
def tyXM : Nat → FieldType := fun k => match k with
  | 0 => .int
  | 1 => .boolean
  | 2 => .int
  | 3 => .int
  | 4 => .int
  | 5 => .int
  | 6 => .array .int
  | 7 => .array .int
  | 8 => .array .int
  | 9 => .array .int
  | 10 => .array .int
  | 11 => .array .int
  | 12 => .int
  | 13 => .array .int
  | _ => .array .boolean
theorem nmXM : ∀ a, a < 15 → ∀ b, b < 15 → a ≠ b → (TXM a).2.1 ≠ (TXM b).2.1 := by decide +kernel
theorem tyXM_ok : ∀ k, k < 15 → parseFieldDescriptor (TXM k).2.2.1 = some (tyXM k) := by decide +kernel
theorem inXM : ∀ w ∈ u_ws RXM TXM 15, w ∈ sbT := List.forall_mem_map.mpr (fun k hk => by
  have hk := List.mem_range.mp hk
  rcases (show k = 0 ∨ k = 1 ∨ k = 2 ∨ k = 3 ∨ k = 4 ∨ k = 5 ∨ k = 6 ∨ k = 7 ∨ k = 8 ∨ k = 9 ∨ k = 10 ∨ k = 11 ∨ k = 12 ∨ k = 13 ∨ k = 14 by omega) with rfl | rfl | rfl | rfl | rfl | rfl | rfl | rfl | rfl | rfl | rfl | rfl | rfl | rfl | rfl
  · exact sb_in 567 (by decide +kernel) rfl
  · exact sb_in 569 (by decide +kernel) rfl
  · exact sb_in 571 (by decide +kernel) rfl
  · exact sb_in 573 (by decide +kernel) rfl
  · exact sb_in 575 (by decide +kernel) rfl
  · exact sb_in 577 (by decide +kernel) rfl
  · exact sb_in 579 (by decide +kernel) rfl
  · exact sb_in 581 (by decide +kernel) rfl
  · exact sb_in 583 (by decide +kernel) rfl
  · exact sb_in 585 (by decide +kernel) rfl
  · exact sb_in 587 (by decide +kernel) rfl
  · exact sb_in 589 (by decide +kernel) rfl
  · exact sb_in 591 (by decide +kernel) rfl
  · exact sb_in 593 (by decide +kernel) rfl
  · exact sb_in 595 (by decide +kernel) rfl)
abbrev vwCl : List vw_C := [(RXD, TXD, 1), (RXI, TXI, 5), (RXP, TXP, 3), (RXR, TXR, 3), (RXS, TXS, 2), (RXB, TXB, 8), (RXM, TXM, 15)]
