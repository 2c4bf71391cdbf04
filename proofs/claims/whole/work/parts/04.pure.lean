/-! numbers and stores -/
def sp_o (o : Option Nat) : Int32 := match o with
  | none => -1
  | some b => nI b
def sp_b (b : Bool) : Int32 := match b with
  | true => nI 1
  | false => nI 0
theorem sp_upN (f : Nat → Nat) (k x : Nat) : upd (fun j => nI (f j)) k (nI x) = fun j => nI (va_up f k x j) := by
  funext j; unfold upd va_up; split <;> rfl
theorem sp_upO (f : Nat → Option Nat) (k : Nat) (x : Option Nat) : upd (fun j => sp_o (f j)) k (sp_o x) = fun j => sp_o (va_up f k x j) := by
  funext j; unfold upd va_up; split <;> rfl
theorem sp_upB1 (f : Nat → Bool) (k : Nat) : upd (fun j => sp_b (f j)) k (nI 1) = fun j => sp_b (va_up f k true j) := by
  funext j; unfold upd va_up; split <;> rfl
theorem sp_upB0 (f : Nat → Bool) (k : Nat) : upd (fun j => sp_b (f j)) k (nI 0) = fun j => sp_b (va_up f k false j) := by
  funext j; unfold upd va_up; split <;> rfl
theorem sp_inc (a : Nat) : nI a + Int32.ofInt 1 = nI (a + 1) := nI_1 a
theorem sp_incN (a k : Nat) : nI a + Int32.ofInt k = nI (a + k) := by
  rw [← nI_add]; rfl
theorem sp_add (a b : Nat) : nI a + nI b = nI (a + b) := nI_add a b
theorem sp_m1 : (-1 : Int32).toInt = -1 := by decide
theorem sp_o_lt {o : Option Nat} (h : ∀ b, o = some b → b < 2 ^ 31) : sp_o o < 0 ↔ o = none := by
  cases o with
  | none => simp [sp_o]
  | some b =>
    simp [sp_o]
    exact nI_pos' (h b rfl)
theorem sp_o_m1 {o : Option Nat} (h : ∀ b, o = some b → b < 2 ^ 31) : sp_o o = -1 ↔ o = none := by
  cases o with
  | none => simp [sp_o]
  | some b =>
    have h1 := nI_toInt (h b rfl)
    simp only [sp_o, reduceCtorEq, iff_false]
    intro q
    rw [q] at h1
    rw [sp_m1] at h1
    omega
theorem sp_o_nI {o : Option Nat} {k : Nat} (h : ∀ b, o = some b → b < 2 ^ 31) (hk : k < 2 ^ 31) : sp_o o = nI k ↔ o = some k := by
  cases o with
  | none =>
    simp only [sp_o, reduceCtorEq, iff_false]
    intro q
    have h1 := nI_toInt hk
    rw [← q, sp_m1] at h1
    omega
  | some b =>
    simp only [sp_o, Option.some.injEq]
    exact nI_eq (h b rfl) hk
theorem sp_b_eq (b : Bool) : sp_b b = 0 ↔ b = false := by cases b <;> simp [sp_b] <;> decide
theorem sp_b_ne (b : Bool) : ¬ sp_b b = 0 ↔ b = true := by cases b <;> simp [sp_b] <;> decide
theorem sp_b_nar (b : Bool) : narrow .boolean (.int (sp_b b)) = .int (sp_b b) := by cases b <;> rfl
/-! a search upward -/
def ix_f (p : Nat → Bool) : Nat → Nat → Nat
  | 0, s => s
  | n + 1, s => if p s then s else ix_f p n (s + 1)
theorem ix_f_spec (p : Nat → Bool) : ∀ (n s : Nat), (∃ t, s ≤ t ∧ t < s + n ∧ p t = true) → s ≤ ix_f p n s ∧ ix_f p n s < s + n ∧ p (ix_f p n s) = true ∧ ∀ t, s ≤ t → t < ix_f p n s → p t = false := by
  intro n
  induction n with
  | zero => rintro s ⟨t, h1, h2, -⟩; omega
  | succ n ih =>
    rintro s ⟨t, h1, h2, h3⟩
    unfold ix_f
    by_cases hp : p s = true
    · rw [if_pos hp]
      exact ⟨Nat.le_refl _, by omega, hp, fun t a b => by omega⟩
    · rw [if_neg hp]
      have hst : s ≠ t := fun q => hp (q ▸ h3)
      obtain ⟨a1, a2, a3, a4⟩ := ih (s + 1) ⟨t, by omega, by omega, h3⟩
      refine ⟨by omega, by omega, a3, fun u hu1 hu2 => ?_⟩
      by_cases hu : u = s
      · subst hu; simpa using hp
      · exact a4 u (by omega) hu2
theorem ix_f_eq (p : Nat → Bool) {n s t : Nat} (h1 : s ≤ t) (h2 : t < s + n) (h3 : p t = true) (h4 : ∀ u, s ≤ u → u < t → p u = false) : ix_f p n s = t := by
  obtain ⟨a1, a2, a3, a4⟩ := ix_f_spec p n s ⟨t, h1, h2, h3⟩
  rcases Nat.lt_trichotomy (ix_f p n s) t with h | h | h
  · rw [h4 _ a1 h] at a3; cases a3
  · exact h
  · rw [a4 t h1 h] at h3; cases h3
/-! the index: 64 cells; put: a block goes to the first free cell from its home on -/
def ix_s (cel : Nat → Option Nat) (h : Nat) : Nat := ix_f (fun s => (cel ((h + s) % 64)).isNone) 64 0
def ix_put (cel : Nat → Option Nat) (h b : Nat) : Nat → Option Nat := va_up cel ((h + ix_s cel h) % 64) (some b)
theorem ix_s_spec {cel : Nat → Option Nat} {h : Nat} (hx : ∃ t, t < 64 ∧ cel ((h + t) % 64) = none) : ix_s cel h < 64 ∧ cel ((h + ix_s cel h) % 64) = none ∧ ∀ t, t < ix_s cel h → cel ((h + t) % 64) ≠ none := by
  obtain ⟨t, ht, hc⟩ := hx
  obtain ⟨-, a2, a3, a4⟩ := ix_f_spec (fun s => (cel ((h + s) % 64)).isNone) 64 0 ⟨t, Nat.zero_le _, by omega, by simp [hc]⟩
  have a2' : ix_s cel h < 64 := by unfold ix_s; omega
  refine ⟨a2', by simpa [ix_s] using a3, fun u hu q => ?_⟩
  have := a4 u (Nat.zero_le _) hu
  simp [q] at this
theorem ix_s_eq {cel : Nat → Option Nat} {h t : Nat} (ht : t < 64) (hc : cel ((h + t) % 64) = none) (ho : ∀ u, u < t → cel ((h + u) % 64) ≠ none) : ix_s cel h = t :=
  ix_f_eq _ (Nat.zero_le _) (by omega) (by simp [hc]) (fun u _ hu => by
    have := ho u hu
    cases hq : cel ((h + u) % 64) with
    | none => exact absurd hq this
    | some b => rfl)
/-! fingerprints and gate bits -/
def fp_s (f w : Int32) : Int32 := (f * nI 31 + w) ^^^ ((f * nI 31 + w).toUInt32 >>> ((nI 15).toUInt32 &&& Int32.toUInt32 31)).toInt32
def fp_x (w : Nat → Int32) (a : Nat) : Int32 := fp_s (fp_s (fp_s (fp_s (nI 17) (w (a + 0))) (w (a + 1))) (w (a + 2))) (w (a + 3))
def fpN (w : Nat → Int32) (a : Nat) : Nat := (fp_x w a).toBitVec.toNat % 256
def fp_m (w : Nat → Int32) (a : Nat) : Int32 := w a ^^^ w (a + 1) ^^^ w (a + 2) ^^^ w (a + 3)
def mixN (w : Nat → Int32) (a : Nat) : Nat := (fp_m w a).toBitVec.toNat % 64
theorem fpN_lt (w : Nat → Int32) (a : Nat) : fpN w a < 256 := Nat.mod_lt _ (by decide)
theorem mixN_lt (w : Nat → Int32) (a : Nat) : mixN w a < 64 := Nat.mod_lt _ (by decide)
theorem fpN_eq (w : Nat → Int32) (a : Nat) : fp_x w a &&& nI 255 = nI (fpN w a) := pk_and _ 8 (by decide)
theorem mixN_eq (w : Nat → Int32) (a : Nat) : fp_m w a &&& nI 63 = nI (mixN w a) := pk_and _ 6 (by decide)
def gb_1 (a : Nat) : Int64 := (1 : Int64) <<< ((nI a).toInt64 &&& 63)
def gb_x (w : Nat → Int32) (a : Nat) : Int64 := (gb_1 (fpN w a % 64) ||| gb_1 (fpN w a / 4)) ||| gb_1 (mixN w a)
/-! the power -/
def pw_ok (x : Int32) : Bool := !(decide (x = 0))
def pw_l (x : Int32) : Int32 := if 0 < x then x - nI 1 else x
def pw_w (x w : Int32) : Int32 := if x = 0 then w else w + nI 1
def pw_d (x : Int32) (d : Bool) : Bool := d || decide (x = 0)
theorem pw_z {x : Int32} (h : x = 0) : pw_ok x = false ∧ pw_l x = x ∧ (∀ w, pw_w x w = w) ∧ ∀ d, pw_d x d = true := by
  subst h
  exact ⟨by simp [pw_ok], by simp [pw_l], fun w => by simp [pw_w], fun d => by simp [pw_d]⟩
theorem pw_p {x : Int32} (h : ¬ x = 0) (h2 : ¬ x ≤ 0) : pw_ok x = true ∧ pw_l x = x - nI 1 ∧ (∀ w, pw_w x w = w + nI 1) ∧ ∀ d, pw_d x d = d := by
  have h3 : 0 < x := Int32.not_le.mp h2
  exact ⟨by simp [pw_ok, h], by simp [pw_l, h3], fun w => by simp [pw_w, h], fun d => by simp [pw_d, h]⟩
theorem pw_n {x : Int32} (h : ¬ x = 0) (h2 : x ≤ 0) : pw_ok x = true ∧ pw_l x = x ∧ (∀ w, pw_w x w = w + nI 1) ∧ ∀ d, pw_d x d = d := by
  have h3 : ¬ 0 < x := Int32.not_lt.mpr h2
  exact ⟨by simp [pw_ok, h], by simp [pw_l, h3], fun w => by simp [pw_w, h], fun d => by simp [pw_d, h]⟩
/-! the rows -/
def rw_dec (cnt : Nat → Int32) (ent : Nat → Nat) (k n : Nat) : Nat → Nat → Int32
  | 0 => cnt
  | m + 1 => upd (rw_dec cnt ent k n m) (ent (k * 12 + (n + m))) (rw_dec cnt ent k n m (ent (k * 12 + (n + m))) - nI 1)
/-! the disk, the index -/
def dk_same (w : Nat → Int32) (b : Nat) (g : Nat → Int32) : Bool := decide (w (b * 4 + 0) = g 0) && (decide (w (b * 4 + 1) = g 1) && (decide (w (b * 4 + 2) = g 2) && decide (w (b * 4 + 3) = g 3)))
def ix_fl (cel : Nat → Option Nat) (n : Nat) : Nat → Option Nat := fun j => if j < n then none else cel j
theorem ix_fl_up (cel : Nat → Option Nat) (n : Nat) : va_up (ix_fl cel n) n none = ix_fl cel (n + 1) := by
  funext j
  unfold va_up ix_fl
  by_cases h : j = n
  · subst h; simp
  · have : (j < n + 1) ↔ (j < n) := by omega
    simp [h, this]
theorem ix_fl_0 (cel : Nat → Option Nat) : ix_fl cel 0 = cel := by
  funext j; simp [ix_fl]
theorem sp_nI_m1 {n : Nat} (h : n < 2 ^ 31) : ¬ nI n = -1 := by
  intro q
  have h1 := nI_toInt h
  rw [q, sp_m1] at h1
  omega
def bc_1 (x : Int64) : Int64 := x - ((x.toUInt64 >>> ((nI 1).toInt64.toUInt64 &&& Int64.toUInt64 63)).toInt64 &&& 6148914691236517205)
def bc_2 (x : Int64) : Int64 := (x &&& 3689348814741910323) + ((x.toUInt64 >>> ((nI 2).toInt64.toUInt64 &&& Int64.toUInt64 63)).toInt64 &&& 3689348814741910323)
def bc_3 (x : Int64) : Int64 := (x + (x.toUInt64 >>> ((nI 4).toInt64.toUInt64 &&& Int64.toUInt64 63)).toInt64) &&& 1085102592571150095
def bc_4 (x : Int64) (k : Nat) : Int64 := x + (x.toUInt64 >>> ((nI k).toInt64.toUInt64 &&& Int64.toUInt64 63)).toInt64
def bc_x (x : Int64) : Int32 := (bc_4 (bc_4 (bc_4 (bc_3 (bc_2 (bc_1 x))) 8) 16) 32).toInt32 &&& nI 127
theorem sp_addI (x : Int32) (u : Nat) : (x + nI u) + nI 1 = x + nI (u + 1) := by
  rw [Int32.add_assoc, nI_add]
def hmN (w : Nat → Int32) (b : Nat) : Nat := fpN w (b * 4) % 64
theorem hmN_lt (w : Nat → Int32) (b : Nat) : hmN w b < 64 := Nat.mod_lt _ (by decide)
def rw_cp (ent e2 : Nat → Nat) (k s : Nat) : Nat → Nat → Nat
  | 0 => ent
  | j + 1 => va_up (rw_cp ent e2 k s j) (k * 12 + j) (e2 (s * 12 + j))
def rw_inc (cnt : Nat → Int32) (e2 : Nat → Nat) (s : Nat) : Nat → Nat → Int32
  | 0 => cnt
  | j + 1 => upd (rw_inc cnt e2 s j) (e2 (s * 12 + j)) (rw_inc cnt e2 s j (e2 (s * 12 + j)) + nI 1)
theorem rw_cp_off (ent e2 : Nat → Nat) (k s : Nat) : ∀ j q, (q < k * 12 ∨ k * 12 + j ≤ q) → rw_cp ent e2 k s j q = ent q := by
  intro j
  induction j with
  | zero => intro q _; rfl
  | succ j ih =>
    intro q h
    show va_up (rw_cp ent e2 k s j) (k * 12 + j) (e2 (s * 12 + j)) q = ent q
    rw [va_up_ne _ _ (by omega)]
    exact ih q (by omega)
