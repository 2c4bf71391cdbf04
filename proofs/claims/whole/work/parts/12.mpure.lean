/-! the reference's own words -/
def hd1 (ent : Nat → Nat) (b f : Nat) (i : Bool) : Nat → Bool
  | 0 => i
  | k + 1 => hd1 ent b f i k || decide (ent (12 * f + k) = b)
def hdf (len ent : Nat → Nat) (b : Nat) (i : Bool) : Nat → Bool
  | 0 => i
  | f + 1 => hd1 ent b f (hdf len ent b i f) (len f)
def mh_b (len ent : Nat → Nat) (b : Nat) : Bool := hdf len ent b false 6
def mu_b (len ent len1 ent1 : Nat → Nat) (b : Nat) : Bool := hdf len1 ent1 b (mh_b len ent b) 6
def ms_b (len ent len1 ent1 : Nat → Nat) (b : Nat) : Bool := mu_b len ent len1 ent1 b && !mh_b len ent b
theorem hd1_t {ent : Nat → Nat} {b f k : Nat} {i : Bool} (h : hd1 ent b f i k = true) : hd1 ent b f i (k + 1) = true := by simp [hd1, h]
theorem hd1_e {ent : Nat → Nat} {b f k : Nat} {i : Bool} (h : ent (12 * f + k) = b) : hd1 ent b f i (k + 1) = true := by simp [hd1, h]
theorem hd1_f {ent : Nat → Nat} {b f k : Nat} {i : Bool} (h : hd1 ent b f i k = false) (h2 : ent (12 * f + k) ≠ b) : hd1 ent b f i (k + 1) = false := by simp [hd1, h, h2]
def ii (cel : Nat → Option Nat) (b : Nat) : Nat → Bool
  | 0 => false
  | j + 1 => ii cel b j || decide (cel j = some b)
theorem ii_t {cel : Nat → Option Nat} {b j : Nat} (h : ii cel b j = true) : ii cel b (j + 1) = true := by simp [ii, h]
theorem ii_e {cel : Nat → Option Nat} {b j : Nat} (h : cel j = some b) : ii cel b (j + 1) = true := by simp [ii, h]
theorem ii_f {cel : Nat → Option Nat} {b j : Nat} (h : ii cel b j = false) (h2 : cel j ≠ some b) : ii cel b (j + 1) = false := by simp [ii, h, h2]
theorem ii_iff {cel : Nat → Option Nat} {b : Nat} : ∀ n, ii cel b n = true ↔ ∃ j, j < n ∧ cel j = some b := by
  intro n
  induction n with
  | zero => simp [ii]
  | succ n ih =>
    simp only [ii, Bool.or_eq_true, ih, decide_eq_true_eq]
    constructor
    · rintro (⟨j, h1, h2⟩ | h)
      · exact ⟨j, by omega, h2⟩
      · exact ⟨n, by omega, h⟩
    · rintro ⟨j, h1, h2⟩
      rcases Nat.lt_or_ge j n with h | h
      · exact Or.inl ⟨j, h, h2⟩
      · have : j = n := by omega
        subst this
        exact Or.inr h2
theorem ii_none {cel pos : Nat → Option Nat} {home : Nat → Nat} (hT : ix_T cel pos home) {b : Nat} (hp : pos b = none) : ii cel b 64 = false := by
  cases h : ii cel b 64 with
  | false => rfl
  | true =>
    obtain ⟨j, h1, h2⟩ := (ii_iff 64).mp h
    rw [(hT.1 j b h1 h2).2] at hp
    cases hp
theorem ii_some {cel pos : Nat → Option Nat} {home : Nat → Nat} (hT : ix_T cel pos home) {b hole : Nat} (hp : pos b = some hole) : ii cel b 64 = true := by
  obtain ⟨h1, h2⟩ := hT.2.1 b hole hp
  exact (ii_iff 64).mpr ⟨hole, h1, h2⟩
theorem tk_0 {home : Nat → Nat} {us : Nat → Bool} {cel pos : Nat → Option Nat} {b : Nat} (hp : (tk home us cel pos b).1.2 b = none) : tk home us cel pos (b + 1) = tk home us cel pos b := by
  cases h : us b with
  | true => exact tk_u h
  | false => exact tk_n h hp
def gset (gt : Nat → Bool) (w : Nat → Int32) (b : Nat) : Nat → Bool := va_up (va_up (va_up gt (fpN w (b * 4) % 64) true) (fpN w (b * 4) / 4) true) (mixN w (b * 4)) true
def mg (w : Nat → Int32) (us : Nat → Bool) : Nat → Nat → Bool
  | 0 => fun _ => false
  | b + 1 => if us b = true then gset (mg w us b) w b else mg w us b
theorem mg_t {w : Nat → Int32} {us : Nat → Bool} {b : Nat} (h : us b = true) : mg w us (b + 1) = gset (mg w us b) w b := by rw [mg, if_pos h]
theorem mg_f {w : Nat → Int32} {us : Nat → Bool} {b : Nat} (h : us b = false) : mg w us (b + 1) = mg w us b := by rw [mg, if_neg (by rw [h]; decide)]
def gf (gt : Nat → Bool) (n : Nat) : Nat → Bool := fun j => if j < n then false else gt j
theorem gf_up (gt : Nat → Bool) (n : Nat) : va_up (gf gt n) n false = gf gt (n + 1) := by
  funext j
  unfold va_up gf
  by_cases h : j = n
  · subst h; simp
  · have : (j < n + 1) ↔ (j < n) := by omega
    simp [h, this]
theorem gf_0 (gt : Nat → Bool) : gf gt 0 = gt := by funext j; simp [gf]
def cpN (f g : Nat → Nat) (n : Nat) : Nat → Nat := fun j => if j < n then f j else g j
theorem cpN_up (f g : Nat → Nat) (n : Nat) : va_up (cpN f g n) n (f n) = cpN f g (n + 1) := by
  funext j
  unfold va_up cpN
  by_cases h : j = n
  · subst h; simp
  · have : (j < n + 1) ↔ (j < n) := by omega
    simp [h, this]
theorem cpN_0 (f g : Nat → Nat) : cpN f g 0 = g := by funext j; simp [cpN]
def gpass (gt : Nat → Bool) (g : Nat → Int32) : Bool := gt (fpN g 0 % 64) && (gt (fpN g 0 / 4) && gt (mixN g 0))
def wset (w g : Nat → Int32) (b : Nat) : Nat → Int32 := upd (upd (upd (upd w (4 * b + 0) (g 0)) (4 * b + 1) (g 1)) (4 * b + 2) (g 2)) (4 * b + 3) (g 3)
theorem sp_m1_lt : (-1 : Int32) < 0 := by decide
def isf (x : Int32) : Bool := !(decide (x < 0)) && !(decide (nI 6 ≤ x))
theorem isf_nat {x : Int32} (h : isf x = true) : ∃ k, k < 6 ∧ x = nI k := by
  unfold isf at h
  simp at h
  obtain ⟨h1, h2⟩ := h
  rcases pk_ix x (n := 6) (by decide) with h3 | h3 | ⟨j, hj, e⟩
  · exact absurd h3 (Int32.not_lt.mpr h1)
  · exact absurd h3 (Int32.not_le.mpr h2)
  · exact ⟨j, hj, e⟩
theorem isf_of {k : Nat} (h : k < 6) : isf (nI k) = true := by
  unfold isf
  rw [decide_eq_false (nI_pos (by omega)), decide_eq_false (nI_ge (a := k) (b := 6) h (by decide))]
  rfl
def flB (dn : Bool) : Int32 := if dn = true then nI 1 else nI 2
def bk_ok (len : Nat → Nat) (x1 x2 : Int32) : Bool := isf x1 && (!(decide (x2 < 0)) && !(decide (nI (len x1.toNatClampNeg) ≤ x2)))
def fl3 (dn ok : Bool) : Int32 := if dn = true then nI 1 else if ok = true then nI 1 else nI 2
def cu_ok (len : Nat → Nat) (x1 x2 : Int32) : Bool := isf x1 && (!(decide (x2 < 0)) && !(decide (nI (len x1.toNatClampNeg) < x2)))
def mcp (ent : Nat → Nat) (k sr : Nat) : Nat → Nat → Nat
  | 0 => ent
  | i + 1 => va_up (mcp ent k sr i) (12 * k + i) (mcp ent k sr i (12 * sr + i))
theorem cpN_all {f g : Nat → Nat} {n j : Nat} (h : j < n) : cpN f g n j = f j := by simp [cpN, h]
