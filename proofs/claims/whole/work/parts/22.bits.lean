/-! the gate: sixty-four bits in a long, and how many there are -/
theorem sb_andS {k x y a c q M : Nat} (hx : x = a + 2 ^ k * q) (hy : y = c + 2 ^ k * M) (ha : a < 2 ^ k) (hc : c < 2 ^ k) : x &&& y = (a &&& c) + 2 ^ k * (q &&& M) := by
  have e1 : (x &&& y) % 2 ^ k = a &&& c := by
    rw [Nat.and_mod_two_pow, hx, hy, Nat.add_mul_mod_self_left, Nat.add_mul_mod_self_left, Nat.mod_eq_of_lt ha, Nat.mod_eq_of_lt hc]
  have e2 : (x &&& y) / 2 ^ k = q &&& M := by
    rw [Nat.and_div_two_pow, hx, hy, Nat.add_mul_div_left _ _ (Nat.two_pow_pos k), Nat.add_mul_div_left _ _ (Nat.two_pow_pos k), Nat.div_eq_of_lt ha, Nat.div_eq_of_lt hc, Nat.zero_add, Nat.zero_add]
  have h := Nat.mod_add_div (x &&& y) (2 ^ k)
  rw [e1, e2] at h
  exact h.symm
def pn (d : Nat) : Nat := d % 2 + d / 2 % 2 + d / 4 % 2 + d / 8 % 2
def M5 : Nat → Nat
  | 0 => 0
  | m + 1 => 5 + 16 * M5 m
def M3 : Nat → Nat
  | 0 => 0
  | m + 1 => 51 % 16 + 16 * M3 m
def pS : Nat → Nat → Nat
  | 0, _ => 0
  | m + 1, n => pn (n % 16) + 16 * pS m (n / 16)
theorem sb_le_and (x y : Nat) : x &&& y ≤ x := Nat.and_le_left
theorem sb_n1 : ∀ d, d < 16 → ∀ r, r < 2 → ((d / 2 + 8 * r) &&& 5) = d / 2 &&& 5 := by decide
theorem sb_n2 : ∀ d, d < 16 → ∀ r, r < 4 → (((d - (d / 2 &&& 5)) / 4 + 4 * r) &&& 3) = (d - (d / 2 &&& 5)) / 4 &&& 3 := by decide
theorem sb_n3 : ∀ d, d < 16 → ((d - (d / 2 &&& 5)) &&& 3) + ((d - (d / 2 &&& 5)) / 4 &&& 3) = pn d ∧ (d / 2 &&& 5) ≤ d := by decide
theorem pn_le : ∀ d, pn d ≤ 4 := by intro d; unfold pn; omega
/-- the first two steps, four bits at a time -/
theorem sb_p12 : ∀ (m n : Nat), n < 16 ^ m → ∃ y, n - (n / 2 &&& M5 m) = y ∧ (n / 2 &&& M5 m) ≤ n ∧ (y &&& M3 m) + (y / 4 &&& M3 m) = pS m n
  | 0, n, h => by
    have : n = 0 := by simp at h; exact h
    subst this
    exact ⟨0, rfl, by simp, rfl⟩
  | m + 1, n, h => by
    have hq : n / 16 < 16 ^ m := by rw [Nat.pow_succ] at h; omega
    obtain ⟨y', e1, e2, e3⟩ := sb_p12 m (n / 16) hq
    have hd : n % 16 < 16 := Nat.mod_lt _ (by decide)
    have a1 : n / 2 &&& M5 (m + 1) = (n % 16 / 2 &&& 5) + 16 * (n / 16 / 2 &&& M5 m) := by
      rw [sb_andS (k := 4) (x := n / 2) (y := M5 (m + 1)) (a := n % 16 / 2 + 8 * (n / 16 % 2)) (c := 5) (q := n / 16 / 2) (M := M5 m) (by omega) (by rw [M5]) (by omega) (by decide), sb_n1 _ hd _ (Nat.mod_lt _ (by decide))]
    obtain ⟨n3, n4⟩ := sb_n3 _ hd
    have hn := Nat.mod_add_div n 16
    refine ⟨(n % 16 - (n % 16 / 2 &&& 5)) + 16 * y', ?_, ?_, ?_⟩
    · rw [a1]; omega
    · rw [a1]; omega
    · have hb : n % 16 - (n % 16 / 2 &&& 5) < 16 := by omega
      rw [sb_andS (k := 4) (x := (n % 16 - (n % 16 / 2 &&& 5)) + 16 * y') (y := M3 (m + 1)) (a := n % 16 - (n % 16 / 2 &&& 5)) (c := 3) (q := y') (M := M3 m) rfl (by rw [M3]) hb (by decide)]
      rw [sb_andS (k := 4) (x := ((n % 16 - (n % 16 / 2 &&& 5)) + 16 * y') / 4) (y := M3 (m + 1)) (a := (n % 16 - (n % 16 / 2 &&& 5)) / 4 + 4 * (y' % 4)) (c := 3) (q := y' / 4) (M := M3 m) (by omega) (by rw [M3]) (by omega) (by decide), sb_n2 _ hd _ (Nat.mod_lt _ (by decide))]
      rw [pS, ← n3, ← e3]
      omega
def M15 : Nat → Nat
  | 0 => 0
  | m + 1 => 15 + 256 * M15 m
def pT : Nat → Nat → Nat
  | 0, _ => 0
  | m + 1, n => (pn (n % 16) + pn (n / 16 % 16)) + 256 * pT m (n / 256)
theorem pS_small : ∀ m n, pS m n % 16 ≤ 4
  | 0, _ => by simp [pS]
  | m + 1, n => by
    have := pn_le (n % 16)
    rw [pS]
    omega
theorem sb_and15 (x : Nat) : x &&& 15 = x % 16 := Nat.and_two_pow_sub_one_eq_mod x 4
/-- the third step, eight bits at a time -/
theorem sb_p3 : ∀ (m n : Nat), (pS (2 * m) n + pS (2 * m) n / 16) &&& M15 m = pT m n
  | 0, n => by simp [pT, M15]
  | m + 1, n => by
    have e : pS (2 * (m + 1)) n = (pn (n % 16) + 16 * pn (n / 16 % 16)) + 256 * pS (2 * m) (n / 256) := by
      rw [show 2 * (m + 1) = 2 * m + 1 + 1 by omega, pS, pS, Nat.div_div_eq_div_mul, show 16 * 16 = 256 by rfl]
      omega
    have h1 := pn_le (n % 16)
    have h2 := pn_le (n / 16 % 16)
    have h3 := pS_small (2 * m) (n / 256)
    rw [e, pT, ← sb_p3 m (n / 256)]
    generalize pn (n % 16) = p0 at h1 ⊢
    generalize pn (n / 16 % 16) = p1 at h2 ⊢
    generalize pS (2 * m) (n / 256) = Z at h3 ⊢
    rw [sb_andS (k := 8) (x := p0 + 16 * p1 + 256 * Z + (p0 + 16 * p1 + 256 * Z) / 16) (y := M15 (m + 1)) (a := p0 + p1 + 16 * (p1 + Z % 16)) (c := 15) (q := Z + Z / 16) (M := M15 m) (by omega) (by rw [M15]) (by omega) (by decide), sb_and15]
    omega
/-- the bits of a number, counted -/
theorem ct_split (p : Nat → Bool) (a : Nat) : ∀ b, ct p (a + b) = ct p a + ct (fun i => p (a + i)) b
  | 0 => rfl
  | b + 1 => by
    have ih := ct_split p a b
    rw [← Nat.add_assoc]
    cases h : p (a + b) with
    | true => rw [ct_t h, ct_t (p := fun i => p (a + i)) h, ih]; omega
    | false => rw [ct_f h, ct_f (p := fun i => p (a + i)) h, ih]
theorem ct_congr {p q : Nat → Bool} : ∀ n, (∀ i, i < n → p i = q i) → ct p n = ct q n
  | 0, _ => rfl
  | n + 1, h => by
    have ih := ct_congr n (fun i hi => h i (Nat.lt_succ_of_lt hi))
    have e := h n (Nat.lt_succ_self n)
    cases hq : q n with
    | true => rw [ct_t hq, ct_t (e.trans hq), ih]
    | false => rw [ct_f hq, ct_f (e.trans hq), ih]
def pU : Nat → Nat → Nat
  | 0, _ => 0
  | m + 1, n => pn (n % 16) + pU m (n / 16)
theorem sb_ct4 : ∀ d, d < 16 → ct (fun i => d.testBit i) 4 = pn d := by decide
theorem sb_ctU : ∀ (m n : Nat), ct (fun i => n.testBit i) (4 * m) = pU m n
  | 0, _ => rfl
  | m + 1, n => by
    rw [show 4 * (m + 1) = 4 + 4 * m by omega, ct_split]
    rw [ct_congr (q := fun i => (n % 16).testBit i) 4 (fun i hi => by rw [show (16 : Nat) = 2 ^ 4 by rfl, Nat.testBit_mod_two_pow]; simp [hi]), sb_ct4 _ (Nat.mod_lt _ (by decide))]
    rw [ct_congr (p := fun i => n.testBit (4 + i)) (q := fun i => (n / 16).testBit i) (4 * m) (fun i hi => by rw [show (16 : Nat) = 2 ^ 4 by rfl, Nat.testBit_div_two_pow, Nat.add_comm]), sb_ctU m (n / 16)]
    rfl
def pR : Nat → Nat
  | 0 => 0
  | m + 1 => 1 + 16 * pR m
theorem pS_le : ∀ m n, pS m n ≤ 4 * pR m
  | 0, _ => Nat.zero_le _
  | m + 1, n => by
    have h1 := pn_le (n % 16)
    have h2 := pS_le m (n / 16)
    rw [pS, pR]
    omega
abbrev tn (x : Int64) : Nat := x.toBitVec.toNat
theorem tn_lt (x : Int64) : tn x < 2 ^ 64 := x.toBitVec.isLt
theorem tn_and (x y : Int64) : tn (x &&& y) = tn x &&& tn y := by unfold tn; rw [Int64.toBitVec_and, BitVec.toNat_and]
theorem tn_add {x y : Int64} (h : tn x + tn y < 2 ^ 64) : tn (x + y) = tn x + tn y := by unfold tn at *; rw [Int64.toBitVec_add, BitVec.toNat_add, Nat.mod_eq_of_lt h]
theorem tn_sub {x y : Int64} (h : tn y ≤ tn x) : tn (x - y) = tn x - tn y := by
  have := tn_lt x
  unfold tn at *
  rw [Int64.toBitVec_sub, BitVec.toNat_sub]
  omega
theorem tn_c : ∀ k, k < 64 → ((nI k).toInt64.toUInt64 &&& Int64.toUInt64 63).toNat = k := by decide +kernel
theorem tn_shr (x : Int64) {k : Nat} (hk : k < 64) : tn ((x.toUInt64 >>> ((nI k).toInt64.toUInt64 &&& Int64.toUInt64 63)).toInt64) = tn x / 2 ^ k := by
  show (x.toUInt64 >>> ((nI k).toInt64.toUInt64 &&& Int64.toUInt64 63)).toNat = x.toUInt64.toNat / 2 ^ k
  rw [UInt64.toNat_shiftRight, tn_c k hk, Nat.mod_eq_of_lt hk, Nat.shiftRight_eq_div_pow]
theorem sb_dig (n : Nat) : ∃ s0 s1 s2 s3 s4 s5 s6 s7 : Nat, pT 8 n = s0 + 256 * (s1 + 256 * (s2 + 256 * (s3 + 256 * (s4 + 256 * (s5 + 256 * (s6 + 256 * s7)))))) ∧ pU 16 n = s0 + s1 + s2 + s3 + s4 + s5 + s6 + s7 ∧ s0 ≤ 8 ∧ s1 ≤ 8 ∧ s2 ≤ 8 ∧ s3 ≤ 8 ∧ s4 ≤ 8 ∧ s5 ≤ 8 ∧ s6 ≤ 8 ∧ s7 ≤ 8 := by
  have e : ∀ m : Nat, m / 16 / 16 = m / 256 := fun m => by rw [Nat.div_div_eq_div_mul]
  refine ⟨pn (n % 16) + pn (n / 16 % 16), pn (n / 256 % 16) + pn (n / 256 / 16 % 16), pn (n / 256 / 256 % 16) + pn (n / 256 / 256 / 16 % 16), pn (n / 256 / 256 / 256 % 16) + pn (n / 256 / 256 / 256 / 16 % 16), pn (n / 256 / 256 / 256 / 256 % 16) + pn (n / 256 / 256 / 256 / 256 / 16 % 16), pn (n / 256 / 256 / 256 / 256 / 256 % 16) + pn (n / 256 / 256 / 256 / 256 / 256 / 16 % 16), pn (n / 256 / 256 / 256 / 256 / 256 / 256 % 16) + pn (n / 256 / 256 / 256 / 256 / 256 / 256 / 16 % 16), pn (n / 256 / 256 / 256 / 256 / 256 / 256 / 256 % 16) + pn (n / 256 / 256 / 256 / 256 / 256 / 256 / 256 / 16 % 16), ?_, ?_, ?_, ?_, ?_, ?_, ?_, ?_, ?_, ?_⟩
  · simp only [pT, Nat.mul_zero, Nat.add_zero]
  · simp only [pU, e, Nat.add_zero, Nat.add_assoc]
  all_goals exact Nat.add_le_add (pn_le _) (pn_le _)
theorem sb_dv {x r q k : Nat} (h : x = r + k * q) (hr : r < k) : x / k = q := by
  rw [h, Nat.add_mul_div_left _ _ (Nat.lt_of_le_of_lt (Nat.zero_le _) hr), Nat.div_eq_of_lt hr, Nat.zero_add]
theorem sb_fold {s0 s1 s2 s3 s4 s5 s6 s7 A1 A2 A3 A4 A5 A6 u : Nat} (h0 : u = s0 + 256 * A1) (h1 : A1 = s1 + 256 * A2) (h2 : A2 = s2 + 256 * A3) (h3 : A3 = s3 + 256 * A4) (h4 : A4 = s4 + 256 * A5) (h5 : A5 = s5 + 256 * A6) (h6 : A6 = s6 + 256 * s7) (b0 : s0 ≤ 8) (b1 : s1 ≤ 8) (b2 : s2 ≤ 8) (b3 : s3 ≤ 8) (b4 : s4 ≤ 8) (b5 : s5 ≤ 8) (b6 : s6 ≤ 8) (b7 : s7 ≤ 8) :
    u < 2 ^ 61 ∧ (u + u / 2 ^ 8 + (u + u / 2 ^ 8) / 2 ^ 16 + (u + u / 2 ^ 8 + (u + u / 2 ^ 8) / 2 ^ 16) / 2 ^ 32) % 2 ^ 32 % 2 ^ 7 = s0 + s1 + s2 + s3 + s4 + s5 + s6 + s7 := by
  have e1 : u / 2 ^ 8 = A1 := sb_dv (r := s0) h0 (by omega)
  have e2 : (u + u / 2 ^ 8) / 2 ^ 16 = A2 + A3 := by
    rw [e1]
    exact sb_dv (r := s0 + s1 + 256 * (s1 + s2)) (by omega) (by omega)
  have c1 : A2 + A3 = (s2 + s3 + 256 * (s3 + s4)) + 65536 * (A4 + A5) := by omega
  have c2 : A4 + A5 = (s4 + s5 + 256 * (s5 + s6)) + 65536 * (A6 + s7) := by omega
  have c3 : u + A1 = (s0 + s1 + 256 * (s1 + s2)) + 65536 * (A2 + A3) := by omega
  have hu : u < 2 ^ 61 := by omega
  have e4 : (u + u / 2 ^ 8 + (u + u / 2 ^ 8) / 2 ^ 16) / 2 ^ 32 = (A4 + A5) + (A6 + s7) := by
    rw [e2, e1]
    generalize A4 + A5 = C at c1 c2 ⊢
    generalize A6 + s7 = C2 at c2 ⊢
    generalize A2 + A3 = B at c1 c3 ⊢
    exact sb_dv (r := (s0 + s1 + 256 * (s1 + s2)) + (s2 + s3 + 256 * (s3 + s4)) + 65536 * ((s2 + s3 + 256 * (s3 + s4)) + (s4 + s5 + 256 * (s5 + s6)))) (by omega) (by omega)
  refine ⟨hu, ?_⟩
  rw [e4, e2, e1]
  have hm : (u + A1 + (A2 + A3) + (A4 + A5 + (A6 + s7))) % 2 ^ 32 % 2 ^ 7 = (u + A1 + (A2 + A3) + (A4 + A5 + (A6 + s7))) % 2 ^ 7 := Nat.mod_mod_of_dvd _ ⟨2 ^ 25, by decide⟩
  rw [hm]
  clear hm e1 e2 e4 hu
  have q : u + A1 + (A2 + A3) + (A4 + A5 + (A6 + s7)) = (s0 + s1 + s2 + s3 + s4 + s5 + s6 + s7) + 128 * (2 * (A1 + A2 + A3 + A4 + A5 + A6 + s7)) := by omega
  rw [q, show (2 : Nat) ^ 7 = 128 by decide, Nat.add_mul_mod_self_left]
  exact Nat.mod_eq_of_lt (by omega)
set_option maxHeartbeats 1000000 in
theorem sb_pop (x : Int64) : bc_x x = nI (ct (fun i => x.toBitVec.getLsbD i) 64) := by
  have hn := tn_lt x
  have hb : (fun i => x.toBitVec.getLsbD i) = fun i => (tn x).testBit i := by funext i; exact (BitVec.testBit_toNat _).symm
  rw [hb, show (64 : Nat) = 4 * 16 by rfl, sb_ctU]
  obtain ⟨y, e1, e2, e3⟩ := sb_p12 16 (tn x) (by rw [show (16 : Nat) ^ 16 = 2 ^ 64 by decide]; exact hn)
  have m5 : M5 16 = 6148914691236517205 := by decide
  have m3 : M3 16 = 3689348814741910323 := by decide
  have m15 : M15 8 = 1085102592571150095 := by decide
  have c1 : tn (6148914691236517205 : Int64) = 6148914691236517205 := by decide
  have c2 : tn (3689348814741910323 : Int64) = 3689348814741910323 := by decide
  have c3 : tn (1085102592571150095 : Int64) = 1085102592571150095 := by decide
  have f1 : tn (bc_1 x) = y := by
    unfold bc_1
    have q : tn ((x.toUInt64 >>> ((nI 1).toInt64.toUInt64 &&& Int64.toUInt64 63)).toInt64 &&& 6148914691236517205) = tn x / 2 &&& M5 16 := by rw [tn_and, tn_shr x (by decide), c1, m5]
    rw [tn_sub (by rw [q]; exact e2), q, e1]
  have hS := pS_le 16 (tn x)
  have hR : pR 16 = 1229782938247303441 := by decide
  rw [hR] at hS
  have f2 : tn (bc_2 (bc_1 x)) = pS 16 (tn x) := by
    unfold bc_2
    have q1 : tn (bc_1 x &&& 3689348814741910323) = y &&& M3 16 := by rw [tn_and, f1, c2, m3]
    have q2 : tn (((bc_1 x).toUInt64 >>> ((nI 2).toInt64.toUInt64 &&& Int64.toUInt64 63)).toInt64 &&& 3689348814741910323) = y / 4 &&& M3 16 := by rw [tn_and, tn_shr _ (by decide), f1, c2, m3]
    rw [tn_add (by rw [q1, q2, e3]; omega), q1, q2, e3]
  have f3 : tn (bc_3 (bc_2 (bc_1 x))) = pT 8 (tn x) := by
    unfold bc_3
    have q : tn (bc_2 (bc_1 x) + ((bc_2 (bc_1 x)).toUInt64 >>> ((nI 4).toInt64.toUInt64 &&& Int64.toUInt64 63)).toInt64) = pS 16 (tn x) + pS 16 (tn x) / 16 := by
      have q0 : tn (((bc_2 (bc_1 x)).toUInt64 >>> ((nI 4).toInt64.toUInt64 &&& Int64.toUInt64 63)).toInt64) = pS 16 (tn x) / 16 := by rw [tn_shr _ (by decide), f2]
      rw [tn_add (by rw [f2, q0]; omega), f2, q0]
    rw [tn_and, q, c3, ← m15]
    exact sb_p3 8 (tn x)
  unfold bc_x
  generalize bc_3 (bc_2 (bc_1 x)) = z at f3 ⊢
  have key : ∀ (u : Int64) (k : Nat), k < 64 → tn u < 2 ^ 63 → 1 ≤ k → tn (bc_4 u k) = tn u + tn u / 2 ^ k := by
    intro u k hk hu h1
    unfold bc_4
    have q := tn_shr u hk
    have hle : tn u / 2 ^ k ≤ tn u := Nat.div_le_self _ _
    rw [tn_add (by rw [q]; omega), q]
  obtain ⟨s0, s1, s2, s3, s4, s5, s6, s7, eT, eU, b0, b1, b2, b3, b4, b5, b6, b7⟩ := sb_dig (tn x)
  obtain ⟨hu, hfold⟩ := sb_fold eT rfl rfl rfl rfl rfl rfl b0 b1 b2 b3 b4 b5 b6 b7
  rw [eU, ← hfold]
  have g1 := key z 8 (by decide) (by rw [f3]; omega) (by decide)
  rw [f3] at g1
  generalize bc_4 z 8 = z1 at g1 ⊢
  have g2 := key z1 16 (by decide) (by rw [g1]; omega) (by decide)
  rw [g1] at g2
  generalize bc_4 z1 16 = z2 at g2 ⊢
  have g3 := key z2 32 (by decide) (by rw [g2]; omega) (by decide)
  rw [g2] at g3
  generalize bc_4 z2 32 = z3 at g3 ⊢
  rw [pk_and _ 7 (by decide)]
  have e32 : z3.toInt32.toBitVec.toNat = tn z3 % 2 ^ 32 := by
    show (BitVec.signExtend 32 z3.toBitVec).toNat = _
    rw [BitVec.signExtend_eq_setWidth_of_le _ (by decide), BitVec.toNat_setWidth]
  rw [e32, g3]
/-- the gate of the class and the gate of the reference -/
def GB (gate : Int64) (gt : Nat → Bool) : Prop := ∀ i, i < 64 → gt i = gate.toBitVec.getLsbD i
theorem gb_1b : ∀ a, a < 64 → ∀ i, i < 64 → (gb_1 a).toBitVec.getLsbD i = decide (i = a) := by decide +kernel
theorem gb_xb (w : Nat → Int32) (a i : Nat) (hi : i < 64) : (gb_x w a).toBitVec.getLsbD i = (decide (i = fpN w a % 64) || decide (i = fpN w a / 4) || decide (i = mixN w a)) := by
  have h1 := fpN_lt w a
  have h2 := mixN_lt w a
  unfold gb_x
  rw [Int64.toBitVec_or, Int64.toBitVec_or, BitVec.getLsbD_or, BitVec.getLsbD_or, gb_1b _ (by omega) _ hi, gb_1b _ (by omega) _ hi, gb_1b _ h2 _ hi]
theorem GB_0 : GB 0 (fun _ => false) := fun i _ => by
  show false = (0#64).getLsbD i
  rw [BitVec.getLsbD_zero]
theorem GB_or {gate : Int64} {gt : Nat → Bool} (h : GB gate gt) (w : Nat → Int32) (b : Nat) : GB (gate ||| gb_x w (b * 4)) (gset gt w b) := by
  intro i hi
  rw [Int64.toBitVec_or, BitVec.getLsbD_or, gb_xb w _ i hi, ← h i hi]
  unfold gset va_up
  by_cases h1 : i = mixN w (b * 4) <;> by_cases h2 : i = fpN w (b * 4) / 4 <;> by_cases h3 : i = fpN w (b * 4) % 64 <;> simp [h1, h2, h3] <;> simp_all
theorem GB_pass {gate : Int64} {gt : Nat → Bool} (h : GB gate gt) (g : Nat → Int32) : (gate &&& gb_x g 0 = gb_x g 0) ↔ gpass gt g = true := by
  have f1 := fpN_lt g 0
  have f2 := mixN_lt g 0
  have hb := gb_xb g 0
  unfold gpass
  rw [Bool.and_eq_true, Bool.and_eq_true, h _ (by omega), h _ (by omega), h _ f2]
  constructor
  · intro e
    have hx : ∀ i, i < 64 → (gb_x g 0).toBitVec.getLsbD i = true → gate.toBitVec.getLsbD i = true := fun i hi hi2 => by
      have := congrArg (fun z : Int64 => z.toBitVec.getLsbD i) e
      simp only [Int64.toBitVec_and, BitVec.getLsbD_and] at this
      rw [hi2, Bool.and_true] at this
      exact this
    exact ⟨hx _ (by omega) (by rw [hb _ (by omega)]; simp), hx _ (by omega) (by rw [hb _ (by omega)]; simp), hx _ f2 (by rw [hb _ f2]; simp)⟩
  · intro ⟨e1, e2, e3⟩
    apply Int64.toBitVec_inj.mp
    apply BitVec.eq_of_getLsbD_eq
    intro i hi
    rw [Int64.toBitVec_and, BitVec.getLsbD_and]
    cases hc : (gb_x g 0).toBitVec.getLsbD i with
    | false => rw [Bool.and_false]
    | true =>
      rw [hb i hi] at hc
      simp only [Bool.or_eq_true, decide_eq_true_eq] at hc
      rcases hc with (rfl | rfl) | rfl
      · rw [e1]; rfl
      · rw [e2]; rfl
      · rw [e3]; rfl
theorem GB_pop {gate : Int64} {gt : Nat → Bool} (h : GB gate gt) : bc_x gate = nI (ct gt 64) := by
  rw [sb_pop, ct_congr 64 (fun i hi => (h i hi).symm)]
theorem GB_mw (w : Nat → Int32) (us : Nat → Bool) : ∀ b, GB (mw w us b).2 (mg w us b)
  | 0 => GB_0
  | b + 1 => by
    cases h : us b with
    | true => rw [mw_t h, mg_t h]; exact GB_or (GB_mw w us b) w b
    | false => rw [mw_f h, mg_f h]; exact GB_mw w us b
/-- what looks at the used blocks alone -/
theorem mw_congr {w : Nat → Int32} {u v : Nat → Bool} : ∀ b, (∀ i, i < b → u i = v i) → mw w u b = mw w v b
  | 0, _ => rfl
  | b + 1, h => by
    have ih := mw_congr (w := w) b (fun i hi => h i (Nat.lt_succ_of_lt hi))
    have e := h b (Nat.lt_succ_self b)
    cases hv : v b with
    | true => rw [mw_t hv, mw_t (e.trans hv), ih]
    | false => rw [mw_f hv, mw_f (e.trans hv), ih]
theorem mg_congr {w : Nat → Int32} {u v : Nat → Bool} : ∀ b, (∀ i, i < b → u i = v i) → mg w u b = mg w v b
  | 0, _ => rfl
  | b + 1, h => by
    have ih := mg_congr (w := w) b (fun i hi => h i (Nat.lt_succ_of_lt hi))
    have e := h b (Nat.lt_succ_self b)
    cases hv : v b with
    | true => rw [mg_t hv, mg_t (e.trans hv), ih]
    | false => rw [mg_f hv, mg_f (e.trans hv), ih]
theorem tk_congr {home : Nat → Nat} {u v : Nat → Bool} {cel pos : Nat → Option Nat} : ∀ b, (∀ i, i < b → u i = v i) → tk home u cel pos b = tk home v cel pos b
  | 0, _ => rfl
  | b + 1, h => by
    have ih := tk_congr (home := home) (cel := cel) (pos := pos) b (fun i hi => h i (Nat.lt_succ_of_lt hi))
    have e := h b (Nat.lt_succ_self b)
    cases hv : v b with
    | true => rw [tk_u hv, tk_u (e.trans hv), ih]
    | false =>
      have eu := e.trans hv
      cases hp : (tk home v cel pos b).1.2 b with
      | none => rw [tk_n hv hp, tk_n eu (by rw [ih]; exact hp), ih]
      | some hole => rw [tk_s hv hp, tk_s eu (by rw [ih]; exact hp), ih]
