/-! rows of blocks: how often a block is had, and the counts the class keeps -/
def oc1 (ent : Nat → Nat) (f b : Nat) : Nat → Nat
  | 0 => 0
  | j + 1 => oc1 ent f b j + (if ent (f * 12 + j) = b then 1 else 0)
def ocf (len ent : Nat → Nat) (b : Nat) : Nat → Nat
  | 0 => 0
  | f + 1 => ocf len ent b f + oc1 ent f b (len f)
def RI (len ent : Nat → Nat) (cnt : Nat → Int32) : Prop := (∀ f, f < 6 → len f ≤ 12) ∧ (∀ f, f < 6 → ∀ j, j < len f → ent (f * 12 + j) < 40) ∧ ∀ b, b < 40 → cnt b = nI (ocf len ent b 6)
def RR (len e1 e2 : Nat → Nat) : Prop := ∀ f, f < 6 → ∀ j, j < len f → e1 (f * 12 + j) = e2 (12 * f + j)
theorem oc1_le (ent : Nat → Nat) (f b : Nat) : ∀ j, oc1 ent f b j ≤ j
  | 0 => Nat.le_refl _
  | j + 1 => by
    have := oc1_le ent f b j
    rw [oc1]
    split <;> omega
theorem ocf_le (len ent : Nat → Nat) (b : Nat) : ∀ n, (∀ f, f < n → len f ≤ 12) → ocf len ent b n ≤ 12 * n
  | 0, _ => Nat.le_refl _
  | n + 1, h => by
    have h1 := ocf_le len ent b n (fun f hf => h f (Nat.lt_succ_of_lt hf))
    have h2 := oc1_le ent n b (len n)
    have h3 := h n (Nat.lt_succ_self n)
    rw [ocf]
    omega
theorem oc1_congr {e e' : Nat → Nat} {f f' b : Nat} : ∀ n, (∀ j, j < n → e (f * 12 + j) = e' (f' * 12 + j)) → oc1 e f b n = oc1 e' f' b n
  | 0, _ => rfl
  | n + 1, h => by rw [oc1, oc1, oc1_congr n (fun j hj => h j (Nat.lt_succ_of_lt hj)), h n (Nat.lt_succ_self n)]
theorem oc1_pos (ent : Nat → Nat) (f b : Nat) : ∀ n, 0 < oc1 ent f b n ↔ ∃ j, j < n ∧ ent (f * 12 + j) = b
  | 0 => ⟨fun h => absurd h (Nat.lt_irrefl 0), fun ⟨j, hj, _⟩ => absurd hj (Nat.not_lt_zero _)⟩
  | n + 1 => by
    have ih := oc1_pos ent f b n
    rw [oc1]
    constructor
    · intro h
      by_cases he : ent (f * 12 + n) = b
      · exact ⟨n, Nat.lt_succ_self n, he⟩
      · rw [if_neg he] at h
        obtain ⟨j, hj, e⟩ := ih.mp h
        exact ⟨j, Nat.lt_succ_of_lt hj, e⟩
    · intro ⟨j, hj, e⟩
      by_cases hjn : j = n
      · subst hjn; rw [if_pos e]; omega
      · have := ih.mpr ⟨j, by omega, e⟩
        omega
theorem ocf_pos (len ent : Nat → Nat) (b : Nat) : ∀ n, 0 < ocf len ent b n ↔ ∃ f, f < n ∧ ∃ j, j < len f ∧ ent (f * 12 + j) = b
  | 0 => ⟨fun h => absurd h (Nat.lt_irrefl 0), fun ⟨j, hj, _⟩ => absurd hj (Nat.not_lt_zero _)⟩
  | n + 1 => by
    have ih := ocf_pos len ent b n
    have h1 := oc1_pos ent n b (len n)
    rw [ocf]
    constructor
    · intro h
      by_cases hz : 0 < oc1 ent n b (len n)
      · exact ⟨n, Nat.lt_succ_self n, h1.mp hz⟩
      · obtain ⟨f, hf, e⟩ := ih.mp (by omega)
        exact ⟨f, Nat.lt_succ_of_lt hf, e⟩
    · intro ⟨f, hf, e⟩
      by_cases hfn : f = n
      · subst hfn
        have := h1.mpr e
        omega
      · have := ih.mpr ⟨f, by omega, e⟩
        omega
theorem hd1_iff (ent : Nat → Nat) (b f : Nat) (i : Bool) : ∀ n, hd1 ent b f i n = true ↔ (i = true ∨ ∃ j, j < n ∧ ent (12 * f + j) = b)
  | 0 => ⟨fun h => Or.inl h, fun h => h.elim id (fun ⟨j, hj, _⟩ => absurd hj (Nat.not_lt_zero _))⟩
  | n + 1 => by
    have ih := hd1_iff ent b f i n
    rw [hd1, Bool.or_eq_true, ih, decide_eq_true_eq]
    constructor
    · rintro ((h | ⟨j, hj, e⟩) | e)
      · exact Or.inl h
      · exact Or.inr ⟨j, Nat.lt_succ_of_lt hj, e⟩
      · exact Or.inr ⟨n, Nat.lt_succ_self n, e⟩
    · rintro (h | ⟨j, hj, e⟩)
      · exact Or.inl (Or.inl h)
      · by_cases hjn : j = n
        · subst hjn; exact Or.inr e
        · exact Or.inl (Or.inr ⟨j, by omega, e⟩)
theorem hdf_iff (len ent : Nat → Nat) (b : Nat) (i : Bool) : ∀ n, hdf len ent b i n = true ↔ (i = true ∨ ∃ f, f < n ∧ ∃ j, j < len f ∧ ent (12 * f + j) = b)
  | 0 => ⟨fun h => Or.inl h, fun h => h.elim id (fun ⟨j, hj, _⟩ => absurd hj (Nat.not_lt_zero _))⟩
  | n + 1 => by
    have ih := hdf_iff len ent b i n
    rw [hdf, hd1_iff, ih]
    constructor
    · rintro ((h | ⟨f, hf, e⟩) | e)
      · exact Or.inl h
      · exact Or.inr ⟨f, Nat.lt_succ_of_lt hf, e⟩
      · exact Or.inr ⟨n, Nat.lt_succ_self n, e⟩
    · rintro (h | ⟨f, hf, e⟩)
      · exact Or.inl (Or.inl h)
      · by_cases hfn : f = n
        · subst hfn; exact Or.inr e
        · exact Or.inl (Or.inr ⟨f, by omega, e⟩)
theorem nI_0lt {n : Nat} (h : n < 2 ^ 31) : (0 : Int32) < nI n ↔ 0 < n := by
  have := nI_ltI (a := 0) (b := n) (by decide) h
  rwa [nI_0] at this
theorem RI_pos {len ent em : Nat → Nat} {cnt : Nat → Int32} (h : RI len ent cnt) (hr : RR len ent em) {b : Nat} (hb : b < 40) : 0 < cnt b ↔ ∃ f, f < 6 ∧ ∃ j, j < len f ∧ em (12 * f + j) = b := by
  have hle := ocf_le len ent b 6 h.1
  rw [h.2.2 b hb, nI_0lt (by omega), ocf_pos]
  constructor
  · rintro ⟨f, hf, j, hj, e⟩
    exact ⟨f, hf, j, hj, by rw [← hr f hf j hj]; exact e⟩
  · rintro ⟨f, hf, j, hj, e⟩
    exact ⟨f, hf, j, hj, by rw [hr f hf j hj]; exact e⟩
theorem sb_bool {a b : Bool} (h : a = true ↔ b = true) : a = b := by
  cases a <;> cases b <;> simp_all
theorem RI_mh {len ent em : Nat → Nat} {cnt : Nat → Int32} (h : RI len ent cnt) (hr : RR len ent em) {b : Nat} (hb : b < 40) : decide (0 < cnt b) = mh_b len em b := by
  apply sb_bool
  rw [decide_eq_true_eq, RI_pos h hr hb, mh_b, hdf_iff]
  simp
theorem RI_us {len ent em len1 ent1 em1 : Nat → Nat} {cnt cnt1 : Nat → Int32} (h : RI len ent cnt) (hr : RR len ent em) (h1 : RI len1 ent1 cnt1) (hr1 : RR len1 ent1 em1) {b : Nat} (hb : b < 40) : us_b cnt cnt1 b = mu_b len em len1 em1 b := by
  apply sb_bool
  rw [us_b, RI_mh h hr hb, Bool.or_eq_true, decide_eq_true_eq, RI_pos h1 hr1 hb, mu_b, hdf_iff]
theorem RI_os {len ent em len1 ent1 em1 : Nat → Nat} {cnt cnt1 : Nat → Int32} (h : RI len ent cnt) (hr : RR len ent em) (h1 : RI len1 ent1 cnt1) (hr1 : RR len1 ent1 em1) {b : Nat} (hb : b < 40) : os_b cnt cnt1 b = ms_b len em len1 em1 b := by
  unfold os_b ms_b
  rw [← RI_us h hr h1 hr1 hb, RI_mh h hr hb]
  unfold us_b
  rw [RI_mh h hr hb]
  cases mh_b len em b <;> simp
/-- one row changed: the sums -/
theorem ocf_row {len len' ent ent' : Nat → Nat} {b k : Nat} : ∀ n, (∀ f, f < n → f ≠ k → oc1 ent' f b (len' f) = oc1 ent f b (len f)) → (k < n → ocf len' ent' b n + oc1 ent k b (len k) = ocf len ent b n + oc1 ent' k b (len' k)) ∧ (n ≤ k → ocf len' ent' b n = ocf len ent b n)
  | 0, _ => ⟨fun h => absurd h (Nat.not_lt_zero _), fun _ => rfl⟩
  | n + 1, h => by
    obtain ⟨i1, i2⟩ := ocf_row n (fun f hf => h f (Nat.lt_succ_of_lt hf))
    constructor
    · intro hk
      rw [ocf, ocf]
      by_cases hkn : k = n
      · subst hkn
        have := i2 (Nat.le_refl _)
        omega
      · have := i1 (by omega)
        have := h n (Nat.lt_succ_self n) (fun q => hkn q.symm)
        omega
    · intro hk
      rw [ocf, ocf, i2 (by omega), h n (Nat.lt_succ_self n) (by omega)]
theorem sb_cancel {x y z : Int32} (h : x + z = y + z) : x = y := by
  have := congrArg (fun q => q - z) h
  simpa [Int32.add_sub_cancel] using this
theorem sb_canc {x : Int32} {a T b' T' : Nat} (h : x + nI a = nI T + nI b') (e : T' + a = T + b') : x = nI T' := by
  rw [nI_add, ← e, ← nI_add] at h
  exact sb_cancel h
theorem rw_dec_eq (cnt : Nat → Int32) (ent : Nat → Nat) (k n c : Nat) : ∀ m, rw_dec cnt ent k n m c + nI (oc1 ent k c (n + m)) = cnt c + nI (oc1 ent k c n)
  | 0 => rfl
  | m + 1 => by
    have ih := rw_dec_eq cnt ent k n c m
    rw [rw_dec, show n + (m + 1) = (n + m) + 1 from rfl, oc1, ← ih]
    unfold upd
    by_cases h : c = ent (k * 12 + (n + m))
    · rw [if_pos h, if_pos h.symm, ← h, ← nI_add, ← Int32.add_assoc, Int32.add_assoc _ (nI _) (nI 1), Int32.add_comm (nI _) (nI 1), ← Int32.add_assoc, Int32.sub_add_cancel]
    · rw [if_neg h, if_neg (fun q => h q.symm), Nat.add_zero]
theorem rw_inc_eq (cnt : Nat → Int32) (e2 : Nat → Nat) (s c : Nat) : ∀ j, rw_inc cnt e2 s j c = cnt c + nI (oc1 e2 s c j)
  | 0 => by rw [rw_inc, oc1, nI_0, Int32.add_zero]
  | j + 1 => by
    have ih := rw_inc_eq cnt e2 s c j
    rw [rw_inc, oc1]
    unfold upd
    by_cases h : c = e2 (s * 12 + j)
    · rw [if_pos h, if_pos h.symm, ← h, ih, Int32.add_assoc, nI_add]
    · rw [if_neg h, if_neg (fun q => h q.symm), ih, Nat.add_zero]
theorem rw_cp_on (ent e2 : Nat → Nat) (k s : Nat) : ∀ n j, j < n → rw_cp ent e2 k s n (k * 12 + j) = e2 (s * 12 + j)
  | 0, _, h => absurd h (Nat.not_lt_zero _)
  | n + 1, j, h => by
    rw [rw_cp]
    by_cases hj : j = n
    · subst hj; rw [va_up_self]
    · rw [va_up_ne _ _ (by omega), rw_cp_on ent e2 k s n j (by omega)]
theorem RI_add {len ent : Nat → Nat} {cnt : Nat → Int32} (h : RI len ent cnt) {k b : Nat} (hk : k < 6) (hl : len k < 12) (hb : b < 40) : RI (va_up len k (len k + 1)) (va_up ent (k * 12 + len k) b) (upd cnt b (cnt b + nI 1)) := by
  obtain ⟨r1, r2, r3⟩ := h
  have hl' : ∀ f, f < 6 → va_up len k (len k + 1) f ≤ 12 := fun f hf => by
    by_cases e : f = k
    · subst e; rw [va_up_self]; omega
    · rw [va_up_ne _ _ e]; exact r1 f hf
  have hent : ∀ f, f < 6 → ∀ j, j < len f → va_up ent (k * 12 + len k) b (f * 12 + j) = ent (f * 12 + j) := fun f hf j hj => by
    have := r1 f hf
    have := r1 k hk
    refine va_up_ne _ _ ?_
    intro e
    have : f = k := by omega
    subst this
    omega
  refine ⟨hl', fun f hf j hj => ?_, fun c hc => ?_⟩
  · by_cases e : f = k
    · subst e
      rw [va_up_self] at hj
      by_cases ej : j = len f
      · subst ej; rw [va_up_self]; exact hb
      · rw [hent f hf j (by omega)]; exact r2 f hf j (by omega)
    · rw [va_up_ne _ _ e] at hj
      rw [hent f hf j hj]; exact r2 f hf j hj
  · obtain ⟨i1, -⟩ := ocf_row (len := len) (len' := va_up len k (len k + 1)) (ent := ent) (ent' := va_up ent (k * 12 + len k) b) (b := c) (k := k) 6 (fun f hf e => by rw [va_up_ne _ _ e]; exact oc1_congr _ (fun j hj => hent f hf j hj))
    have i1 := i1 hk
    have e1 : oc1 (va_up ent (k * 12 + len k) b) k c (va_up len k (len k + 1) k) = oc1 ent k c (len k) + (if b = c then 1 else 0) := by
      rw [va_up_self, oc1, va_up_self, oc1_congr _ (fun j hj => hent k hk j hj)]
    rw [e1] at i1
    unfold upd
    by_cases hcb : c = b
    · subst hcb
      rw [if_pos rfl] at i1 ⊢
      rw [r3 c hc, nI_add]
      congr 1
      omega
    · rw [if_neg hcb, r3 c hc]
      rw [if_neg (fun q => hcb q.symm)] at i1
      congr 1
      omega
theorem RI_cut {len ent : Nat → Nat} {cnt : Nat → Int32} (h : RI len ent cnt) {k n : Nat} (hk : k < 6) (hn : n ≤ len k) : RI (va_up len k n) ent (rw_dec cnt ent k n (len k - n)) := by
  obtain ⟨r1, r2, r3⟩ := h
  refine ⟨fun f hf => ?_, fun f hf j hj => ?_, fun c hc => ?_⟩
  · by_cases e : f = k
    · subst e; rw [va_up_self]; have := r1 f hf; omega
    · rw [va_up_ne _ _ e]; exact r1 f hf
  · by_cases e : f = k
    · subst e; rw [va_up_self] at hj; exact r2 f hf j (by omega)
    · rw [va_up_ne _ _ e] at hj; exact r2 f hf j hj
  · obtain ⟨i1, -⟩ := ocf_row (len := len) (len' := va_up len k n) (ent := ent) (ent' := ent) (b := c) (k := k) 6 (fun f hf e => by rw [va_up_ne _ _ e])
    have i1 := i1 hk
    rw [va_up_self] at i1
    have e := rw_dec_eq cnt ent k n c (len k - n)
    rw [show n + (len k - n) = len k by omega, r3 c hc] at e
    exact sb_canc e i1
theorem RI_rep {len ent : Nat → Nat} {cnt : Nat → Int32} (h : RI len ent cnt) {l2 : Nat} {e2 : Nat → Nat} {k s : Nat} (hk : k < 6) (hl2 : l2 ≤ 12) (he2 : ∀ j, j < l2 → e2 (s * 12 + j) < 40) : RI (va_up len k l2) (rw_cp ent e2 k s l2) (rw_inc (rw_dec cnt ent k 0 (len k - 0)) e2 s l2) := by
  obtain ⟨r1, r2, r3⟩ := h
  have hoff : ∀ f, f < 6 → f ≠ k → ∀ j, j < len f → rw_cp ent e2 k s l2 (f * 12 + j) = ent (f * 12 + j) := fun f hf e j hj => by
    have := r1 f hf
    exact rw_cp_off _ _ _ _ _ _ (by omega)
  refine ⟨fun f hf => ?_, fun f hf j hj => ?_, fun c hc => ?_⟩
  · by_cases e : f = k
    · subst e; rw [va_up_self]; exact hl2
    · rw [va_up_ne _ _ e]; exact r1 f hf
  · by_cases e : f = k
    · subst e; rw [va_up_self] at hj; rw [rw_cp_on _ _ _ _ _ _ hj]; exact he2 j hj
    · rw [va_up_ne _ _ e] at hj; rw [hoff f hf e j hj]; exact r2 f hf j hj
  · obtain ⟨i1, -⟩ := ocf_row (len := len) (len' := va_up len k l2) (ent := ent) (ent' := rw_cp ent e2 k s l2) (b := c) (k := k) 6 (fun f hf e => by rw [va_up_ne _ _ e]; exact oc1_congr _ (fun j hj => hoff f hf e j hj))
    have i1 := i1 hk
    rw [va_up_self] at i1
    rw [oc1_congr (e := rw_cp ent e2 k s l2) (e' := e2) (f := k) (f' := s) l2 (fun j hj => rw_cp_on _ _ _ _ _ _ hj)] at i1
    have e := rw_dec_eq cnt ent k 0 c (len k - 0)
    rw [Nat.zero_add, Nat.sub_zero, r3 c hc, oc1, nI_0, Int32.add_zero] at e
    rw [rw_inc_eq, Nat.sub_zero]
    apply sb_cancel (z := nI (oc1 ent k c (len k)))
    rw [Int32.add_assoc, Int32.add_comm (nI (oc1 e2 s c l2)), ← Int32.add_assoc, e, nI_add, nI_add, i1]
theorem RI_rv {len ent l2 e2 : Nat → Nat} {cnt : Nat → Int32} (h : RI len ent cnt) (hl2 : ∀ f, f < 6 → l2 f ≤ 12) (he2 : ∀ f, f < 6 → ∀ j, j < l2 f → e2 (f * 12 + j) < 40) : ∀ n, n ≤ 6 → RI (rv len ent cnt l2 e2 n).1.1 (rv len ent cnt l2 e2 n).1.2 (rv len ent cnt l2 e2 n).2 ∧ (∀ f, f < n → (rv len ent cnt l2 e2 n).1.1 f = l2 f) ∧ ∀ f, f < n → ∀ j, j < l2 f → (rv len ent cnt l2 e2 n).1.2 (f * 12 + j) = e2 (f * 12 + j)
  | 0, _ => ⟨h, fun f hf => absurd hf (Nat.not_lt_zero _), fun f hf => absurd hf (Nat.not_lt_zero _)⟩
  | n + 1, hn => by
    obtain ⟨i1, i2, i3⟩ := RI_rv h hl2 he2 n (by omega)
    refine ⟨RI_rep i1 (by omega) (hl2 n (by omega)) (he2 n (by omega)), fun f hf => ?_, fun f hf j hj => ?_⟩
    · show va_up (rv len ent cnt l2 e2 n).1.1 n (l2 n) f = l2 f
      by_cases e : f = n
      · subst e; rw [va_up_self]
      · rw [va_up_ne _ _ e]; exact i2 f (by omega)
    · show rw_cp (rv len ent cnt l2 e2 n).1.2 e2 n n (l2 n) (f * 12 + j) = e2 (f * 12 + j)
      by_cases e : f = n
      · subst e; exact rw_cp_on _ _ _ _ _ _ hj
      · have := hl2 f (by omega)
        rw [rw_cp_off _ _ _ _ _ _ (by omega)]
        exact i3 f (by omega) j hj
