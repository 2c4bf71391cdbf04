/-! taking a block out of the index: what stands behind the hole is put in anew -/
def ix_d (h y : Nat) : Nat := (y + 64 - h) % 64
/-- one block moved -/
def ix_mv (home : Nat → Nat) (hole s b : Nat) (x : (Nat → Option Nat) × (Nat → Option Nat)) : (Nat → Option Nat) × (Nat → Option Nat) :=
  (ix_put (va_up x.1 ((hole + s) % 64) none) (home b) b, va_up x.2 b (some ((home b + ix_s (va_up x.1 ((hole + s) % 64) none) (home b)) % 64)))
def ix_sh (home : Nat → Nat) (hole : Nat) : Nat → Nat → (Nat → Option Nat) × (Nat → Option Nat) → (Nat → Option Nat) × (Nat → Option Nat)
  | 0, _, x => x
  | n + 1, s, x => match x.1 ((hole + s) % 64) with
    | none => x
    | some b => ix_sh home hole n (s + 1) (ix_mv home hole s b x)
def ix_I (home : Nat → Nat) (cel0 : Nat → Option Nat) (hole s0 s : Nat) (x : (Nat → Option Nat) × (Nat → Option Nat)) : Prop :=
  (∀ t, s ≤ t → t ≤ s0 → x.1 ((hole + t) % 64) = cel0 ((hole + t) % 64)) ∧
  (∀ j b, j < 64 → x.1 j = some b → x.2 b = some j) ∧
  (∀ b j, x.2 b = some j → j < 64 ∧ x.1 j = some b) ∧
  (∀ j b, j < 64 → x.1 j = some b → (∀ t, s ≤ t → t < s0 → j ≠ (hole + t) % 64) → ∀ u, u < ix_d (home b) j → x.1 ((home b + u) % 64) ≠ none) ∧
  (∀ j b, j < 64 → x.1 j = some b → ∃ j0, j0 < 64 ∧ cel0 j0 = some b ∧ ix_d (home b) j ≤ ix_d (home b) j0)
def ix_pi (cel : Nat → Option Nat) (home : Nat → Nat) : Prop := ∀ j b, j < 64 → cel j = some b → ∀ u, u < ix_d (home b) j → cel ((home b + u) % 64) ≠ none
theorem ix_up_eq {f : Nat → Option Nat} {k : Nat} {v : Option Nat} : va_up f k v k = v := by simp [va_up]
theorem ix_up_ne {f : Nat → Option Nat} {k j : Nat} {v : Option Nat} (h : j ≠ k) : va_up f k v j = f j := by simp [va_up, h]
set_option maxHeartbeats 1000000 in
/-- one step keeps it -/
theorem ix_step {home : Nat → Nat} {cel0 : Nat → Option Nat} {hole s0 s b : Nat} {x : (Nat → Option Nat) × (Nat → Option Nat)} (hh : ∀ b, home b < 64) (hhole : hole < 64) (hs : 1 ≤ s) (hs0 : s < s0) (h63 : s0 ≤ 63)
    (hpi : ix_pi cel0 home) (he : cel0 ((hole + s0) % 64) = none) (hrun : ∀ t, 1 ≤ t → t < s0 → cel0 ((hole + t) % 64) ≠ none) (hb : x.1 ((hole + s) % 64) = some b) (hI : ix_I home cel0 hole s0 s x) : ix_I home cel0 hole s0 (s + 1) (ix_mv home hole s b x) := by
  obtain ⟨a1, a2, a3, a4, a5⟩ := hI
  have hj : (hole + s) % 64 < 64 := Nat.mod_lt _ (by decide)
  generalize hjd : (hole + s) % 64 = j at *
  have hb0 : cel0 j = some b := by rw [← hb, ← hjd]; exact (a1 s (Nat.le_refl _) (by omega)).symm
  have hd := hh b
  -- the own cell is free
  have hown : va_up x.1 j none j = none := ix_up_eq
  have hdj : (home b + ix_d (home b) j) % 64 = j := by unfold ix_d; omega
  have hdlt : ix_d (home b) j < 64 := Nat.mod_lt _ (by decide)
  obtain ⟨t1, t2, t3⟩ := ix_s_spec (cel := va_up x.1 j none) (h := home b) ⟨ix_d (home b) j, hdlt, by rw [hdj]; exact hown⟩
  generalize htd : ix_s (va_up x.1 j none) (home b) = t at *
  have htle : t ≤ ix_d (home b) j := by
    rcases Nat.lt_or_ge (ix_d (home b) j) t with h | h
    · exact absurd (by rw [hdj]; exact hown) (t3 _ h)
    · exact h
  have hj' : (home b + t) % 64 < 64 := Nat.mod_lt _ (by decide)
  have hdj' : ix_d (home b) ((home b + t) % 64) = t := by unfold ix_d; omega
  generalize hjd' : (home b + t) % 64 = j' at *
  have e1 : (ix_mv home hole s b x).1 = va_up (va_up x.1 j none) j' (some b) := by
    simp only [ix_mv, ix_put, hjd, htd, hjd']
  have e2 : (ix_mv home hole s b x).2 = va_up x.2 b (some j') := by
    simp only [ix_mv, hjd, htd, hjd']
  have hfree : x.1 j' = none ∨ j' = j := by
    by_cases h : j' = j
    · exact Or.inr h
    · rw [ix_up_ne h] at t2; exact Or.inl t2
  -- the empty cell is not where the block goes
  have hne : j' ≠ (hole + s0) % 64 := by
    intro q
    rcases Nat.lt_or_ge t (ix_d (home b) j) with h | h
    · exact hpi j b hj hb0 t h (by rw [hjd', q]; exact he)
    · have : t = ix_d (home b) j := by omega
      rw [this, hdj] at hjd'
      rw [← hjd'] at q
      rw [← q, hb0] at he
      cases he
  refine ⟨fun t' h1 h2 => ?_, fun y b' hy hyb => ?_, fun b' y hyb => ?_, fun y b' hy hyb hout u hu => ?_, fun y b' hy hyb => ?_⟩
  · rw [e1]
    have n1 : (hole + t') % 64 ≠ j := by omega
    have n2 : (hole + t') % 64 ≠ j' := by
      intro q
      rcases Nat.lt_or_ge t' s0 with h | h
      · rcases hfree with h3 | h3
        · have := a1 t' (by omega) h2
          rw [q, h3] at this
          exact hrun t' (by omega) h (by rw [q]; exact this.symm)
        · exact n1 (q.trans h3)
      · have : t' = s0 := by omega
        subst this
        exact hne q.symm
    rw [ix_up_ne n2, ix_up_ne n1]
    exact a1 t' (by omega) h2
  · rw [e1] at hyb
    rw [e2]
    by_cases q : y = j'
    · subst q
      rw [ix_up_eq] at hyb
      cases hyb
      rw [ix_up_eq]
    · rw [ix_up_ne q] at hyb
      by_cases q2 : y = j
      · subst q2; rw [ix_up_eq] at hyb; cases hyb
      · rw [ix_up_ne q2] at hyb
        have h1 := a2 y b' hy hyb
        have hbb : b' ≠ b := by
          intro z
          subst z
          have := a2 j b' hj hb
          rw [h1] at this
          exact q2 (Option.some.inj this)
        rw [ix_up_ne hbb]; exact h1
  · rw [e2] at hyb
    rw [e1]
    by_cases q : b' = b
    · subst q
      rw [ix_up_eq] at hyb
      cases hyb
      exact ⟨hj', ix_up_eq⟩
    · rw [ix_up_ne q] at hyb
      obtain ⟨h1, h2⟩ := a3 b' y hyb
      refine ⟨h1, ?_⟩
      have n1 : y ≠ j := by
        intro z; subst z; rw [hb] at h2; cases h2; exact q rfl
      have n2 : y ≠ j' := by
        intro z; subst z
        rcases hfree with h3 | h3
        · rw [h3] at h2; cases h2
        · exact n1 h3
      rw [ix_up_ne n2, ix_up_ne n1]; exact h2
  · rw [e1] at hyb ⊢
    by_cases q : y = j'
    · subst q
      rw [ix_up_eq] at hyb
      cases hyb
      rw [hdj'] at hu
      by_cases q2 : (home b + u) % 64 = y
      · rw [q2, ix_up_eq]; exact fun z => by cases z
      · rw [ix_up_ne q2]; exact t3 u hu
    · rw [ix_up_ne q] at hyb
      by_cases q2 : y = j
      · subst q2; rw [ix_up_eq] at hyb; cases hyb
      · rw [ix_up_ne q2] at hyb
        have hout' : ∀ t', s ≤ t' → t' < s0 → y ≠ (hole + t') % 64 := by
          intro t' h1 h2
          by_cases h3 : t' = s
          · subst h3; rw [hjd]; exact q2
          · exact hout t' (by omega) h2
        have hocc := a4 y b' hy hyb hout' u hu
        by_cases q3 : (home b' + u) % 64 = j'
        · rw [q3, ix_up_eq]; exact fun z => by cases z
        · rw [ix_up_ne q3]
          by_cases q4 : (home b' + u) % 64 = j
          · exfalso
            obtain ⟨y0, hy0, hc0, hdd⟩ := a5 y b' hy hyb
            have hp0 := hpi y0 b' hy0 hc0
            have hb'h := hh b'
            rcases Nat.lt_or_ge (u + (s0 - s)) (ix_d (home b') y0) with h | h
            · refine hp0 _ h ?_
              have : (home b' + (u + (s0 - s))) % 64 = (hole + s0) % 64 := by omega
              rw [this]; exact he
            · -- y0 lies in the run
              have hd0 : ix_d (home b') y0 < 64 := Nat.mod_lt _ (by decide)
              have hy0d : (home b' + ix_d (home b') y0) % 64 = y0 := by unfold ix_d; omega
              generalize ix_d (home b') y0 = d0 at *
              have hyt : y0 = (hole + (s + (d0 - u))) % 64 := by omega
              have hlt : s + (d0 - u) < s0 := by
                rcases Nat.lt_or_ge (s + (d0 - u)) s0 with z | z
                · exact z
                · have z2 : s + (d0 - u) = s0 := by omega
                  rw [hyt, z2, he] at hc0
                  cases hc0
              have hcy : x.1 y0 = some b' := by
                rw [hyt] at hc0 ⊢
                rw [a1 _ (by omega) (by omega)]; exact hc0
              have r1 := a2 y b' hy hyb
              have r2 := a2 y0 b' hy0 hcy
              rw [r1] at r2
              exact hout' _ (by omega) hlt ((Option.some.inj r2).trans hyt)
          · rw [ix_up_ne q4]; exact hocc
  · rw [e1] at hyb
    by_cases q : y = j'
    · subst q
      rw [ix_up_eq] at hyb
      cases hyb
      exact ⟨j, hj, hb0, by rw [hdj']; exact htle⟩
    · rw [ix_up_ne q] at hyb
      by_cases q2 : y = j
      · subst q2; rw [ix_up_eq] at hyb; cases hyb
      · rw [ix_up_ne q2] at hyb
        exact a5 y b' hy hyb
theorem ix_sh_none {home : Nat → Nat} {hole n s : Nat} {x : (Nat → Option Nat) × (Nat → Option Nat)} (h : x.1 ((hole + s) % 64) = none) : ix_sh home hole n s x = x := by
  cases n with
  | zero => rfl
  | succ n => unfold ix_sh; rw [h]
theorem ix_sh_some {home : Nat → Nat} {hole n s b : Nat} {x : (Nat → Option Nat) × (Nat → Option Nat)} (h : x.1 ((hole + s) % 64) = some b) : ix_sh home hole (n + 1) s x = ix_sh home hole n (s + 1) (ix_mv home hole s b x) := by
  rw [ix_sh, h]
theorem ix_own {cel : Nat → Option Nat} {j h : Nat} (hj : j < 64) (hh : h < 64) : ∃ t, t < 64 ∧ va_up cel j none ((h + t) % 64) = none := by
  refine ⟨ix_d h j, Nat.mod_lt _ (by decide), ?_⟩
  have : (h + ix_d h j) % 64 = j := by unfold ix_d; omega
  rw [this, ix_up_eq]
