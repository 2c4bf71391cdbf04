/-! taking a block out of the index: what stands behind the hole is put in anew -/
def ix_d (h y : Nat) : Nat := (y + 64 - h) % 64
/-- one block moved -/
def ix_mv (home : Nat → Nat) (hole s b : Nat) (x : (Nat → Option Nat) × (Nat → Option Nat)) : (Nat → Option Nat) × (Nat → Option Nat) :=
  (ix_put (va_up x.1 ((hole + s) % 64) none) (home b) b, va_up x.2 b (some ((home b + ix_s (va_up x.1 ((hole + s) % 64) none) (home b)) % 64)))
def ix_sh (home : Nat → Nat) (hole : Nat) : Nat → Nat → (Nat → Option Nat) × (Nat → Option Nat) → (Nat → Option Nat) × (Nat → Option Nat)
  | 0, _, x => x
  | n + 1, s, x => match x.1 ((hole + s) % 64) with
    | none => x
    | some b => ix_sh home hole n (s + 1) (ix_mv home hole s b x)
def ix_I (home : Nat → Nat) (cel0 : Nat → Option Nat) (hole s0 s : Nat) (x : (Nat → Option Nat) × (Nat → Option Nat)) : Prop :=
  (∀ t, s ≤ t → t ≤ s0 → x.1 ((hole + t) % 64) = cel0 ((hole + t) % 64)) ∧
  (∀ j b, j < 64 → x.1 j = some b → x.2 b = some j) ∧
  (∀ b j, x.2 b = some j → j < 64 ∧ x.1 j = some b) ∧
  (∀ j b, j < 64 → x.1 j = some b → (∀ t, s ≤ t → t < s0 → j ≠ (hole + t) % 64) → ∀ u, u < ix_d (home b) j → x.1 ((home b + u) % 64) ≠ none) ∧
  (∀ j b, j < 64 → x.1 j = some b → ∃ j0, j0 < 64 ∧ cel0 j0 = some b ∧ ix_d (home b) j ≤ ix_d (home b) j0)
def ix_pi (cel : Nat → Option Nat) (home : Nat → Nat) : Prop := ∀ j b, j < 64 → cel j = some b → ∀ u, u < ix_d (home b) j → cel ((home b + u) % 64) ≠ none
theorem ix_up_eq {f : Nat → Option Nat} {k : Nat} {v : Option Nat} : va_up f k v k = v := by simp [va_up]
theorem ix_up_ne {f : Nat → Option Nat} {k j : Nat} {v : Option Nat} (h : j ≠ k) : va_up f k v j = f j := by simp [va_up, h]
set_option maxHeartbeats 1000000 in
/-- one step keeps it -/
theorem ix_step {home : Nat → Nat} {cel0 : Nat → Option Nat} {hole s0 s b : Nat} {x : (Nat → Option Nat) × (Nat → Option Nat)} (hh : ∀ b, home b < 64) (hhole : hole < 64) (hs : 1 ≤ s) (hs0 : s < s0) (h63 : s0 ≤ 63)
    (hpi : ix_pi cel0 home) (he : cel0 ((hole + s0) % 64) = none) (hrun : ∀ t, 1 ≤ t → t < s0 → cel0 ((hole + t) % 64) ≠ none) (hb : x.1 ((hole + s) % 64) = some b) (hI : ix_I home cel0 hole s0 s x) : ix_I home cel0 hole s0 (s + 1) (ix_mv home hole s b x) := by
  obtain ⟨a1, a2, a3, a4, a5⟩ := hI
  have hj : (hole + s) % 64 < 64 := Nat.mod_lt _ (by decide)
  generalize hjd : (hole + s) % 64 = j at *
  have hb0 : cel0 j = some b := by rw [← hb, ← hjd]; exact (a1 s (Nat.le_refl _) (by omega)).symm
  have hd := hh b
  -- the own cell is free
  have hown : va_up x.1 j none j = none := ix_up_eq
  have hdj : (home b + ix_d (home b) j) % 64 = j := by unfold ix_d; omega
  have hdlt : ix_d (home b) j < 64 := Nat.mod_lt _ (by decide)
  obtain ⟨t1, t2, t3⟩ := ix_s_spec (cel := va_up x.1 j none) (h := home b) ⟨ix_d (home b) j, hdlt, by rw [hdj]; exact hown⟩
  generalize htd : ix_s (va_up x.1 j none) (home b) = t at *
  have htle : t ≤ ix_d (home b) j := by
    rcases Nat.lt_or_ge (ix_d (home b) j) t with h | h
    · exact absurd (by rw [hdj]; exact hown) (t3 _ h)
    · exact h
  have hj' : (home b + t) % 64 < 64 := Nat.mod_lt _ (by decide)
  have hdj' : ix_d (home b) ((home b + t) % 64) = t := by unfold ix_d; omega
  generalize hjd' : (home b + t) % 64 = j' at *
  have e1 : (ix_mv home hole s b x).1 = va_up (va_up x.1 j none) j' (some b) := by
    simp only [ix_mv, ix_put, hjd, htd, hjd']
  have e2 : (ix_mv home hole s b x).2 = va_up x.2 b (some j') := by
    simp only [ix_mv, hjd, htd, hjd']
  have hfree : x.1 j' = none ∨ j' = j := by
    by_cases h : j' = j
    · exact Or.inr h
    · rw [ix_up_ne h] at t2; exact Or.inl t2
  -- the empty cell is not where the block goes
  have hne : j' ≠ (hole + s0) % 64 := by
    intro q
    rcases Nat.lt_or_ge t (ix_d (home b) j) with h | h
    · exact hpi j b hj hb0 t h (by rw [hjd', q]; exact he)
    · have : t = ix_d (home b) j := by omega
      rw [this, hdj] at hjd'
      rw [← hjd'] at q
      rw [← q, hb0] at he
      cases he
  refine ⟨fun t' h1 h2 => ?_, fun y b' hy hyb => ?_, fun b' y hyb => ?_, fun y b' hy hyb hout u hu => ?_, fun y b' hy hyb => ?_⟩
  · rw [e1]
    have n1 : (hole + t') % 64 ≠ j := by omega
    have n2 : (hole + t') % 64 ≠ j' := by
      intro q
      rcases Nat.lt_or_ge t' s0 with h | h
      · rcases hfree with h3 | h3
        · have := a1 t' (by omega) h2
          rw [q, h3] at this
          exact hrun t' (by omega) h (by rw [q]; exact this.symm)
        · exact n1 (q.trans h3)
      · have : t' = s0 := by omega
        subst this
        exact hne q.symm
    rw [ix_up_ne n2, ix_up_ne n1]
    exact a1 t' (by omega) h2
  · rw [e1] at hyb
    rw [e2]
    by_cases q : y = j'
    · subst q
      rw [ix_up_eq] at hyb
      cases hyb
      rw [ix_up_eq]
    · rw [ix_up_ne q] at hyb
      by_cases q2 : y = j
      · subst q2; rw [ix_up_eq] at hyb; cases hyb
      · rw [ix_up_ne q2] at hyb
        have h1 := a2 y b' hy hyb
        have hbb : b' ≠ b := by
          intro z
          subst z
          have := a2 j b' hj hb
          rw [h1] at this
          exact q2 (Option.some.inj this)
        rw [ix_up_ne hbb]; exact h1
  · rw [e2] at hyb
    rw [e1]
    by_cases q : b' = b
    · subst q
      rw [ix_up_eq] at hyb
      cases hyb
      exact ⟨hj', ix_up_eq⟩
    · rw [ix_up_ne q] at hyb
      obtain ⟨h1, h2⟩ := a3 b' y hyb
      refine ⟨h1, ?_⟩
      have n1 : y ≠ j := by
        intro z; subst z; rw [hb] at h2; cases h2; exact q rfl
      have n2 : y ≠ j' := by
        intro z; subst z
        rcases hfree with h3 | h3
        · rw [h3] at h2; cases h2
        · exact n1 h3
      rw [ix_up_ne n2, ix_up_ne n1]; exact h2
  · rw [e1] at hyb ⊢
    by_cases q : y = j'
    · subst q
      rw [ix_up_eq] at hyb
      cases hyb
      rw [hdj'] at hu
      by_cases q2 : (home b + u) % 64 = y
      · rw [q2, ix_up_eq]; exact fun z => by cases z
      · rw [ix_up_ne q2]; exact t3 u hu
    · rw [ix_up_ne q] at hyb
      by_cases q2 : y = j
      · subst q2; rw [ix_up_eq] at hyb; cases hyb
      · rw [ix_up_ne q2] at hyb
        have hout' : ∀ t', s ≤ t' → t' < s0 → y ≠ (hole + t') % 64 := by
          intro t' h1 h2
          by_cases h3 : t' = s
          · subst h3; rw [hjd]; exact q2
          · exact hout t' (by omega) h2
        have hocc := a4 y b' hy hyb hout' u hu
        by_cases q3 : (home b' + u) % 64 = j'
        · rw [q3, ix_up_eq]; exact fun z => by cases z
        · rw [ix_up_ne q3]
          by_cases q4 : (home b' + u) % 64 = j
          · exfalso
            obtain ⟨y0, hy0, hc0, hdd⟩ := a5 y b' hy hyb
            have hp0 := hpi y0 b' hy0 hc0
            have hb'h := hh b'
            rcases Nat.lt_or_ge (u + (s0 - s)) (ix_d (home b') y0) with h | h
            · refine hp0 _ h ?_
              have : (home b' + (u + (s0 - s))) % 64 = (hole + s0) % 64 := by omega
              rw [this]; exact he
            · -- y0 lies in the run
              have hd0 : ix_d (home b') y0 < 64 := Nat.mod_lt _ (by decide)
              have hy0d : (home b' + ix_d (home b') y0) % 64 = y0 := by unfold ix_d; omega
              generalize ix_d (home b') y0 = d0 at *
              have hyt : y0 = (hole + (s + (d0 - u))) % 64 := by omega
              have hlt : s + (d0 - u) < s0 := by
                rcases Nat.lt_or_ge (s + (d0 - u)) s0 with z | z
                · exact z
                · have z2 : s + (d0 - u) = s0 := by omega
                  rw [hyt, z2, he] at hc0
                  cases hc0
              have hcy : x.1 y0 = some b' := by
                rw [hyt] at hc0 ⊢
                rw [a1 _ (by omega) (by omega)]; exact hc0
              have r1 := a2 y b' hy hyb
              have r2 := a2 y0 b' hy0 hcy
              rw [r1] at r2
              exact hout' _ (by omega) hlt ((Option.some.inj r2).trans hyt)
          · rw [ix_up_ne q4]; exact hocc
  · rw [e1] at hyb
    by_cases q : y = j'
    · subst q
      rw [ix_up_eq] at hyb
      cases hyb
      exact ⟨j, hj, hb0, by rw [hdj']; exact htle⟩
    · rw [ix_up_ne q] at hyb
      by_cases q2 : y = j
      · subst q2; rw [ix_up_eq] at hyb; cases hyb
      · rw [ix_up_ne q2] at hyb
        exact a5 y b' hy hyb
theorem ix_sh_none {home : Nat → Nat} {hole n s : Nat} {x : (Nat → Option Nat) × (Nat → Option Nat)} (h : x.1 ((hole + s) % 64) = none) : ix_sh home hole n s x = x := by
  cases n with
  | zero => rfl
  | succ n => unfold ix_sh; rw [h]
theorem ix_sh_some {home : Nat → Nat} {hole n s b : Nat} {x : (Nat → Option Nat) × (Nat → Option Nat)} (h : x.1 ((hole + s) % 64) = some b) : ix_sh home hole (n + 1) s x = ix_sh home hole n (s + 1) (ix_mv home hole s b x) := by
  rw [ix_sh, h]
theorem ix_own {cel : Nat → Option Nat} {j h : Nat} (hj : j < 64) (hh : h < 64) : ∃ t, t < 64 ∧ va_up cel j none ((h + t) % 64) = none := by
  refine ⟨ix_d h j, Nat.mod_lt _ (by decide), ?_⟩
  have : (h + ix_d h j) % 64 = j := by unfold ix_d; omega
  rw [this, ix_up_eq]
/-! the index as a whole -/
def ix_T (cel pos : Nat → Option Nat) (home : Nat → Nat) : Prop := (∀ j b, j < 64 → cel j = some b → b < 40 ∧ pos b = some j) ∧ (∀ b j, pos b = some j → j < 64 ∧ cel j = some b) ∧ ix_pi cel home
theorem ix_pig : ∀ (m n : Nat) (f : Nat → Nat), (∀ i, i < n → f i < m) → (∀ i j, i < n → j < n → f i = f j → i = j) → n ≤ m := by
  intro m
  induction m with
  | zero =>
    intro n f h1 _
    rcases Nat.eq_zero_or_pos n with h | h
    · omega
    · exact absurd (h1 0 h) (Nat.not_lt_zero _)
  | succ m ih =>
    intro n f h1 h2
    rcases Nat.eq_zero_or_pos n with h | h
    · omega
    · obtain ⟨k, rfl⟩ : ∃ k, n = k + 1 := ⟨n - 1, by omega⟩
      have := ih k (fun i => if f i = m then f k else f i) (fun i hi => by
        show (if f i = m then f k else f i) < m
        have a1 := h1 i (by omega)
        have a2 := h1 k (by omega)
        by_cases q : f i = m
        · rw [if_pos q]
          have : f k ≠ m := fun z => by have := h2 i k (by omega) (by omega) (q.trans z.symm); omega
          omega
        · rw [if_neg q]; omega) (fun i j hi hj hij => by
        have hij : (if f i = m then f k else f i) = (if f j = m then f k else f j) := hij
        by_cases q : f i = m <;> by_cases r : f j = m
        · exact h2 i j (by omega) (by omega) (q.trans r.symm)
        · rw [if_pos q, if_neg r] at hij
          have := h2 k j (by omega) (by omega) hij; omega
        · rw [if_neg q, if_pos r] at hij
          have := h2 i k (by omega) (by omega) hij; omega
        · rw [if_neg q, if_neg r] at hij
          exact h2 i j (by omega) (by omega) hij)
      omega
theorem ix_gap {cel pos : Nat → Option Nat} {home : Nat → Nat} (hT : ix_T cel pos home) {hole : Nat} (hh : hole < 64) : ∃ s0, 1 ≤ s0 ∧ s0 ≤ 63 ∧ cel ((hole + s0) % 64) = none ∧ ∀ t, 1 ≤ t → t < s0 → cel ((hole + t) % 64) ≠ none := by
  have hex : ∃ s, 1 ≤ s ∧ s < 1 + 63 ∧ (cel ((hole + s) % 64)).isNone = true := by
    refine Classical.byContradiction (fun hno => ?_)
    have hocc : ∀ s, 1 ≤ s → s < 64 → ∃ b, cel ((hole + s) % 64) = some b := by
      intro s h1 h2
      cases hc : cel ((hole + s) % 64) with
      | none => exact absurd ⟨s, h1, by omega, by rw [hc]; rfl⟩ hno
      | some b => exact ⟨b, rfl⟩
    have := ix_pig 40 63 (fun i => (cel ((hole + (i + 1)) % 64)).getD 0) (fun i hi => by
      obtain ⟨b, hb⟩ := hocc (i + 1) (by omega) (by omega)
      show (cel ((hole + (i + 1)) % 64)).getD 0 < 40
      rw [hb]
      exact (hT.1 _ b (Nat.mod_lt _ (by decide)) hb).1) (fun i j hi hj hij => by
      obtain ⟨b, hb⟩ := hocc (i + 1) (by omega) (by omega)
      obtain ⟨b2, hb2⟩ := hocc (j + 1) (by omega) (by omega)
      have hij : (cel ((hole + (i + 1)) % 64)).getD 0 = (cel ((hole + (j + 1)) % 64)).getD 0 := hij
      rw [hb, hb2] at hij
      have hij : b = b2 := hij
      subst hij
      have e1 := (hT.1 _ b (Nat.mod_lt _ (by decide)) hb).2
      have e2 := (hT.1 _ b (Nat.mod_lt _ (by decide)) hb2).2
      rw [e1] at e2
      have e3 := Option.some.inj e2
      omega)
    omega
  obtain ⟨a1, a2, a3, a4⟩ := ix_f_spec _ 63 1 hex
  refine ⟨_, a1, by omega, by simpa using a3, fun t h1 h2 q => ?_⟩
  have := a4 t h1 h2
  rw [q] at this
  cases this
theorem ix_free {cel pos : Nat → Option Nat} {home : Nat → Nat} (hT : ix_T cel pos home) {h : Nat} (hh : h < 64) : ∃ t, t < 64 ∧ cel ((h + t) % 64) = none := by
  obtain ⟨s0, h1, h2, h3, -⟩ := ix_gap hT hh
  exact ⟨s0, by omega, h3⟩
theorem ix_start {cel pos : Nat → Option Nat} {home : Nat → Nat} (hT : ix_T cel pos home) {hole b s0 : Nat} (hhm : ∀ b, home b < 64) (hp : pos b = some hole) (h1 : 1 ≤ s0) (h63 : s0 ≤ 63) (he : cel ((hole + s0) % 64) = none) (hrun : ∀ t, 1 ≤ t → t < s0 → cel ((hole + t) % 64) ≠ none) :
    ix_I home cel hole s0 1 (va_up cel hole none, va_up pos b none) := by
  obtain ⟨t1, t2, t3⟩ := hT
  obtain ⟨hh, hcb⟩ := t2 b hole hp
  refine ⟨fun t h1 h2 => ix_up_ne (by omega), fun j b' hj hb' => ?_, fun b' j hb' => ?_, fun j b' hj hb' hout u hu => ?_, fun j b' hj hb' => ?_⟩
  · have n1 : j ≠ hole := fun q => by subst q; simp [va_up] at hb'
    simp only [ix_up_ne n1] at hb'
    have h2 := (t1 j b' hj hb').2
    have n2 : b' ≠ b := fun q => by subst q; rw [hp] at h2; exact n1 (Option.some.inj h2).symm
    show va_up pos b none b' = some j
    rw [ix_up_ne n2]; exact h2
  · have hb' : va_up pos b none b' = some j := hb'
    have n2 : b' ≠ b := fun q => by subst q; rw [ix_up_eq] at hb'; cases hb'
    rw [ix_up_ne n2] at hb'
    obtain ⟨a1, a2⟩ := t2 b' j hb'
    refine ⟨a1, ?_⟩
    have n1 : j ≠ hole := fun q => by subst q; rw [hcb] at a2; exact n2 (Option.some.inj a2).symm
    show va_up cel hole none j = some b'
    rw [ix_up_ne n1]; exact a2
  · have hb' : va_up cel hole none j = some b' := hb'
    have n1 : j ≠ hole := fun q => by subst q; rw [ix_up_eq] at hb'; cases hb'
    rw [ix_up_ne n1] at hb'
    have hocc := t3 j b' hj hb'
    show va_up cel hole none ((home b' + u) % 64) ≠ none
    by_cases q : (home b' + u) % 64 = hole
    · exfalso
      have hm := hhm b'
      have hd : ix_d (home b') j < 64 := Nat.mod_lt _ (by decide)
      have hjd : (home b' + ix_d (home b') j) % 64 = j := by unfold ix_d; omega
      rcases Nat.lt_or_ge (u + s0) (ix_d (home b') j) with h | h
      · refine hocc _ h ?_
        have : (home b' + (u + s0)) % 64 = (hole + s0) % 64 := by omega
        rw [this]; exact he
      · generalize ix_d (home b') j = d at *
        have hj2 : j = (hole + (d - u)) % 64 := by omega
        rcases Nat.lt_or_ge (d - u) s0 with z | z
        · exact hout (d - u) (by omega) z hj2
        · have z2 : d - u = s0 := by omega
          rw [hj2, z2, he] at hb'
          cases hb'
    · rw [ix_up_ne q]; exact hocc u hu
  · have hb' : va_up cel hole none j = some b' := hb'
    have n1 : j ≠ hole := fun q => by subst q; rw [ix_up_eq] at hb'; cases hb'
    rw [ix_up_ne n1] at hb'
    exact ⟨j, hj, hb', Nat.le_refl _⟩
theorem ix_run {home : Nat → Nat} {cel0 : Nat → Option Nat} {hole s0 : Nat} (hh : ∀ b, home b < 64) (hhole : hole < 64) (h63 : s0 ≤ 63) (hpi : ix_pi cel0 home) (he : cel0 ((hole + s0) % 64) = none) (hrun : ∀ t, 1 ≤ t → t < s0 → cel0 ((hole + t) % 64) ≠ none) :
    ∀ (d s : Nat) (x : (Nat → Option Nat) × (Nat → Option Nat)), s + d = s0 → 1 ≤ s → ix_I home cel0 hole s0 s x → ix_I home cel0 hole s0 s0 (ix_sh home hole (64 - s) s x) := by
  intro d
  induction d with
  | zero =>
    intro s x hs h1 hI
    have : s = s0 := by omega
    subst this
    have hc : x.1 ((hole + s) % 64) = none := (hI.1 s (Nat.le_refl _) (Nat.le_refl _)).trans he
    rw [ix_sh_none hc]; exact hI
  | succ d ih =>
    intro s x hs h1 hI
    have hc := hI.1 s (Nat.le_refl _) (by omega)
    cases hb : x.1 ((hole + s) % 64) with
    | none => rw [hb] at hc; exact absurd hc.symm (hrun s h1 (by omega))
    | some b =>
      rw [show 64 - s = (64 - (s + 1)) + 1 by omega, ix_sh_some hb]
      exact ih (s + 1) _ (by omega) (by omega) (ix_step hh hhole h1 (by omega) h63 hpi he hrun hb hI)
theorem ix_out {cel pos : Nat → Option Nat} {home : Nat → Nat} (hT : ix_T cel pos home) (hhm : ∀ b, home b < 64) {hole b : Nat} (hp : pos b = some hole) :
    ix_T (ix_sh home hole 63 1 (va_up cel hole none, va_up pos b none)).1 (ix_sh home hole 63 1 (va_up cel hole none, va_up pos b none)).2 home := by
  obtain ⟨hh, hcb⟩ := hT.2.1 b hole hp
  obtain ⟨s0, h1, h63, he, hrun⟩ := ix_gap hT hh
  have hI := ix_run hhm hh h63 hT.2.2 he hrun (s0 - 1) 1 _ (by omega) (Nat.le_refl _) (ix_start hT hhm hp h1 h63 he hrun)
  obtain ⟨-, a2, a3, a4, a5⟩ := hI
  refine ⟨fun j b' hj hb' => ?_, a3, fun j b' hj hb' u hu => a4 j b' hj hb' (fun t h1 h2 => absurd h2 (by omega)) u hu⟩
  obtain ⟨j0, hj0, hc0, -⟩ := a5 j b' hj hb'
  exact ⟨(hT.1 j0 b' hj0 hc0).1, a2 j b' hj hb'⟩
theorem ix_in {cel pos : Nat → Option Nat} {home : Nat → Nat} (hT : ix_T cel pos home) (hhm : ∀ b, home b < 64) {b : Nat} (hb : b < 40) (hp : pos b = none) :
    ix_T (ix_put cel (home b) b) (va_up pos b (some ((home b + ix_s cel (home b)) % 64))) home := by
  obtain ⟨t1, t2, t3⟩ := ix_s_spec (ix_free hT (hhm b))
  have hm := hhm b
  unfold ix_put
  generalize hs : ix_s cel (home b) = t at *
  have hj : (home b + t) % 64 < 64 := Nat.mod_lt _ (by decide)
  have hd : ix_d (home b) ((home b + t) % 64) = t := by unfold ix_d; omega
  generalize hjd : (home b + t) % 64 = j at *
  refine ⟨fun y b' hy hb' => ?_, fun b' y hb' => ?_, fun y b' hy hb' u hu => ?_⟩
  · by_cases q : y = j
    · subst q
      rw [ix_up_eq] at hb'
      cases hb'
      exact ⟨hb, ix_up_eq⟩
    · rw [ix_up_ne q] at hb'
      obtain ⟨a1, a2⟩ := hT.1 y b' hy hb'
      have n : b' ≠ b := fun z => by subst z; rw [hp] at a2; cases a2
      exact ⟨a1, by rw [ix_up_ne n]; exact a2⟩
  · by_cases q : b' = b
    · subst q
      rw [ix_up_eq] at hb'
      cases hb'
      exact ⟨hj, ix_up_eq⟩
    · rw [ix_up_ne q] at hb'
      obtain ⟨a1, a2⟩ := hT.2.1 b' y hb'
      have n : y ≠ j := fun z => by subst z; rw [t2] at a2; cases a2
      exact ⟨a1, by rw [ix_up_ne n]; exact a2⟩
  · by_cases q : y = j
    · subst q
      rw [ix_up_eq] at hb'
      cases hb'
      rw [hd] at hu
      by_cases q2 : (home b + u) % 64 = y
      · rw [q2, ix_up_eq]; exact fun z => by cases z
      · rw [ix_up_ne q2]; exact t3 u hu
    · rw [ix_up_ne q] at hb'
      have := hT.2.2 y b' hy hb' u hu
      by_cases q2 : (home b' + u) % 64 = j
      · rw [q2, ix_up_eq]; exact fun z => by cases z
      · rw [ix_up_ne q2]; exact this
theorem ix_home {cel pos : Nat → Option Nat} {home home' : Nat → Nat} (hT : ix_T cel pos home) (h : ∀ b j, pos b = some j → home' b = home b) : ix_T cel pos home' := by
  refine ⟨hT.1, hT.2.1, fun j b hj hb u hu => ?_⟩
  have e := h b j (hT.1 j b hj hb).2
  rw [e] at hu ⊢
  exact hT.2.2 j b hj hb u hu
def ix_no : Nat → Option Nat := fun _ => none
theorem ix_no_T (home : Nat → Nat) : ix_T ix_no ix_no home := ⟨fun _ _ _ h => (by cases h), fun _ _ h => (by cases h), fun _ _ _ h => (by cases h)⟩
/-! what the outer class counts, takes out, makes anew -/
def us_b (c1 c2 : Nat → Int32) (b : Nat) : Bool := decide (0 < c1 b) || decide (0 < c2 b)
def os_b (c1 c2 : Nat → Int32) (b : Nat) : Bool := decide (0 < c2 b) && !decide (0 < c1 b)
def ct (p : Nat → Bool) : Nat → Nat
  | 0 => 0
  | n + 1 => ct p n + (if p n = true then 1 else 0)
theorem ct_t {p : Nat → Bool} {n : Nat} (h : p n = true) : ct p (n + 1) = ct p n + 1 := by simp [ct, h]
theorem ct_f {p : Nat → Bool} {n : Nat} (h : p n = false) : ct p (n + 1) = ct p n := by simp [ct, h]
theorem ct_le (p : Nat → Bool) : ∀ n, ct p n ≤ n := by
  intro n
  induction n with
  | zero => exact Nat.le_refl _
  | succ n ih => unfold ct; split <;> omega
def tk (home : Nat → Nat) (us : Nat → Bool) (cel pos : Nat → Option Nat) : Nat → ((Nat → Option Nat) × (Nat → Option Nat)) × Nat
  | 0 => ((cel, pos), 0)
  | b + 1 => if us b = true then tk home us cel pos b else match (tk home us cel pos b).1.2 b with
    | none => tk home us cel pos b
    | some hole => (ix_sh home hole 63 1 (va_up (tk home us cel pos b).1.1 hole none, va_up (tk home us cel pos b).1.2 b none), (tk home us cel pos b).2 + 1)
theorem tk_u {home : Nat → Nat} {us : Nat → Bool} {cel pos : Nat → Option Nat} {b : Nat} (h : us b = true) : tk home us cel pos (b + 1) = tk home us cel pos b := by
  rw [tk, if_pos h]
theorem tk_n {home : Nat → Nat} {us : Nat → Bool} {cel pos : Nat → Option Nat} {b : Nat} (h : us b = false) (hp : (tk home us cel pos b).1.2 b = none) : tk home us cel pos (b + 1) = tk home us cel pos b := by
  rw [tk, if_neg (by rw [h]; decide), hp]
theorem tk_s {home : Nat → Nat} {us : Nat → Bool} {cel pos : Nat → Option Nat} {b hole : Nat} (h : us b = false) (hp : (tk home us cel pos b).1.2 b = some hole) : tk home us cel pos (b + 1) = (ix_sh home hole 63 1 (va_up (tk home us cel pos b).1.1 hole none, va_up (tk home us cel pos b).1.2 b none), (tk home us cel pos b).2 + 1) := by
  rw [tk, if_neg (by rw [h]; decide), hp]
theorem tk_T {home : Nat → Nat} {us : Nat → Bool} {cel pos : Nat → Option Nat} (hhm : ∀ b, home b < 64) (hT : ix_T cel pos home) : ∀ b, ix_T (tk home us cel pos b).1.1 (tk home us cel pos b).1.2 home := by
  intro b
  induction b with
  | zero => exact hT
  | succ b ih =>
    cases h : us b with
    | true => rw [tk_u h]; exact ih
    | false =>
      cases hp : (tk home us cel pos b).1.2 b with
      | none => rw [tk_n h hp]; exact ih
      | some hole => rw [tk_s h hp]; exact ix_out ih hhm hp
theorem tk_le {home : Nat → Nat} {us : Nat → Bool} {cel pos : Nat → Option Nat} : ∀ b, (tk home us cel pos b).2 ≤ b := by
  intro b
  induction b with
  | zero => exact Nat.le_refl _
  | succ b ih =>
    cases h : us b with
    | true => rw [tk_u h]; omega
    | false =>
      cases hp : (tk home us cel pos b).1.2 b with
      | none => rw [tk_n h hp]; omega
      | some hole => rw [tk_s h hp]; exact Nat.succ_le_succ ih
def mw (w : Nat → Int32) (us : Nat → Bool) : Nat → ((Nat → Option Nat) × (Nat → Option Nat)) × Int64
  | 0 => ((ix_no, ix_no), 0)
  | b + 1 => if us b = true then ((ix_put (mw w us b).1.1 (hmN w b) b, va_up (mw w us b).1.2 b (some ((hmN w b + ix_s (mw w us b).1.1 (hmN w b)) % 64))), (mw w us b).2 ||| gb_x w (b * 4)) else mw w us b
theorem mw_t {w : Nat → Int32} {us : Nat → Bool} {b : Nat} (h : us b = true) : mw w us (b + 1) = ((ix_put (mw w us b).1.1 (hmN w b) b, va_up (mw w us b).1.2 b (some ((hmN w b + ix_s (mw w us b).1.1 (hmN w b)) % 64))), (mw w us b).2 ||| gb_x w (b * 4)) := by
  rw [mw, if_pos h]
theorem mw_f {w : Nat → Int32} {us : Nat → Bool} {b : Nat} (h : us b = false) : mw w us (b + 1) = mw w us b := by
  rw [mw, if_neg (by rw [h]; decide)]
theorem mw_no {w : Nat → Int32} {us : Nat → Bool} : ∀ b c, b ≤ c → (mw w us b).1.2 c = none := by
  intro b
  induction b with
  | zero => intro c _; rfl
  | succ b ih =>
    intro c hc
    cases h : us b with
    | true =>
      rw [mw_t h]
      show va_up _ b _ c = none
      rw [ix_up_ne (by omega)]
      exact ih c (by omega)
    | false => rw [mw_f h]; exact ih c (by omega)
theorem mw_T {w : Nat → Int32} {us : Nat → Bool} : ∀ b, b ≤ 40 → ix_T (mw w us b).1.1 (mw w us b).1.2 (hmN w) := by
  intro b
  induction b with
  | zero => intro _; exact ix_no_T _
  | succ b ih =>
    intro hb
    cases h : us b with
    | true => rw [mw_t h]; exact ix_in (ih (by omega)) (fun b => hmN_lt w b) (by omega) (mw_no b b (Nat.le_refl _))
    | false => rw [mw_f h]; exact ih (by omega)
/-! all rows of one object made another's -/
def rv (len ent : Nat → Nat) (cnt : Nat → Int32) (l2 e2 : Nat → Nat) : Nat → ((Nat → Nat) × (Nat → Nat)) × (Nat → Int32)
  | 0 => ((len, ent), cnt)
  | j + 1 => ((va_up (rv len ent cnt l2 e2 j).1.1 j (l2 j), rw_cp (rv len ent cnt l2 e2 j).1.2 e2 j j (l2 j)), rw_inc (rw_dec (rv len ent cnt l2 e2 j).2 (rv len ent cnt l2 e2 j).1.2 j 0 ((rv len ent cnt l2 e2 j).1.1 j - 0)) e2 j (l2 j))
theorem rv_len {len ent : Nat → Nat} {cnt : Nat → Int32} {l2 e2 : Nat → Nat} : ∀ j f, j ≤ f → (rv len ent cnt l2 e2 j).1.1 f = len f := by
  intro j
  induction j with
  | zero => intro f _; rfl
  | succ j ih =>
    intro f hf
    show va_up (rv len ent cnt l2 e2 j).1.1 j (l2 j) f = len f
    rw [va_up_ne _ _ (by omega)]
    exact ih f (by omega)
theorem rv_ent {len ent : Nat → Nat} {cnt : Nat → Int32} {l2 e2 : Nat → Nat} (hl : ∀ k, k < 6 → l2 k ≤ 12) : ∀ j q, j ≤ 6 → j * 12 ≤ q → (rv len ent cnt l2 e2 j).1.2 q = ent q := by
  intro j
  induction j with
  | zero => intro q _ _; rfl
  | succ j ih =>
    intro q hj hq
    show rw_cp (rv len ent cnt l2 e2 j).1.2 e2 j j (l2 j) q = ent q
    have := hl j (by omega)
    rw [rw_cp_off _ _ _ _ _ _ (by omega)]
    exact ih q (by omega) (by omega)
def pwi (left done : Int32) : Nat → Int32 × Int32
  | 0 => (left, done)
  | j + 1 => (pw_l (pwi left done j).1, pw_w (pwi left done j).1 (pwi left done j).2)
theorem pw_okd {x : Int32} (h : pw_ok x = true) (d : Bool) : pw_d x d = d := by
  unfold pw_ok at h
  unfold pw_d
  simp at h
  simp [h]
theorem pw_bad {x : Int32} (h : pw_ok x = false) : pw_l x = x ∧ (∀ w, pw_w x w = w) ∧ ∀ d, pw_d x d = true := by
  have h0 : x = 0 := by
    unfold pw_ok at h
    simpa using h
  exact (pw_z h0).2
theorem pwi_7 (left done : Int32) : pwi left done 7 = (pw_l (pwi left done 6).1, pw_w (pwi left done 6).1 (pwi left done 6).2) := rfl
