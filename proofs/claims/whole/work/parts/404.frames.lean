def S_m_clause : List (Nat × Nat) := [(49, 10), (49, 11), (49, 12), (49, 14), (49, 17)]
theorem f_m_clause_161 (N : Nat) : ∀ (w v : aw_W), m_clause_161 N w = some v → fr_ S_m_clause w v := by
  intro w v h
  unfold m_clause_161 at h
  cases h
  exact fr_r S_m_clause w
theorem f_m_clause_134 (N : Nat) : ∀ (x1 x2 x3 : Int) (w v : aw_W), m_clause_134 N x1 x2 x3 w = some v → fr_ S_m_clause w v := by
  intro x1 x2 x3 w v h
  unfold m_clause_134 at h
  by_cases hc : (w 49 11) = (-1)
  · rw [if_pos hc] at h
    by_cases hc : (w 49 17) = 0
    · rw [if_pos hc] at h
      by_cases hc : x1 = (w 49 13)
      · rw [if_pos hc] at h
        by_cases hc : x2 = 0
        · rw [if_pos hc] at h
          exact (fr_r S_m_clause w).trans (f_m_clause_161 N  _ _ h)
        · rw [if_neg hc] at h
          cases h
          exact ((fr_r S_m_clause w).up (by rfl)).up (by rfl)
      · rw [if_neg hc] at h
        exact (fr_r S_m_clause w).trans (f_m_clause_161 N  _ _ h)
    · rw [if_neg hc] at h
      exact (fr_r S_m_clause w).trans (f_m_clause_161 N  _ _ h)
  · rw [if_neg hc] at h
    exact (fr_r S_m_clause w).trans (f_m_clause_161 N  _ _ h)
theorem f_m_clause_64 (N : Nat) : ∀ (x1 : Int) (w v : aw_W), m_clause_64 N x1 w = some v → fr_ S_m_clause w v := by
  intro x1 w v h
  unfold m_clause_64 at h
  obtain ⟨r1, w1, h1, h⟩ := aw_b2s h
  have c1 := (fr_r S_m_clause w).trans (fr_m (by decide) (f_m_condition N _ _ _ _ _ h1))
  obtain ⟨r2, w2, h2, h⟩ := aw_b2s h
  have c2 := (c1).trans (fr_m (by decide) (f_m_takes N _ _ _ _ h2))
  by_cases hc : r2 = 0
  · rw [if_pos hc] at h
    cases h
    exact c2
  · rw [if_neg hc] at h
    obtain ⟨r3, w3, h3, h⟩ := aw_b2s h
    have c3 := (c2).trans (fr_m (by decide) (f_m_sum N _ _ _ h3))
    exact (c3).trans (f_m_clause_134 N  _ _ _ _ _ h)
theorem f_m_clause (N : Nat) : ∀ (w v : aw_W), m_clause N w = some v → fr_ S_m_clause w v := by
  intro w v h
  unfold m_clause at h
  obtain ⟨r1, w1, h1, h⟩ := aw_b2s h
  have c1 := (fr_r S_m_clause w).trans (fr_m (by decide) (f_m_look N _ _ _ h1))
  obtain ⟨r2, w2, h2, h⟩ := aw_b2s h
  have c2 := (c1).trans (fr_m (by decide) (f_m_isAmong N _ _ _ _ h2))
  by_cases hc : r2 = 0
  · rw [if_pos hc] at h
    obtain ⟨r11, w11, h11, h⟩ := aw_b2s h
    have c11 := (c2).trans (fr_m (by decide) (f_m_fails N _ _ _ h11))
    cases h
    exact c11
  · rw [if_neg hc] at h
    obtain ⟨r3, w3, h3, h⟩ := aw_b2s h
    have c3 := ((c2).up (by rfl)).trans (fr_m (by decide) (f_m_takes N _ _ _ _ h3))
    by_cases hc : r3 = 0
    · rw [if_pos hc] at h
      cases h
      exact c3
    · rw [if_neg hc] at h
      obtain ⟨r4, w4, h4, h⟩ := aw_b2s h
      have c4 := (c3).trans (fr_m (by decide) (f_m_look N _ _ _ h4))
      by_cases hc : r4 = 33
      · rw [if_pos hc] at h
        exact (c4).trans (f_m_clause_64 N  _ _ _ h)
      · rw [if_neg hc] at h
        by_cases hc : r4 = 40
        · rw [if_pos hc] at h
          exact (c4).trans (f_m_clause_64 N  _ _ _ h)
        · rw [if_neg hc] at h
          obtain ⟨r5, w5, h5, h⟩ := aw_b2s h
          have c5 := (c4).trans (fr_m (by decide) (f_m_sum N _ _ _ h5))
          by_cases hc : (w5 49 11) = (-1)
          · rw [if_pos hc] at h
            obtain ⟨r6, w6, h6, h⟩ := aw_b2s h
            have c6 := (c5).trans (fr_m (by decide) (f_m_look N _ _ _ h6))
            obtain ⟨r7, w7, h7, h⟩ := aw_b2s h
            have c7 := (c6).trans (fr_m (by decide) (f_m_isSign N _ _ _ _ h7))
            by_cases hc : r7 = 0
            · rw [if_pos hc] at h
              exact (c7).trans (f_m_clause_134 N  _ _ _ _ _ h)
            · rw [if_neg hc] at h
              obtain ⟨r8, w8, h8, h⟩ := aw_b2s h
              have c8 := (c7).trans (fr_m (by decide) (f_m_condition N _ _ _ _ _ h8))
              obtain ⟨r9, w9, h9, h⟩ := aw_b2s h
              have c9 := (c8).trans (fr_m (by decide) (f_m_takes N _ _ _ _ h9))
              by_cases hc : r9 = 0
              · rw [if_pos hc] at h
                cases h
                exact c9
              · rw [if_neg hc] at h
                obtain ⟨r10, w10, h10, h⟩ := aw_b2s h
                have c10 := (c9).trans (fr_m (by decide) (f_m_sum N _ _ _ h10))
                exact (c10).trans (f_m_clause_134 N  _ _ _ _ _ h)
          · rw [if_neg hc] at h
            exact (c5).trans (f_m_clause_134 N  _ _ _ _ _ h)
def S_m_goThrough : List (Nat × Nat) := [(49, 5), (49, 8), (49, 9), (49, 10), (49, 11), (49, 12), (49, 13), (49, 14), (49, 17)]
theorem f_m_goThrough_87 (N : Nat) : ∀ (w v : aw_W), m_goThrough_87 N w = some v → fr_ S_m_goThrough w v := by
  intro w v h
  unfold m_goThrough_87 at h
  cases h
  exact fr_r S_m_goThrough w
theorem f_m_goThrough_66 (N : Nat) : ∀ (w v : aw_W), m_goThrough_66 N w = some v → fr_ S_m_goThrough w v := by
  intro w v h
  unfold m_goThrough_66 at h
  by_cases hc : (w 49 11) = (-1)
  · rw [if_pos hc] at h
    obtain ⟨r1, w1, h1, h⟩ := aw_b2s h
    have c1 := (fr_r S_m_goThrough w).trans (fr_m (by decide) (f_m_look N _ _ _ h1))
    by_cases hc : r1 = (-1)
    · rw [if_pos hc] at h
      exact (c1).trans (f_m_goThrough_87 N  _ _ h)
    · rw [if_neg hc] at h
      obtain ⟨r2, w2, h2, h⟩ := aw_b2s h
      have c2 := (c1).trans (fr_m (by decide) (f_m_fails N _ _ _ h2))
      exact (c2).trans (f_m_goThrough_87 N  _ _ h)
  · rw [if_neg hc] at h
    exact (fr_r S_m_goThrough w).trans (f_m_goThrough_87 N  _ _ h)
theorem f_m_goThrough_32 (N : Nat) : ∀ (n : Nat) (w v : aw_W), m_goThrough_32 N n w = some v → fr_ S_m_goThrough w v := by
  intro n
  induction n with
  | zero => intro w v h; rw [m_goThrough_32] at h; cases h
  | succ n ih =>
    intro w v h
    rw [m_goThrough_32] at h
    by_cases hc : (w 49 11) = (-1)
    · rw [if_pos hc] at h
      obtain ⟨r1, w1, h1, h⟩ := aw_b2s h
      have c1 := (fr_r S_m_goThrough w).trans (fr_m (by decide) (f_m_look N _ _ _ h1))
      by_cases hc : r1 = 59
      · rw [if_pos hc] at h
        obtain ⟨w2, h2, h⟩ := aw_b1s h
        have c2 := ((c1).up (by rfl)).trans (fr_m (by decide) (f_m_clause N _ _ h2))
        exact (c2).trans (ih _ _ h)
      · rw [if_neg hc] at h
        exact (c1).trans (f_m_goThrough_66 N  _ _ h)
    · rw [if_neg hc] at h
      exact (fr_r S_m_goThrough w).trans (f_m_goThrough_66 N  _ _ h)
theorem f_m_goThrough (N : Nat) : ∀ (x2 x3 : Int) (w v : aw_W), m_goThrough N x2 x3 w = some v → fr_ S_m_goThrough w v := by
  intro x2 x3 w v h
  unfold m_goThrough at h
  obtain ⟨w1, h1, h⟩ := aw_b1s h
  have c1 := (fr_r S_m_goThrough w).trans (fr_m (by decide) (f_m_opens N _ _ _ _ h1))
  obtain ⟨w2, h2, h⟩ := aw_b1s h
  have c2 := (((((c1).up (by rfl)).up (by rfl)).up (by rfl)).up (by rfl)).trans (fr_m (by decide) (f_m_clause N _ _ h2))
  exact (c2).trans (f_m_goThrough_32 N  N _ _ h)
def S_m_stepOf : List (Nat × Nat) := [(49, 5), (49, 8), (49, 9), (49, 10), (49, 11), (49, 12), (49, 13), (49, 14), (49, 17), (53, 1000000)]
theorem f_m_stepOf_18 (N : Nat) : ∀ (w : aw_W) (y : Int) (v : aw_W), m_stepOf_18 N w = some (y, v) → fr_ S_m_stepOf w v := by
  intro w y v h
  unfold m_stepOf_18 at h
  cases h
  exact fr_r S_m_stepOf w
theorem f_m_stepOf_124 (N : Nat) : ∀ (x1 x2 x3 x4 x5 x6 x7 : Int) (w : aw_W) (y : Int) (v : aw_W), m_stepOf_124 N x1 x2 x3 x4 x5 x6 x7 w = some (y, v) → fr_ S_m_stepOf w v := by
  intro x1 x2 x3 x4 x5 x6 x7 w y v h
  unfold m_stepOf_124 at h
  obtain ⟨r1, w1, h1, h⟩ := aw_b2s h
  have c1 := (fr_r S_m_stepOf w).trans (fr_m (by decide) (f_m_goneBy N _ _ _ _ _ h1))
  obtain ⟨_, h⟩ := aw_cks h
  obtain ⟨_, h⟩ := aw_cks h
  obtain ⟨_, h⟩ := aw_cks h
  obtain ⟨w2, h2, h⟩ := aw_b1s h
  have c2 := (((((((c1).upA (by rfl)).upA (by rfl)).upA (by rfl)).upA (by rfl)).upA (by rfl)).upA (by rfl)).trans (fr_m (by decide) (f_m_goThrough N _ _ _ _ h2))
  obtain ⟨_, h⟩ := aw_cks h
  cases h
  exact c2
theorem f_m_stepOf_115 (N : Nat) (k32 : Int → Int → Int → Int → Int → Int → Int → Int → aw_W → Option (Int × aw_W)) (hk32 : ∀ (x1 x2 x3 x4 x5 x6 x7 x8 : Int) (w : aw_W) (y : Int) (v : aw_W), k32 x1 x2 x3 x4 x5 x6 x7 x8 w = some (y, v) → fr_ S_m_stepOf w v) : ∀ (x1 x2 x3 x4 x5 x7 x8 s0 s1 : Int) (w : aw_W) (y : Int) (v : aw_W), m_stepOf_115 N k32 x1 x2 x3 x4 x5 x7 x8 s0 s1 w = some (y, v) → fr_ S_m_stepOf w v := by
  intro x1 x2 x3 x4 x5 x7 x8 s0 s1 w y v h
  unfold m_stepOf_115 at h
  exact (fr_r S_m_stepOf w).trans (hk32 _ _ _ _ _ _ _ _ _ _ _ h)
theorem f_m_stepOf_87 (N : Nat) (k32 : Int → Int → Int → Int → Int → Int → Int → Int → aw_W → Option (Int × aw_W)) (hk32 : ∀ (x1 x2 x3 x4 x5 x6 x7 x8 : Int) (w : aw_W) (y : Int) (v : aw_W), k32 x1 x2 x3 x4 x5 x6 x7 x8 w = some (y, v) → fr_ S_m_stepOf w v) : ∀ (x1 x2 x3 x4 x6 x7 x8 s0 s1 : Int) (w : aw_W) (y : Int) (v : aw_W), m_stepOf_87 N k32 x1 x2 x3 x4 x6 x7 x8 s0 s1 w = some (y, v) → fr_ S_m_stepOf w v := by
  intro x1 x2 x3 x4 x6 x7 x8 s0 s1 w y v h
  unfold m_stepOf_87 at h
  obtain ⟨r1, w1, h1, h⟩ := aw_b2s h
  have c1 := (fr_r S_m_stepOf w).trans (fr_m (by decide) (f_m_goneBy N _ _ _ _ _ h1))
  obtain ⟨r2, w2, h2, h⟩ := aw_b2s h
  have c2 := (c1).trans (fr_m (by decide) (f_m_goneBy N _ _ _ _ _ h2))
  by_cases hc : r2 ≤ r1
  · rw [if_pos hc] at h
    exact (c2).trans (f_m_stepOf_115 N  _ hk32 _ _ _ _ _ _ _ _ _ _ _ _ h)
  · rw [if_neg hc] at h
    exact (c2).trans (f_m_stepOf_115 N  _ hk32 _ _ _ _ _ _ _ _ _ _ _ _ h)
theorem f_m_stepOf_59 (N : Nat) (k32 : Int → Int → Int → Int → Int → Int → Int → Int → aw_W → Option (Int × aw_W)) (hk32 : ∀ (x1 x2 x3 x4 x5 x6 x7 x8 : Int) (w : aw_W) (y : Int) (v : aw_W), k32 x1 x2 x3 x4 x5 x6 x7 x8 w = some (y, v) → fr_ S_m_stepOf w v) : ∀ (x1 x2 x3 x4 x5 x6 x8 s0 s1 : Int) (w : aw_W) (y : Int) (v : aw_W), m_stepOf_59 N k32 x1 x2 x3 x4 x5 x6 x8 s0 s1 w = some (y, v) → fr_ S_m_stepOf w v := by
  intro x1 x2 x3 x4 x5 x6 x8 s0 s1 w y v h
  unfold m_stepOf_59 at h
  obtain ⟨r1, w1, h1, h⟩ := aw_b2s h
  have c1 := (fr_r S_m_stepOf w).trans (fr_m (by decide) (f_m_goneBy N _ _ _ _ _ h1))
  obtain ⟨r2, w2, h2, h⟩ := aw_b2s h
  have c2 := (c1).trans (fr_m (by decide) (f_m_goneBy N _ _ _ _ _ h2))
  by_cases hc : r1 ≤ r2
  · rw [if_pos hc] at h
    exact (c2).trans (f_m_stepOf_87 N  _ hk32 _ _ _ _ _ _ _ _ _ _ _ _ h)
  · rw [if_neg hc] at h
    exact (c2).trans (f_m_stepOf_87 N  _ hk32 _ _ _ _ _ _ _ _ _ _ _ _ h)
theorem f_m_stepOf_32 (N : Nat) : ∀ (n : Nat) (x1 x2 x3 x4 x5 x6 x7 x8 : Int) (w : aw_W) (y : Int) (v : aw_W), m_stepOf_32 N n x1 x2 x3 x4 x5 x6 x7 x8 w = some (y, v) → fr_ S_m_stepOf w v := by
  intro n
  induction n with
  | zero => intro x1 x2 x3 x4 x5 x6 x7 x8 w y v h; rw [m_stepOf_32] at h; cases h
  | succ n ih =>
    intro x1 x2 x3 x4 x5 x6 x7 x8 w y v h
    rw [m_stepOf_32] at h
    by_cases hc : (w 49 22) ≤ x8
    · rw [if_pos hc] at h
      exact (fr_r S_m_stepOf w).trans (f_m_stepOf_124 N  _ _ _ _ _ _ _ _ _ _ h)
    · rw [if_neg hc] at h
      obtain ⟨_, h⟩ := aw_cks h
      by_cases hc : (w 62 x8.toNat) = (-1)
      · rw [if_pos hc] at h
        exact (fr_r S_m_stepOf w).trans (f_m_stepOf_59 N  _ ih _ _ _ _ _ _ _ _ _ _ _ _ h)
      · rw [if_neg hc] at h
        exact (fr_r S_m_stepOf w).trans (f_m_stepOf_59 N  _ ih _ _ _ _ _ _ _ _ _ _ _ _ h)
theorem f_m_stepOf (N : Nat) : ∀ (x1 x2 x3 x4 : Int) (w : aw_W) (y : Int) (v : aw_W), m_stepOf N x1 x2 x3 x4 w = some (y, v) → fr_ S_m_stepOf w v := by
  intro x1 x2 x3 x4 w y v h
  unfold m_stepOf at h
  obtain ⟨_, h⟩ := aw_cks h
  by_cases hc : (w 58 x1.toNat) = (-1)
  · rw [if_pos hc] at h
    exact (fr_r S_m_stepOf w).trans (f_m_stepOf_18 N  _ _ _ h)
  · rw [if_neg hc] at h
    by_cases hc : x1 = (w 49 32)
    · rw [if_pos hc] at h
      exact (fr_r S_m_stepOf w).trans (f_m_stepOf_18 N  _ _ _ h)
    · rw [if_neg hc] at h
      exact (fr_r S_m_stepOf w).trans (f_m_stepOf_32 N  N _ _ _ _ _ _ _ _ _ _ _ h)
def S_m_run : List (Nat × Nat) := [(49, 5), (49, 8), (49, 9), (49, 10), (49, 11), (49, 12), (49, 13), (49, 14), (49, 17), (49, 31), (53, 1000000), (59, 1000000), (60, 1000000), (61, 1000000), (62, 1000000), (63, 1000000)]
theorem f_m_run_284 (N : Nat) : ∀ (w v : aw_W), m_run_284 N w = some v → fr_ S_m_run w v := by
  intro w v h
  unfold m_run_284 at h
  cases h
  exact fr_r S_m_run w
theorem f_m_run_262 (N : Nat) (k231 : Int → aw_W → Option (aw_W)) (hk231 : ∀ (x4 : Int) (w v : aw_W), k231 x4 w = some v → fr_ S_m_run w v) : ∀ (x4 s0 s1 : Int) (w v : aw_W), m_run_262 N k231 x4 s0 s1 w = some v → fr_ S_m_run w v := by
  intro x4 s0 s1 w v h
  unfold m_run_262 at h
  obtain ⟨_, h⟩ := aw_cks h
  obtain ⟨_, h⟩ := aw_cks h
  obtain ⟨_, h⟩ := aw_cks h
  obtain ⟨_, h⟩ := aw_cks h
  exact (((fr_r S_m_run w).upA (by rfl)).upA (by rfl)).trans (hk231 _ _ _ h)
theorem f_m_run_231 (N : Nat) : ∀ (n : Nat) (x4 : Int) (w v : aw_W), m_run_231 N n x4 w = some v → fr_ S_m_run w v := by
  intro n
  induction n with
  | zero => intro x4 w v h; rw [m_run_231] at h; cases h
  | succ n ih =>
    intro x4 w v h
    rw [m_run_231] at h
    by_cases hc : (w 49 22) ≤ x4
    · rw [if_pos hc] at h
      exact (fr_r S_m_run w).trans (f_m_run_284 N  _ _ h)
    · rw [if_neg hc] at h
      obtain ⟨_, h⟩ := aw_cks h
      by_cases hc : (w 62 x4.toNat) = (-1)
      · rw [if_pos hc] at h
        exact (fr_r S_m_run w).trans (f_m_run_262 N  _ ih _ _ _ _ _ h)
      · rw [if_neg hc] at h
        exact (fr_r S_m_run w).trans (f_m_run_262 N  _ ih _ _ _ _ _ h)
theorem f_m_run_228 (N : Nat) : ∀ (w v : aw_W), m_run_228 N w = some v → fr_ S_m_run w v := by
  intro w v h
  unfold m_run_228 at h
  exact (fr_r S_m_run w).trans (f_m_run_231 N  N _ _ _ h)
theorem f_m_run_222 (N : Nat) (k42 : Int → Int → Int → Int → aw_W → Option (aw_W)) (hk42 : ∀ (x1 x2 x3 x4 : Int) (w v : aw_W), k42 x1 x2 x3 x4 w = some v → fr_ S_m_run w v) : ∀ (x1 x2 x3 x4 : Int) (w v : aw_W), m_run_222 N k42 x1 x2 x3 x4 w = some v → fr_ S_m_run w v := by
  intro x1 x2 x3 x4 w v h
  unfold m_run_222 at h
  exact (fr_r S_m_run w).trans (hk42 _ _ _ _ _ _ h)
theorem f_m_run_216 (N : Nat) (k42 : Int → Int → Int → Int → aw_W → Option (aw_W)) (hk42 : ∀ (x1 x2 x3 x4 : Int) (w v : aw_W), k42 x1 x2 x3 x4 w = some v → fr_ S_m_run w v) (k132 : Int → Int → Int → Int → Int → aw_W → Option (aw_W)) (hk132 : ∀ (x1 x2 x3 x4 x6 : Int) (w v : aw_W), k132 x1 x2 x3 x4 x6 w = some v → fr_ S_m_run w v) : ∀ (x1 x2 x3 x4 x6 : Int) (w v : aw_W), m_run_216 N k42 k132 x1 x2 x3 x4 x6 w = some v → fr_ S_m_run w v := by
  intro x1 x2 x3 x4 x6 w v h
  unfold m_run_216 at h
  exact (fr_r S_m_run w).trans (hk132 _ _ _ _ _ _ _ h)
theorem f_m_run_132 (N : Nat) (k42 : Int → Int → Int → Int → aw_W → Option (aw_W)) (hk42 : ∀ (x1 x2 x3 x4 : Int) (w v : aw_W), k42 x1 x2 x3 x4 w = some v → fr_ S_m_run w v) : ∀ (n : Nat) (x1 x2 x3 x4 x6 : Int) (w v : aw_W), m_run_132 N k42 n x1 x2 x3 x4 x6 w = some v → fr_ S_m_run w v := by
  intro n
  induction n with
  | zero => intro x1 x2 x3 x4 x6 w v h; rw [m_run_132] at h; cases h
  | succ n ih =>
    intro x1 x2 x3 x4 x6 w v h
    rw [m_run_132] at h
    by_cases hc : (w 49 22) ≤ x6
    · rw [if_pos hc] at h
      exact (fr_r S_m_run w).trans (f_m_run_222 N  _ hk42 _ _ _ _ _ _ h)
    · rw [if_neg hc] at h
      obtain ⟨r1, w1, h1, h⟩ := aw_b2s h
      have c1 := (fr_r S_m_run w).trans (fr_m (by decide) (f_m_goneBy N _ _ _ _ _ h1))
      obtain ⟨_, h⟩ := aw_cks h
      obtain ⟨_, h⟩ := aw_cks h
      obtain ⟨_, h⟩ := aw_cks h
      by_cases hc : (w1 62 x6.toNat) = (-1)
      · rw [if_pos hc] at h
        obtain ⟨r2, w2, h2, h⟩ := aw_b2s h
        have c2 := ((c1).upA (by rfl)).trans (fr_m (by decide) (f_m_goneBy N _ _ _ _ _ h2))
        by_cases hc : x1 ≤ r2
        · rw [if_pos hc] at h
          obtain ⟨_, h⟩ := aw_cks h
          exact ((c2).upA (by rfl)).trans (f_m_run_216 N  _ hk42 _ ih _ _ _ _ _ _ _ h)
        · rw [if_neg hc] at h
          exact (c2).trans (f_m_run_216 N  _ hk42 _ ih _ _ _ _ _ _ _ h)
      · rw [if_neg hc] at h
        exact ((c1).upA (by rfl)).trans (f_m_run_216 N  _ hk42 _ ih _ _ _ _ _ _ _ h)
theorem f_m_run_129 (N : Nat) (k42 : Int → Int → Int → Int → aw_W → Option (aw_W)) (hk42 : ∀ (x1 x2 x3 x4 : Int) (w v : aw_W), k42 x1 x2 x3 x4 w = some v → fr_ S_m_run w v) : ∀ (x1 x2 x3 x4 : Int) (w v : aw_W), m_run_129 N k42 x1 x2 x3 x4 w = some v → fr_ S_m_run w v := by
  intro x1 x2 x3 x4 w v h
  unfold m_run_129 at h
  exact (fr_r S_m_run w).trans (f_m_run_132 N  _ hk42 N _ _ _ _ _ _ _ h)
theorem f_m_run_122 (N : Nat) (k42 : Int → Int → Int → Int → aw_W → Option (aw_W)) (hk42 : ∀ (x1 x2 x3 x4 : Int) (w v : aw_W), k42 x1 x2 x3 x4 w = some v → fr_ S_m_run w v) (k77 : Int → Int → Int → Int → Int → Int → aw_W → Option (aw_W)) (hk77 : ∀ (x1 x2 x3 x4 x5 x6 : Int) (w v : aw_W), k77 x1 x2 x3 x4 x5 x6 w = some v → fr_ S_m_run w v) : ∀ (x1 x2 x3 x4 x5 x6 s0 s1 : Int) (w v : aw_W), m_run_122 N k42 k77 x1 x2 x3 x4 x5 x6 s0 s1 w = some v → fr_ S_m_run w v := by
  intro x1 x2 x3 x4 x5 x6 s0 s1 w v h
  unfold m_run_122 at h
  obtain ⟨_, h⟩ := aw_cks h
  exact ((fr_r S_m_run w).upA (by rfl)).trans (hk77 _ _ _ _ _ _ _ _ h)
theorem f_m_run_121 (N : Nat) (k42 : Int → Int → Int → Int → aw_W → Option (aw_W)) (hk42 : ∀ (x1 x2 x3 x4 : Int) (w v : aw_W), k42 x1 x2 x3 x4 w = some v → fr_ S_m_run w v) (k77 : Int → Int → Int → Int → Int → Int → aw_W → Option (aw_W)) (hk77 : ∀ (x1 x2 x3 x4 x5 x6 : Int) (w v : aw_W), k77 x1 x2 x3 x4 x5 x6 w = some v → fr_ S_m_run w v) : ∀ (x1 x2 x3 x4 x5 x6 s0 : Int) (w v : aw_W), m_run_121 N k42 k77 x1 x2 x3 x4 x5 x6 s0 w = some v → fr_ S_m_run w v := by
  intro x1 x2 x3 x4 x5 x6 s0 w v h
  unfold m_run_121 at h
  exact (fr_r S_m_run w).trans (f_m_run_122 N  _ hk42 _ hk77 _ _ _ _ _ _ _ _ _ _ h)
theorem f_m_run_77 (N : Nat) (k42 : Int → Int → Int → Int → aw_W → Option (aw_W)) (hk42 : ∀ (x1 x2 x3 x4 : Int) (w v : aw_W), k42 x1 x2 x3 x4 w = some v → fr_ S_m_run w v) : ∀ (n : Nat) (x1 x2 x3 x4 x5 x6 : Int) (w v : aw_W), m_run_77 N k42 n x1 x2 x3 x4 x5 x6 w = some v → fr_ S_m_run w v := by
  intro n
  induction n with
  | zero => intro x1 x2 x3 x4 x5 x6 w v h; rw [m_run_77] at h; cases h
  | succ n ih =>
    intro x1 x2 x3 x4 x5 x6 w v h
    rw [m_run_77] at h
    by_cases hc : (w 49 22) ≤ x6
    · rw [if_pos hc] at h
      exact (fr_r S_m_run w).trans (f_m_run_129 N  _ hk42 _ _ _ _ _ _ h)
    · rw [if_neg hc] at h
      by_cases hc : x5 = 0
      · rw [if_pos hc] at h
        exact (fr_r S_m_run w).trans (f_m_run_121 N  _ hk42 _ ih _ _ _ _ _ _ _ _ _ h)
      · rw [if_neg hc] at h
        obtain ⟨_, h⟩ := aw_cks h
        by_cases hc : (w 62 x6.toNat) = (-1)
        · rw [if_pos hc] at h
          obtain ⟨r1, w1, h1, h⟩ := aw_b2s h
          have c1 := (fr_r S_m_run w).trans (fr_m (by decide) (f_m_stepOf N _ _ _ _ _ _ _ h1))
          exact (c1).trans (f_m_run_122 N  _ hk42 _ ih _ _ _ _ _ _ _ _ _ _ h)
        · rw [if_neg hc] at h
          exact (fr_r S_m_run w).trans (f_m_run_121 N  _ hk42 _ ih _ _ _ _ _ _ _ _ _ h)
theorem f_m_run_74 (N : Nat) (k42 : Int → Int → Int → Int → aw_W → Option (aw_W)) (hk42 : ∀ (x1 x2 x3 x4 : Int) (w v : aw_W), k42 x1 x2 x3 x4 w = some v → fr_ S_m_run w v) : ∀ (x1 x2 x3 x4 x5 : Int) (w v : aw_W), m_run_74 N k42 x1 x2 x3 x4 x5 w = some v → fr_ S_m_run w v := by
  intro x1 x2 x3 x4 x5 w v h
  unfold m_run_74 at h
  exact (fr_r S_m_run w).trans (f_m_run_77 N  _ hk42 N _ _ _ _ _ _ _ _ h)
theorem f_m_run_61 (N : Nat) (k42 : Int → Int → Int → Int → aw_W → Option (aw_W)) (hk42 : ∀ (x1 x2 x3 x4 : Int) (w v : aw_W), k42 x1 x2 x3 x4 w = some v → fr_ S_m_run w v) : ∀ (x1 x2 x3 x4 s0 : Int) (w v : aw_W), m_run_61 N k42 x1 x2 x3 x4 s0 w = some v → fr_ S_m_run w v := by
  intro x1 x2 x3 x4 s0 w v h
  unfold m_run_61 at h
  by_cases hc : s0 = 0
  · rw [if_pos hc] at h
    exact (fr_r S_m_run w).trans (f_m_run_74 N  _ hk42 _ _ _ _ _ _ _ h)
  · rw [if_neg hc] at h
    exact ((fr_r S_m_run w).up (by rfl)).trans (f_m_run_74 N  _ hk42 _ _ _ _ _ _ _ h)
theorem f_m_run_42 (N : Nat) : ∀ (n : Nat) (x1 x2 x3 x4 : Int) (w v : aw_W), m_run_42 N n x1 x2 x3 x4 w = some v → fr_ S_m_run w v := by
  intro n
  induction n with
  | zero => intro x1 x2 x3 x4 w v h; rw [m_run_42] at h; cases h
  | succ n ih =>
    intro x1 x2 x3 x4 w v h
    rw [m_run_42] at h
    by_cases hc : x2 ≤ x4
    · rw [if_pos hc] at h
      exact (fr_r S_m_run w).trans (f_m_run_228 N  _ _ h)
    · rw [if_neg hc] at h
      by_cases hc : (w 49 22) ≤ x3
      · rw [if_pos hc] at h
        exact (fr_r S_m_run w).trans (f_m_run_61 N  _ ih _ _ _ _ _ _ _ h)
      · rw [if_neg hc] at h
        exact (fr_r S_m_run w).trans (f_m_run_61 N  _ ih _ _ _ _ _ _ _ h)
theorem f_m_run_39 (N : Nat) : ∀ (x1 x2 x3 : Int) (w v : aw_W), m_run_39 N x1 x2 x3 w = some v → fr_ S_m_run w v := by
  intro x1 x2 x3 w v h
  unfold m_run_39 at h
  exact (fr_r S_m_run w).trans (f_m_run_42 N  N _ _ _ _ _ _ h)
theorem f_m_run_10 (N : Nat) : ∀ (n : Nat) (x1 x2 x3 x4 : Int) (w v : aw_W), m_run_10 N n x1 x2 x3 x4 w = some v → fr_ S_m_run w v := by
  intro n
  induction n with
  | zero => intro x1 x2 x3 x4 w v h; rw [m_run_10] at h; cases h
  | succ n ih =>
    intro x1 x2 x3 x4 w v h
    rw [m_run_10] at h
    by_cases hc : 6 ≤ x4
    · rw [if_pos hc] at h
      exact (fr_r S_m_run w).trans (f_m_run_39 N  _ _ _ _ _ h)
    · rw [if_neg hc] at h
      obtain ⟨_, h⟩ := aw_cks h
      obtain ⟨_, h⟩ := aw_cks h
      exact (((fr_r S_m_run w).upA (by rfl)).upA (by rfl)).trans (ih _ _ _ _ _ _ h)
theorem f_m_run (N : Nat) : ∀ (x1 x2 : Int) (w v : aw_W), m_run N x1 x2 w = some v → fr_ S_m_run w v := by
  intro x1 x2 w v h
  unfold m_run at h
  exact ((fr_r S_m_run w).up (by rfl)).trans (f_m_run_10 N  N _ _ _ _ _ _ h)
def S_m_came : List (Nat × Nat) := [(49, 0), (49, 5), (49, 8), (49, 9), (49, 10), (49, 11), (49, 12), (49, 13), (49, 14), (49, 17), (49, 31), (53, 1000000), (59, 1000000), (60, 1000000), (61, 1000000), (62, 1000000), (63, 1000000)]
theorem f_m_came_22 (N : Nat) : ∀ (w : aw_W) (y : Int) (v : aw_W), m_came_22 N w = some (y, v) → fr_ S_m_came w v := by
  intro w y v h
  unfold m_came_22 at h
  cases h
  exact fr_r S_m_came w
theorem f_m_came (N : Nat) : ∀ (x1 x2 x3 : Int) (w : aw_W) (y : Int) (v : aw_W), m_came N x1 x2 x3 w = some (y, v) → fr_ S_m_came w v := by
  intro x1 x2 x3 w y v h
  unfold m_came at h
  obtain ⟨r1, w1, h1, h⟩ := aw_b2s h
  have c1 := ((fr_r S_m_came w).up (by rfl)).trans (fr_m (by decide) (f_m_isRace N _ _ _ _ _ h1))
  by_cases hc : r1 = 0
  · rw [if_pos hc] at h
    exact (c1).trans (f_m_came_22 N  _ _ _ h)
  · rw [if_neg hc] at h
    obtain ⟨r2, w2, h2, h⟩ := aw_b2s h
    have c2 := (c1).trans (fr_m (by decide) (f_m_isStriver N _ _ _ _ h2))
    by_cases hc : r2 = 0
    · rw [if_pos hc] at h
      exact (c2).trans (f_m_came_22 N  _ _ _ h)
    · rw [if_neg hc] at h
      obtain ⟨w3, h3, h⟩ := aw_b1s h
      have c3 := (c2).trans (fr_m (by decide) (f_m_run N _ _ _ _ h3))
      obtain ⟨_, h⟩ := aw_cks h
      cases h
      exact c3
def S_m_leastOf : List (Nat × Nat) := []
theorem f_m_leastOf_9 (N : Nat) : ∀ (s0 : Int) (w : aw_W) (y : Int) (v : aw_W), m_leastOf_9 N s0 w = some (y, v) → fr_ S_m_leastOf w v := by
  intro s0 w y v h
  unfold m_leastOf_9 at h
  cases h
  exact fr_r S_m_leastOf w
theorem f_m_leastOf (N : Nat) : ∀ (x0 x1 : Int) (w : aw_W) (y : Int) (v : aw_W), m_leastOf N x0 x1 w = some (y, v) → fr_ S_m_leastOf w v := by
  intro x0 x1 w y v h
  unfold m_leastOf at h
  by_cases hc : x1 = 0
  · rw [if_pos hc] at h
    exact (fr_r S_m_leastOf w).trans (f_m_leastOf_9 N  _ _ _ _ h)
  · rw [if_neg hc] at h
    exact (fr_r S_m_leastOf w).trans (f_m_leastOf_9 N  _ _ _ _ h)
def S_m_mostOf : List (Nat × Nat) := []
theorem f_m_mostOf_74 (N : Nat) : ∀ (s0 : Int) (w : aw_W) (y : Int) (v : aw_W), m_mostOf_74 N s0 w = some (y, v) → fr_ S_m_mostOf w v := by
  intro s0 w y v h
  unfold m_mostOf_74 at h
  cases h
  exact fr_r S_m_mostOf w
theorem f_m_mostOf_43 (N : Nat) : ∀ (s0 : Int) (w : aw_W) (y : Int) (v : aw_W), m_mostOf_43 N s0 w = some (y, v) → fr_ S_m_mostOf w v := by
  intro s0 w y v h
  unfold m_mostOf_43 at h
  cases h
  exact fr_r S_m_mostOf w
theorem f_m_mostOf (N : Nat) : ∀ (x0 x1 : Int) (w : aw_W) (y : Int) (v : aw_W), m_mostOf N x0 x1 w = some (y, v) → fr_ S_m_mostOf w v := by
  intro x0 x1 w y v h
  unfold m_mostOf at h
  by_cases hc : x0 = 0
  · rw [if_pos hc] at h
    by_cases hc : x1 = 0
    · rw [if_pos hc] at h
      exact (fr_r S_m_mostOf w).trans (f_m_mostOf_74 N  _ _ _ _ h)
    · rw [if_neg hc] at h
      by_cases hc : x1 = 1
      · rw [if_pos hc] at h
        exact (fr_r S_m_mostOf w).trans (f_m_mostOf_74 N  _ _ _ _ h)
      · rw [if_neg hc] at h
        by_cases hc : x1 = 2
        · rw [if_pos hc] at h
          exact (fr_r S_m_mostOf w).trans (f_m_mostOf_74 N  _ _ _ _ h)
        · rw [if_neg hc] at h
          exact (fr_r S_m_mostOf w).trans (f_m_mostOf_74 N  _ _ _ _ h)
  · rw [if_neg hc] at h
    by_cases hc : x1 = 0
    · rw [if_pos hc] at h
      exact (fr_r S_m_mostOf w).trans (f_m_mostOf_43 N  _ _ _ _ h)
    · rw [if_neg hc] at h
      by_cases hc : x1 = 1
      · rw [if_pos hc] at h
        exact (fr_r S_m_mostOf w).trans (f_m_mostOf_43 N  _ _ _ _ h)
      · rw [if_neg hc] at h
        by_cases hc : x1 = 2
        · rw [if_pos hc] at h
          exact (fr_r S_m_mostOf w).trans (f_m_mostOf_43 N  _ _ _ _ h)
        · rw [if_neg hc] at h
          by_cases hc : x1 = 3
          · rw [if_pos hc] at h
            exact (fr_r S_m_mostOf w).trans (f_m_mostOf_43 N  _ _ _ _ h)
          · rw [if_neg hc] at h
            exact (fr_r S_m_mostOf w).trans (f_m_mostOf_43 N  _ _ _ _ h)
def S_m_change : List (Nat × Nat) := [(49, 0), (56, 1000000)]
theorem f_m_change_44 (N : Nat) : ∀ (w : aw_W) (y : Int) (v : aw_W), m_change_44 N w = some (y, v) → fr_ S_m_change w v := by
  intro w y v h
  unfold m_change_44 at h
  cases h
  exact fr_r S_m_change w
theorem f_m_change (N : Nat) : ∀ (x1 x2 : Int) (w : aw_W) (y : Int) (v : aw_W), m_change N x1 x2 w = some (y, v) → fr_ S_m_change w v := by
  intro x1 x2 w y v h
  unfold m_change at h
  by_cases hc : (w 49 22) = 0
  · rw [if_pos hc] at h
    exact ((fr_r S_m_change w).up (by rfl)).trans (f_m_change_44 N  _ _ _ h)
  · rw [if_neg hc] at h
    obtain ⟨r1, w1, h1, h⟩ := aw_b2s h
    have c1 := ((fr_r S_m_change w).up (by rfl)).trans (fr_m (by decide) (f_m_isIn N _ _ _ _ _ _ h1))
    by_cases hc : r1 = 0
    · rw [if_pos hc] at h
      exact (c1).trans (f_m_change_44 N  _ _ _ h)
    · rw [if_neg hc] at h
      obtain ⟨r2, w2, h2, h⟩ := aw_b2s h
      have c2 := (c1).trans (fr_m (by decide) (f_m_leastOf N _ _ _ _ _ h2))
      obtain ⟨r3, w3, h3, h⟩ := aw_b2s h
      have c3 := (c2).trans (fr_m (by decide) (f_m_mostOf N _ _ _ _ _ h3))
      obtain ⟨r4, w4, h4, h⟩ := aw_b2s h
      have c4 := (c3).trans (fr_m (by decide) (f_m_isIn N _ _ _ _ _ _ h4))
      by_cases hc : r4 = 0
      · rw [if_pos hc] at h
        exact (c4).trans (f_m_change_44 N  _ _ _ h)
      · rw [if_neg hc] at h
        obtain ⟨_, h⟩ := aw_cks h
        cases h
        exact (c4).upA (by rfl)
def S_m_hasBy : List (Nat × Nat) := [(59, 1000000), (60, 1000000), (64, 1000000)]
theorem f_m_hasBy_31 (N : Nat) : ∀ (x1 x3 s0 : Int) (w : aw_W) (y : Int) (v : aw_W), m_hasBy_31 N x1 x3 s0 w = some (y, v) → fr_ S_m_hasBy w v := by
  intro x1 x3 s0 w y v h
  unfold m_hasBy_31 at h
  obtain ⟨_, h⟩ := aw_cks h
  obtain ⟨_, h⟩ := aw_cks h
  cases h
  exact (fr_r S_m_hasBy w).upA (by rfl)
theorem f_m_hasBy (N : Nat) : ∀ (x1 x2 : Int) (w : aw_W) (y : Int) (v : aw_W), m_hasBy N x1 x2 w = some (y, v) → fr_ S_m_hasBy w v := by
  intro x1 x2 w y v h
  unfold m_hasBy at h
  obtain ⟨_, h⟩ := aw_cks h
  obtain ⟨_, h⟩ := aw_cks h
  obtain ⟨w1, h1, h⟩ := aw_b1s h
  have c1 := ((fr_r S_m_hasBy w).upA (by rfl)).trans (fr_m (by decide) (f_m_judge N _ _ h1))
  obtain ⟨r2, w2, h2, h⟩ := aw_b2s h
  have c2 := (c1).trans (fr_m (by decide) (f_m_winner N _ _ _ h2))
  by_cases hc : r2 = x1
  · rw [if_pos hc] at h
    exact (c2).trans (f_m_hasBy_31 N  _ _ _ _ _ _ h)
  · rw [if_neg hc] at h
    exact (c2).trans (f_m_hasBy_31 N  _ _ _ _ _ _ h)
def S_m_changes : List (Nat × Nat) := [(49, 0), (59, 1000000), (60, 1000000), (64, 1000000)]
theorem f_m_changes_20 (N : Nat) : ∀ (w : aw_W) (y : Int) (v : aw_W), m_changes_20 N w = some (y, v) → fr_ S_m_changes w v := by
  intro w y v h
  unfold m_changes_20 at h
  cases h
  exact fr_r S_m_changes w
theorem f_m_changes_115 (N : Nat) : ∀ (x2 : Int) (w : aw_W) (y : Int) (v : aw_W), m_changes_115 N x2 w = some (y, v) → fr_ S_m_changes w v := by
  intro x2 w y v h
  unfold m_changes_115 at h
  cases h
  exact fr_r S_m_changes w
theorem f_m_changes_109 (N : Nat) (k26 : Int → Int → aw_W → Option (Int × aw_W)) (hk26 : ∀ (x2 x3 : Int) (w : aw_W) (y : Int) (v : aw_W), k26 x2 x3 w = some (y, v) → fr_ S_m_changes w v) : ∀ (x2 x3 : Int) (w : aw_W) (y : Int) (v : aw_W), m_changes_109 N k26 x2 x3 w = some (y, v) → fr_ S_m_changes w v := by
  intro x2 x3 w y v h
  unfold m_changes_109 at h
  exact (fr_r S_m_changes w).trans (hk26 _ _ _ _ _ h)
theorem f_m_changes_107 (N : Nat) (k26 : Int → Int → aw_W → Option (Int × aw_W)) (hk26 : ∀ (x2 x3 : Int) (w : aw_W) (y : Int) (v : aw_W), k26 x2 x3 w = some (y, v) → fr_ S_m_changes w v) : ∀ (x3 s0 s1 : Int) (w : aw_W) (y : Int) (v : aw_W), m_changes_107 N k26 x3 s0 s1 w = some (y, v) → fr_ S_m_changes w v := by
  intro x3 s0 s1 w y v h
  unfold m_changes_107 at h
  exact (fr_r S_m_changes w).trans (f_m_changes_109 N  _ hk26 _ _ _ _ _ h)
theorem f_m_changes_96 (N : Nat) (k26 : Int → Int → aw_W → Option (Int × aw_W)) (hk26 : ∀ (x2 x3 : Int) (w : aw_W) (y : Int) (v : aw_W), k26 x2 x3 w = some (y, v) → fr_ S_m_changes w v) : ∀ (x2 x3 x4 : Int) (w : aw_W) (y : Int) (v : aw_W), m_changes_96 N k26 x2 x3 x4 w = some (y, v) → fr_ S_m_changes w v := by
  intro x2 x3 x4 w y v h
  unfold m_changes_96 at h
  by_cases hc : x4 = 0
  · rw [if_pos hc] at h
    exact (fr_r S_m_changes w).trans (f_m_changes_107 N  _ hk26 _ _ _ _ _ _ h)
  · rw [if_neg hc] at h
    exact (fr_r S_m_changes w).trans (f_m_changes_107 N  _ hk26 _ _ _ _ _ _ h)
theorem f_m_changes_88 (N : Nat) (k26 : Int → Int → aw_W → Option (Int × aw_W)) (hk26 : ∀ (x2 x3 : Int) (w : aw_W) (y : Int) (v : aw_W), k26 x2 x3 w = some (y, v) → fr_ S_m_changes w v) (k57 : Int → Int → Int → Int → aw_W → Option (Int × aw_W)) (hk57 : ∀ (x2 x3 x4 x5 : Int) (w : aw_W) (y : Int) (v : aw_W), k57 x2 x3 x4 x5 w = some (y, v) → fr_ S_m_changes w v) : ∀ (x2 x3 x5 s0 : Int) (w : aw_W) (y : Int) (v : aw_W), m_changes_88 N k26 k57 x2 x3 x5 s0 w = some (y, v) → fr_ S_m_changes w v := by
  intro x2 x3 x5 s0 w y v h
  unfold m_changes_88 at h
  exact (fr_r S_m_changes w).trans (hk57 _ _ _ _ _ _ _ h)
theorem f_m_changes_83 (N : Nat) (k26 : Int → Int → aw_W → Option (Int × aw_W)) (hk26 : ∀ (x2 x3 : Int) (w : aw_W) (y : Int) (v : aw_W), k26 x2 x3 w = some (y, v) → fr_ S_m_changes w v) (k57 : Int → Int → Int → Int → aw_W → Option (Int × aw_W)) (hk57 : ∀ (x2 x3 x4 x5 : Int) (w : aw_W) (y : Int) (v : aw_W), k57 x2 x3 x4 x5 w = some (y, v) → fr_ S_m_changes w v) : ∀ (x2 x3 x5 : Int) (w : aw_W) (y : Int) (v : aw_W), m_changes_83 N k26 k57 x2 x3 x5 w = some (y, v) → fr_ S_m_changes w v := by
  intro x2 x3 x5 w y v h
  unfold m_changes_83 at h
  exact (fr_r S_m_changes w).trans (f_m_changes_88 N  _ hk26 _ hk57 _ _ _ _ _ _ _ h)
theorem f_m_changes_57 (N : Nat) (k26 : Int → Int → aw_W → Option (Int × aw_W)) (hk26 : ∀ (x2 x3 : Int) (w : aw_W) (y : Int) (v : aw_W), k26 x2 x3 w = some (y, v) → fr_ S_m_changes w v) : ∀ (n : Nat) (x2 x3 x4 x5 : Int) (w : aw_W) (y : Int) (v : aw_W), m_changes_57 N k26 n x2 x3 x4 x5 w = some (y, v) → fr_ S_m_changes w v := by
  intro n
  induction n with
  | zero => intro x2 x3 x4 x5 w y v h; rw [m_changes_57] at h; cases h
  | succ n ih =>
    intro x2 x3 x4 x5 w y v h
    rw [m_changes_57] at h
    by_cases hc : (w 56 4) < x5
    · rw [if_pos hc] at h
      exact (fr_r S_m_changes w).trans (f_m_changes_96 N  _ hk26 _ _ _ _ _ _ h)
    · rw [if_neg hc] at h
      by_cases hc : x4 = 0
      · rw [if_pos hc] at h
        obtain ⟨r1, w1, h1, h⟩ := aw_b2s h
        have c1 := (fr_r S_m_changes w).trans (fr_m (by decide) (f_m_hasBy N _ _ _ _ _ h1))
        by_cases hc : r1 = 0
        · rw [if_pos hc] at h
          exact (c1).trans (f_m_changes_88 N  _ hk26 _ ih _ _ _ _ _ _ _ h)
        · rw [if_neg hc] at h
          exact (c1).trans (f_m_changes_83 N  _ hk26 _ ih _ _ _ _ _ _ h)
      · rw [if_neg hc] at h
        exact (fr_r S_m_changes w).trans (f_m_changes_83 N  _ hk26 _ ih _ _ _ _ _ _ h)
theorem f_m_changes_26 (N : Nat) : ∀ (n : Nat) (x2 x3 : Int) (w : aw_W) (y : Int) (v : aw_W), m_changes_26 N n x2 x3 w = some (y, v) → fr_ S_m_changes w v := by
  intro n
  induction n with
  | zero => intro x2 x3 w y v h; rw [m_changes_26] at h; cases h
  | succ n ih =>
    intro x2 x3 w y v h
    rw [m_changes_26] at h
    by_cases hc : (w 49 22) ≤ x3
    · rw [if_pos hc] at h
      exact (fr_r S_m_changes w).trans (f_m_changes_115 N  _ _ _ _ h)
    · rw [if_neg hc] at h
      obtain ⟨_, h⟩ := aw_cks h
      obtain ⟨r1, w1, h1, h⟩ := aw_b2s h
      have c1 := (fr_r S_m_changes w).trans (fr_m (by decide) (f_m_hasBy N _ _ _ _ _ h1))
      by_cases hc : r1 = 0
      · rw [if_pos hc] at h
        exact (c1).trans (f_m_changes_57 N  _ ih N _ _ _ _ _ _ _ h)
      · rw [if_neg hc] at h
        exact (c1).trans (f_m_changes_109 N  _ ih _ _ _ _ _ h)
theorem f_m_changes (N : Nat) : ∀ (x1 : Int) (w : aw_W) (y : Int) (v : aw_W), m_changes N x1 w = some (y, v) → fr_ S_m_changes w v := by
  intro x1 w y v h
  unfold m_changes at h
  by_cases hc : (w 49 22) = 0
  · rw [if_pos hc] at h
    exact ((fr_r S_m_changes w).up (by rfl)).trans (f_m_changes_20 N  _ _ _ h)
  · rw [if_neg hc] at h
    obtain ⟨r1, w1, h1, h⟩ := aw_b2s h
    have c1 := ((fr_r S_m_changes w).up (by rfl)).trans (fr_m (by decide) (f_m_lay N _ _ _ _ h1))
    by_cases hc : r1 = 0
    · rw [if_pos hc] at h
      exact (c1).trans (f_m_changes_20 N  _ _ _ h)
    · rw [if_neg hc] at h
      exact (c1).trans (f_m_changes_26 N  N _ _ _ _ _ h)
def S_m_choice : List (Nat × Nat) := [(49, 0), (49, 5), (49, 8), (49, 9), (49, 10), (49, 11), (49, 12), (49, 13), (49, 14), (49, 17), (49, 31), (53, 1000000), (58, 1000000), (59, 1000000), (60, 1000000), (61, 1000000), (62, 1000000), (63, 1000000)]
theorem f_m_choice_22 (N : Nat) : ∀ (w : aw_W) (y : Int) (v : aw_W), m_choice_22 N w = some (y, v) → fr_ S_m_choice w v := by
  intro w y v h
  unfold m_choice_22 at h
  cases h
  exact fr_r S_m_choice w
theorem f_m_choice_87 (N : Nat) : ∀ (x3 x4 x5 : Int) (w : aw_W) (y : Int) (v : aw_W), m_choice_87 N x3 x4 x5 w = some (y, v) → fr_ S_m_choice w v := by
  intro x3 x4 x5 w y v h
  unfold m_choice_87 at h
  obtain ⟨_, h⟩ := aw_cks h
  cases h
  exact (fr_r S_m_choice w).upA (by rfl)
theorem f_m_choice_81 (N : Nat) (k40 : Int → Int → Int → Int → Int → Int → aw_W → Option (Int × aw_W)) (hk40 : ∀ (x1 x2 x3 x4 x5 x6 : Int) (w : aw_W) (y : Int) (v : aw_W), k40 x1 x2 x3 x4 x5 x6 w = some (y, v) → fr_ S_m_choice w v) : ∀ (x1 x2 x3 x4 x5 x6 : Int) (w : aw_W) (y : Int) (v : aw_W), m_choice_81 N k40 x1 x2 x3 x4 x5 x6 w = some (y, v) → fr_ S_m_choice w v := by
  intro x1 x2 x3 x4 x5 x6 w y v h
  unfold m_choice_81 at h
  exact (fr_r S_m_choice w).trans (hk40 _ _ _ _ _ _ _ _ _ h)
theorem f_m_choice_40 (N : Nat) : ∀ (n : Nat) (x1 x2 x3 x4 x5 x6 : Int) (w : aw_W) (y : Int) (v : aw_W), m_choice_40 N n x1 x2 x3 x4 x5 x6 w = some (y, v) → fr_ S_m_choice w v := by
  intro n
  induction n with
  | zero => intro x1 x2 x3 x4 x5 x6 w y v h; rw [m_choice_40] at h; cases h
  | succ n ih =>
    intro x1 x2 x3 x4 x5 x6 w y v h
    rw [m_choice_40] at h
    by_cases hc : (w 49 7) ≤ x6
    · rw [if_pos hc] at h
      exact (fr_r S_m_choice w).trans (f_m_choice_87 N  _ _ _ _ _ _ h)
    · rw [if_neg hc] at h
      by_cases hc : x5 = (-1)
      · rw [if_pos hc] at h
        obtain ⟨_, h⟩ := aw_cks h
        obtain ⟨w1, h1, h⟩ := aw_b1s h
        have c1 := ((fr_r S_m_choice w).upA (by rfl)).trans (fr_m (by decide) (f_m_run N _ _ _ _ h1))
        obtain ⟨r2, w2, h2, h⟩ := aw_b2s h
        have c2 := (c1).trans (fr_m (by decide) (f_m_winner N _ _ _ h2))
        by_cases hc : r2 = x3
        · rw [if_pos hc] at h
          exact (c2).trans (f_m_choice_81 N  _ ih _ _ _ _ _ _ _ _ _ h)
        · rw [if_neg hc] at h
          exact (c2).trans (f_m_choice_81 N  _ ih _ _ _ _ _ _ _ _ _ h)
      · rw [if_neg hc] at h
        exact (fr_r S_m_choice w).trans (f_m_choice_87 N  _ _ _ _ _ _ h)
theorem f_m_choice (N : Nat) : ∀ (x1 x2 x3 : Int) (w : aw_W) (y : Int) (v : aw_W), m_choice N x1 x2 x3 w = some (y, v) → fr_ S_m_choice w v := by
  intro x1 x2 x3 w y v h
  unfold m_choice at h
  obtain ⟨r1, w1, h1, h⟩ := aw_b2s h
  have c1 := ((fr_r S_m_choice w).up (by rfl)).trans (fr_m (by decide) (f_m_isRace N _ _ _ _ _ h1))
  by_cases hc : r1 = 0
  · rw [if_pos hc] at h
    exact (c1).trans (f_m_choice_22 N  _ _ _ h)
  · rw [if_neg hc] at h
    obtain ⟨r2, w2, h2, h⟩ := aw_b2s h
    have c2 := (c1).trans (fr_m (by decide) (f_m_isStriver N _ _ _ _ h2))
    by_cases hc : r2 = 0
    · rw [if_pos hc] at h
      exact (c2).trans (f_m_choice_22 N  _ _ _ h)
    · rw [if_neg hc] at h
      obtain ⟨_, h⟩ := aw_cks h
      exact (c2).trans (f_m_choice_40 N  N _ _ _ _ _ _ _ _ _ h)
def S_m_count : List (Nat × Nat) := [(49, 0)]
theorem f_m_count (N : Nat) : ∀ (x1 : Int) (w : aw_W) (y : Int) (v : aw_W), m_count N x1 w = some (y, v) → fr_ S_m_count w v := by
  intro x1 w y v h
  unfold m_count at h
  by_cases hc : x1 = 0
  · rw [if_pos hc] at h
    cases h
    exact (fr_r S_m_count w).up (by rfl)
  · rw [if_neg hc] at h
    by_cases hc : x1 = 1
    · rw [if_pos hc] at h
      cases h
      exact (fr_r S_m_count w).up (by rfl)
    · rw [if_neg hc] at h
      by_cases hc : x1 = 2
      · rw [if_pos hc] at h
        cases h
        exact (fr_r S_m_count w).up (by rfl)
      · rw [if_neg hc] at h
        by_cases hc : x1 = 3
        · rw [if_pos hc] at h
          cases h
          exact (fr_r S_m_count w).up (by rfl)
        · rw [if_neg hc] at h
          cases h
          exact (fr_r S_m_count w).up (by rfl)
def S_m_layBest : List (Nat × Nat) := [(49, 34), (49, 35), (59, 1000000), (60, 1000000), (64, 1000000)]
theorem f_m_layBest_84 (N : Nat) : ∀ (x1 x2 : Int) (w v : aw_W), m_layBest_84 N x1 x2 w = some v → fr_ S_m_layBest w v := by
  intro x1 x2 w v h
  unfold m_layBest_84 at h
  obtain ⟨_, h⟩ := aw_cks h
  cases h
  exact (fr_r S_m_layBest w).upA (by rfl)
theorem f_m_layBest_78 (N : Nat) (k26 : Int → Int → Int → Int → aw_W → Option (aw_W)) (hk26 : ∀ (x1 x2 x3 x4 : Int) (w v : aw_W), k26 x1 x2 x3 x4 w = some v → fr_ S_m_layBest w v) : ∀ (x1 x2 x3 x4 : Int) (w v : aw_W), m_layBest_78 N k26 x1 x2 x3 x4 w = some v → fr_ S_m_layBest w v := by
  intro x1 x2 x3 x4 w v h
  unfold m_layBest_78 at h
  exact (fr_r S_m_layBest w).trans (hk26 _ _ _ _ _ _ h)
theorem f_m_layBest_26 (N : Nat) : ∀ (n : Nat) (x1 x2 x3 x4 : Int) (w v : aw_W), m_layBest_26 N n x1 x2 x3 x4 w = some v → fr_ S_m_layBest w v := by
  intro n
  induction n with
  | zero => intro x1 x2 x3 x4 w v h; rw [m_layBest_26] at h; cases h
  | succ n ih =>
    intro x1 x2 x3 x4 w v h
    rw [m_layBest_26] at h
    by_cases hc : (w 56 4) < x4
    · rw [if_pos hc] at h
      exact (fr_r S_m_layBest w).trans (f_m_layBest_84 N  _ _ _ _ h)
    · rw [if_neg hc] at h
      obtain ⟨_, h⟩ := aw_cks h
      obtain ⟨r1, w1, h1, h⟩ := aw_b2s h
      have c1 := ((fr_r S_m_layBest w).upA (by rfl)).trans (fr_m (by decide) (f_m_gainOf N _ _ _ _ h1))
      by_cases hc : (w1 49 35) < (aw_w (r1 - x3))
      · rw [if_pos hc] at h
        exact (((c1).up (by rfl)).up (by rfl)).trans (f_m_layBest_78 N  _ ih _ _ _ _ _ _ h)
      · rw [if_neg hc] at h
        exact (c1).trans (f_m_layBest_78 N  _ ih _ _ _ _ _ _ h)
theorem f_m_layBest (N : Nat) : ∀ (x1 : Int) (w v : aw_W), m_layBest N x1 w = some v → fr_ S_m_layBest w v := by
  intro x1 w v h
  unfold m_layBest at h
  obtain ⟨_, h⟩ := aw_cks h
  obtain ⟨r1, w1, h1, h⟩ := aw_b2s h
  have c1 := (fr_r S_m_layBest w).trans (fr_m (by decide) (f_m_gainOf N _ _ _ _ h1))
  exact (((c1).up (by rfl)).up (by rfl)).trans (f_m_layBest_26 N  N _ _ _ _ _ _ h)
def S_m_cure : List (Nat × Nat) := [(49, 0), (49, 34), (49, 35), (59, 1000000), (60, 1000000), (64, 1000000)]
theorem f_m_cure_32 (N : Nat) : ∀ (w : aw_W) (y : Int) (v : aw_W), m_cure_32 N w = some (y, v) → fr_ S_m_cure w v := by
  intro w y v h
  unfold m_cure_32 at h
  cases h
  exact fr_r S_m_cure w
theorem f_m_cure_115 (N : Nat) : ∀ (s0 : Int) (w : aw_W) (y : Int) (v : aw_W), m_cure_115 N s0 w = some (y, v) → fr_ S_m_cure w v := by
  intro s0 w y v h
  unfold m_cure_115 at h
  cases h
  exact fr_r S_m_cure w
theorem f_m_cure_95 (N : Nat) : ∀ (x2 x3 x4 x5 : Int) (w : aw_W) (y : Int) (v : aw_W), m_cure_95 N x2 x3 x4 x5 w = some (y, v) → fr_ S_m_cure w v := by
  intro x2 x3 x4 x5 w y v h
  unfold m_cure_95 at h
  by_cases hc : x2 = 0
  · rw [if_pos hc] at h
    exact (fr_r S_m_cure w).trans (f_m_cure_115 N  _ _ _ _ h)
  · rw [if_neg hc] at h
    by_cases hc : x2 = 1
    · rw [if_pos hc] at h
      exact (fr_r S_m_cure w).trans (f_m_cure_115 N  _ _ _ _ h)
    · rw [if_neg hc] at h
      exact (fr_r S_m_cure w).trans (f_m_cure_115 N  _ _ _ _ h)
theorem f_m_cure_89 (N : Nat) (k47 : Int → Int → Int → Int → Int → aw_W → Option (Int × aw_W)) (hk47 : ∀ (x2 x3 x4 x5 x6 : Int) (w : aw_W) (y : Int) (v : aw_W), k47 x2 x3 x4 x5 x6 w = some (y, v) → fr_ S_m_cure w v) : ∀ (x2 x3 x4 x5 x6 : Int) (w : aw_W) (y : Int) (v : aw_W), m_cure_89 N k47 x2 x3 x4 x5 x6 w = some (y, v) → fr_ S_m_cure w v := by
  intro x2 x3 x4 x5 x6 w y v h
  unfold m_cure_89 at h
  exact (fr_r S_m_cure w).trans (hk47 _ _ _ _ _ _ _ _ h)
theorem f_m_cure_47 (N : Nat) : ∀ (n : Nat) (x2 x3 x4 x5 x6 : Int) (w : aw_W) (y : Int) (v : aw_W), m_cure_47 N n x2 x3 x4 x5 x6 w = some (y, v) → fr_ S_m_cure w v := by
  intro n
  induction n with
  | zero => intro x2 x3 x4 x5 x6 w y v h; rw [m_cure_47] at h; cases h
  | succ n ih =>
    intro x2 x3 x4 x5 x6 w y v h
    rw [m_cure_47] at h
    by_cases hc : (w 49 22) ≤ x6
    · rw [if_pos hc] at h
      exact (fr_r S_m_cure w).trans (f_m_cure_95 N  _ _ _ _ _ _ _ h)
    · rw [if_neg hc] at h
      obtain ⟨w1, h1, h⟩ := aw_b1s h
      have c1 := (fr_r S_m_cure w).trans (fr_m (by decide) (f_m_layBest N _ _ _ h1))
      by_cases hc : x5 < (w1 49 35)
      · rw [if_pos hc] at h
        exact (c1).trans (f_m_cure_89 N  _ ih _ _ _ _ _ _ _ _ h)
      · rw [if_neg hc] at h
        exact (c1).trans (f_m_cure_89 N  _ ih _ _ _ _ _ _ _ _ h)
theorem f_m_cure (N : Nat) : ∀ (x1 x2 : Int) (w : aw_W) (y : Int) (v : aw_W), m_cure N x1 x2 w = some (y, v) → fr_ S_m_cure w v := by
  intro x1 x2 w y v h
  unfold m_cure at h
  by_cases hc : (w 49 22) = 0
  · rw [if_pos hc] at h
    exact ((fr_r S_m_cure w).up (by rfl)).trans (f_m_cure_32 N  _ _ _ h)
  · rw [if_neg hc] at h
    obtain ⟨r1, w1, h1, h⟩ := aw_b2s h
    have c1 := ((fr_r S_m_cure w).up (by rfl)).trans (fr_m (by decide) (f_m_isIn N _ _ _ _ _ _ h1))
    by_cases hc : r1 = 0
    · rw [if_pos hc] at h
      exact (c1).trans (f_m_cure_32 N  _ _ _ h)
    · rw [if_neg hc] at h
      obtain ⟨r2, w2, h2, h⟩ := aw_b2s h
      have c2 := (c1).trans (fr_m (by decide) (f_m_lay N _ _ _ _ h2))
      by_cases hc : r2 = 0
      · rw [if_pos hc] at h
        exact (c2).trans (f_m_cure_32 N  _ _ _ h)
      · rw [if_neg hc] at h
        exact (c2).trans (f_m_cure_47 N  N _ _ _ _ _ _ _ _ h)
def S_m_end : List (Nat × Nat) := [(49, 0), (49, 6)]
theorem f_m_end_17 (N : Nat) : ∀ (w : aw_W) (y : Int) (v : aw_W), m_end_17 N w = some (y, v) → fr_ S_m_end w v := by
  intro w y v h
  unfold m_end_17 at h
  cases h
  exact fr_r S_m_end w
theorem f_m_end (N : Nat) : ∀ (x1 : Int) (w : aw_W) (y : Int) (v : aw_W), m_end N x1 w = some (y, v) → fr_ S_m_end w v := by
  intro x1 w y v h
  unfold m_end at h
  by_cases hc : x1 < 0
  · rw [if_pos hc] at h
    exact ((fr_r S_m_end w).up (by rfl)).trans (f_m_end_17 N  _ _ _ h)
  · rw [if_neg hc] at h
    by_cases hc : x1 ≤ (w 49 6)
    · rw [if_pos hc] at h
      cases h
      exact ((fr_r S_m_end w).up (by rfl)).up (by rfl)
    · rw [if_neg hc] at h
      exact ((fr_r S_m_end w).up (by rfl)).trans (f_m_end_17 N  _ _ _ h)
def S_m_opens_49_50 : List (Nat × Nat) := [(49, 5), (49, 8), (49, 9), (49, 10), (49, 11)]
theorem f_m_opens_49_50 (N : Nat) : ∀ (x2 x3 : Int) (w v : aw_W), m_opens_49_50 N x2 x3 w = some v → fr_ S_m_opens_49_50 w v := by
  intro x2 x3 w v h
  unfold m_opens_49_50 at h
  cases h
  exact (((((fr_r S_m_opens_49_50 w).up (by rfl)).up (by rfl)).up (by rfl)).up (by rfl)).up (by rfl)
def S_m_goThrough_49_50 : List (Nat × Nat) := [(49, 5), (49, 8), (49, 9), (49, 10), (49, 11), (49, 12), (49, 13), (49, 14), (49, 17)]
theorem f_m_goThrough_49_50_87 (N : Nat) : ∀ (w v : aw_W), m_goThrough_49_50_87 N w = some v → fr_ S_m_goThrough_49_50 w v := by
  intro w v h
  unfold m_goThrough_49_50_87 at h
  cases h
  exact fr_r S_m_goThrough_49_50 w
theorem f_m_goThrough_49_50_66 (N : Nat) : ∀ (w v : aw_W), m_goThrough_49_50_66 N w = some v → fr_ S_m_goThrough_49_50 w v := by
  intro w v h
  unfold m_goThrough_49_50_66 at h
  by_cases hc : (w 49 11) = (-1)
  · rw [if_pos hc] at h
    obtain ⟨r1, w1, h1, h⟩ := aw_b2s h
    have c1 := (fr_r S_m_goThrough_49_50 w).trans (fr_m (by decide) (f_m_look N _ _ _ h1))
    by_cases hc : r1 = (-1)
    · rw [if_pos hc] at h
      exact (c1).trans (f_m_goThrough_49_50_87 N  _ _ h)
    · rw [if_neg hc] at h
      obtain ⟨r2, w2, h2, h⟩ := aw_b2s h
      have c2 := (c1).trans (fr_m (by decide) (f_m_fails N _ _ _ h2))
      exact (c2).trans (f_m_goThrough_49_50_87 N  _ _ h)
  · rw [if_neg hc] at h
    exact (fr_r S_m_goThrough_49_50 w).trans (f_m_goThrough_49_50_87 N  _ _ h)
theorem f_m_goThrough_49_50_32 (N : Nat) : ∀ (n : Nat) (w v : aw_W), m_goThrough_49_50_32 N n w = some v → fr_ S_m_goThrough_49_50 w v := by
  intro n
  induction n with
  | zero => intro w v h; rw [m_goThrough_49_50_32] at h; cases h
  | succ n ih =>
    intro w v h
    rw [m_goThrough_49_50_32] at h
    by_cases hc : (w 49 11) = (-1)
    · rw [if_pos hc] at h
      obtain ⟨r1, w1, h1, h⟩ := aw_b2s h
      have c1 := (fr_r S_m_goThrough_49_50 w).trans (fr_m (by decide) (f_m_look N _ _ _ h1))
      by_cases hc : r1 = 59
      · rw [if_pos hc] at h
        obtain ⟨w2, h2, h⟩ := aw_b1s h
        have c2 := ((c1).up (by rfl)).trans (fr_m (by decide) (f_m_clause N _ _ h2))
        exact (c2).trans (ih _ _ h)
      · rw [if_neg hc] at h
        exact (c1).trans (f_m_goThrough_49_50_66 N  _ _ h)
    · rw [if_neg hc] at h
      exact (fr_r S_m_goThrough_49_50 w).trans (f_m_goThrough_49_50_66 N  _ _ h)
theorem f_m_goThrough_49_50 (N : Nat) : ∀ (x2 x3 : Int) (w v : aw_W), m_goThrough_49_50 N x2 x3 w = some v → fr_ S_m_goThrough_49_50 w v := by
  intro x2 x3 w v h
  unfold m_goThrough_49_50 at h
  obtain ⟨w1, h1, h⟩ := aw_b1s h
  have c1 := (fr_r S_m_goThrough_49_50 w).trans (fr_m (by decide) (f_m_opens_49_50 N _ _ _ _ h1))
  obtain ⟨w2, h2, h⟩ := aw_b1s h
  have c2 := (((((c1).up (by rfl)).up (by rfl)).up (by rfl)).up (by rfl)).trans (fr_m (by decide) (f_m_clause N _ _ h2))
  exact (c2).trans (f_m_goThrough_49_50_32 N  N _ _ h)
def S_m_placeOf : List (Nat × Nat) := []
theorem f_m_placeOf_27 (N : Nat) : ∀ (w : aw_W) (y : Int) (v : aw_W), m_placeOf_27 N w = some (y, v) → fr_ S_m_placeOf w v := by
  intro w y v h
  unfold m_placeOf_27 at h
  cases h
  exact fr_r S_m_placeOf w
theorem f_m_placeOf_19 (N : Nat) : ∀ (x2 : Int) (w : aw_W) (y : Int) (v : aw_W), m_placeOf_19 N x2 w = some (y, v) → fr_ S_m_placeOf w v := by
  intro x2 w y v h
  unfold m_placeOf_19 at h
  cases h
  exact fr_r S_m_placeOf w
theorem f_m_placeOf_2 (N : Nat) : ∀ (n : Nat) (x1 x2 : Int) (w : aw_W) (y : Int) (v : aw_W), m_placeOf_2 N n x1 x2 w = some (y, v) → fr_ S_m_placeOf w v := by
  intro n
  induction n with
  | zero => intro x1 x2 w y v h; rw [m_placeOf_2] at h; cases h
  | succ n ih =>
    intro x1 x2 w y v h
    rw [m_placeOf_2] at h
    obtain ⟨r1, w1, h1, h⟩ := aw_b2s h
    have c1 := (fr_r S_m_placeOf w).trans (fr_m (by decide) (f_j_Str_length_223 N _ _ _ h1))
    by_cases hc : r1 ≤ x2
    · rw [if_pos hc] at h
      exact (c1).trans (f_m_placeOf_27 N  _ _ _ h)
    · rw [if_neg hc] at h
      obtain ⟨r2, w2, h2, h⟩ := aw_b2s h
      have c2 := (c1).trans (fr_m (by decide) (f_j_Str_charAt_223 N _ _ _ _ h2))
      by_cases hc : r2 = x1
      · rw [if_pos hc] at h
        exact (c2).trans (f_m_placeOf_19 N  _ _ _ _ h)
      · rw [if_neg hc] at h
        exact (c2).trans (ih _ _ _ _ _ h)
theorem f_m_placeOf (N : Nat) : ∀ (x1 : Int) (w : aw_W) (y : Int) (v : aw_W), m_placeOf N x1 w = some (y, v) → fr_ S_m_placeOf w v := by
  intro x1 w y v h
  unfold m_placeOf at h
  exact (fr_r S_m_placeOf w).trans (f_m_placeOf_2 N  N _ _ _ _ _ h)
def S_m_here : List (Nat × Nat) := []
theorem f_m_here_33 (N : Nat) : ∀ (s0 : Int) (w : aw_W) (y : Int) (v : aw_W), m_here_33 N s0 w = some (y, v) → fr_ S_m_here w v := by
  intro s0 w y v h
  unfold m_here_33 at h
  cases h
  exact fr_r S_m_here w
theorem f_m_here (N : Nat) : ∀ (w : aw_W) (y : Int) (v : aw_W), m_here N w = some (y, v) → fr_ S_m_here w v := by
  intro w y v h
  unfold m_here at h
  by_cases hc : (w 49 9) ≤ (w 49 10)
  · rw [if_pos hc] at h
    exact (fr_r S_m_here w).trans (f_m_here_33 N  _ _ _ _ h)
  · rw [if_neg hc] at h
    obtain ⟨_, h⟩ := aw_cks h
    exact (fr_r S_m_here w).trans (f_m_here_33 N  _ _ _ _ h)
def S_m_readItem : List (Nat × Nat) := [(49, 10), (49, 11), (55, 1000000)]
theorem f_m_readItem_80 (N : Nat) : ∀ (x1 x2 x4 x6 : Int) (w v : aw_W), m_readItem_80 N x1 x2 x4 x6 w = some v → fr_ S_m_readItem w v := by
  intro x1 x2 x4 x6 w v h
  unfold m_readItem_80 at h
  obtain ⟨r1, w1, h1, h⟩ := aw_b2s h
  have c1 := (fr_r S_m_readItem w).trans (fr_m (by decide) (f_m_isDigit N _ _ _ h1))
  by_cases hc : r1 = 0
  · rw [if_pos hc] at h
    obtain ⟨r2, w2, h2, h⟩ := aw_b2s h
    have c2 := (c1).trans (fr_m (by decide) (f_m_leastOf N _ _ _ _ _ h2))
    obtain ⟨r3, w3, h3, h⟩ := aw_b2s h
    have c3 := (c2).trans (fr_m (by decide) (f_m_mostOf N _ _ _ _ _ h3))
    obtain ⟨r4, w4, h4, h⟩ := aw_b2s h
    have c4 := (c3).trans (fr_m (by decide) (f_m_isIn N _ _ _ _ _ _ h4))
    by_cases hc : r4 = 0
    · rw [if_pos hc] at h
      obtain ⟨r5, w5, h5, h⟩ := aw_b2s h
      have c5 := ((c4).up (by rfl)).trans (fr_m (by decide) (f_m_fails N _ _ _ h5))
      cases h
      exact c5
    · rw [if_neg hc] at h
      obtain ⟨_, h⟩ := aw_cks h
      cases h
      exact (c4).upA (by rfl)
  · rw [if_neg hc] at h
    obtain ⟨r6, w6, h6, h⟩ := aw_b2s h
    have c6 := (c1).trans (fr_m (by decide) (f_m_fails N _ _ _ h6))
    cases h
    exact c6
theorem f_m_readItem (N : Nat) : ∀ (x1 x2 x4 : Int) (w v : aw_W), m_readItem N x1 x2 x4 w = some v → fr_ S_m_readItem w v := by
  intro x1 x2 x4 w v h
  unfold m_readItem at h
  obtain ⟨r1, w1, h1, h⟩ := aw_b2s h
  have c1 := ((fr_r S_m_readItem w).up (by rfl)).trans (fr_m (by decide) (f_m_look N _ _ _ h1))
  obtain ⟨r2, w2, h2, h⟩ := aw_b2s h
  have c2 := (c1).trans (fr_m (by decide) (f_m_isDigit N _ _ _ h2))
  by_cases hc : r2 = 0
  · rw [if_pos hc] at h
    obtain ⟨r6, w6, h6, h⟩ := aw_b2s h
    have c6 := (c2).trans (fr_m (by decide) (f_m_fails N _ _ _ h6))
    cases h
    exact c6
  · rw [if_neg hc] at h
    obtain ⟨r3, w3, h3, h⟩ := aw_b2s h
    have c3 := (c2).trans (fr_m (by decide) (f_m_here N _ _ _ h3))
    obtain ⟨r4, w4, h4, h⟩ := aw_b2s h
    have c4 := ((c3).up (by rfl)).trans (fr_m (by decide) (f_m_isDigit N _ _ _ h4))
    by_cases hc : r4 = 0
    · rw [if_pos hc] at h
      exact (c4).trans (f_m_readItem_80 N  _ _ _ _ _ _ h)
    · rw [if_neg hc] at h
      obtain ⟨r5, w5, h5, h⟩ := aw_b2s h
      have c5 := (c4).trans (fr_m (by decide) (f_m_here N _ _ _ h5))
      exact ((c5).up (by rfl)).trans (f_m_readItem_80 N  _ _ _ _ _ _ h)
def S_m_usual : List (Nat × Nat) := []
theorem f_m_usual_42 (N : Nat) : ∀ (s0 : Int) (w : aw_W) (y : Int) (v : aw_W), m_usual_42 N s0 w = some (y, v) → fr_ S_m_usual w v := by
  intro s0 w y v h
  unfold m_usual_42 at h
  cases h
  exact fr_r S_m_usual w
theorem f_m_usual_22 (N : Nat) : ∀ (s0 : Int) (w : aw_W) (y : Int) (v : aw_W), m_usual_22 N s0 w = some (y, v) → fr_ S_m_usual w v := by
  intro s0 w y v h
  unfold m_usual_22 at h
  cases h
  exact fr_r S_m_usual w
theorem f_m_usual (N : Nat) : ∀ (x0 x1 : Int) (w : aw_W) (y : Int) (v : aw_W), m_usual N x0 x1 w = some (y, v) → fr_ S_m_usual w v := by
  intro x0 x1 w y v h
  unfold m_usual at h
  by_cases hc : x0 = 0
  · rw [if_pos hc] at h
    by_cases hc : x1 = 0
    · rw [if_pos hc] at h
      exact (fr_r S_m_usual w).trans (f_m_usual_42 N  _ _ _ _ h)
    · rw [if_neg hc] at h
      by_cases hc : x1 = 1
      · rw [if_pos hc] at h
        exact (fr_r S_m_usual w).trans (f_m_usual_42 N  _ _ _ _ h)
      · rw [if_neg hc] at h
        exact (fr_r S_m_usual w).trans (f_m_usual_42 N  _ _ _ _ h)
  · rw [if_neg hc] at h
    by_cases hc : x1 = 0
    · rw [if_pos hc] at h
      exact (fr_r S_m_usual w).trans (f_m_usual_22 N  _ _ _ _ h)
    · rw [if_neg hc] at h
      by_cases hc : x1 = 4
      · rw [if_pos hc] at h
        exact (fr_r S_m_usual w).trans (f_m_usual_22 N  _ _ _ _ h)
      · rw [if_neg hc] at h
        exact (fr_r S_m_usual w).trans (f_m_usual_22 N  _ _ _ _ h)
def S_m_placeOf_222 : List (Nat × Nat) := []
theorem f_m_placeOf_222_27 (N : Nat) : ∀ (w : aw_W) (y : Int) (v : aw_W), m_placeOf_222_27 N w = some (y, v) → fr_ S_m_placeOf_222 w v := by
  intro w y v h
  unfold m_placeOf_222_27 at h
  cases h
  exact fr_r S_m_placeOf_222 w
theorem f_m_placeOf_222_19 (N : Nat) : ∀ (x2 : Int) (w : aw_W) (y : Int) (v : aw_W), m_placeOf_222_19 N x2 w = some (y, v) → fr_ S_m_placeOf_222 w v := by
  intro x2 w y v h
  unfold m_placeOf_222_19 at h
  cases h
  exact fr_r S_m_placeOf_222 w
theorem f_m_placeOf_222_2 (N : Nat) : ∀ (n : Nat) (x1 x2 : Int) (w : aw_W) (y : Int) (v : aw_W), m_placeOf_222_2 N n x1 x2 w = some (y, v) → fr_ S_m_placeOf_222 w v := by
  intro n
  induction n with
  | zero => intro x1 x2 w y v h; rw [m_placeOf_222_2] at h; cases h
  | succ n ih =>
    intro x1 x2 w y v h
    rw [m_placeOf_222_2] at h
    obtain ⟨r1, w1, h1, h⟩ := aw_b2s h
    have c1 := (fr_r S_m_placeOf_222 w).trans (fr_m (by decide) (f_j_Str_length_222 N _ _ _ h1))
    by_cases hc : r1 ≤ x2
    · rw [if_pos hc] at h
      exact (c1).trans (f_m_placeOf_222_27 N  _ _ _ h)
    · rw [if_neg hc] at h
      obtain ⟨r2, w2, h2, h⟩ := aw_b2s h
      have c2 := (c1).trans (fr_m (by decide) (f_j_Str_charAt_222 N _ _ _ _ h2))
      by_cases hc : r2 = x1
      · rw [if_pos hc] at h
        exact (c2).trans (f_m_placeOf_222_19 N  _ _ _ _ h)
      · rw [if_neg hc] at h
        exact (c2).trans (ih _ _ _ _ _ h)
theorem f_m_placeOf_222 (N : Nat) : ∀ (x1 : Int) (w : aw_W) (y : Int) (v : aw_W), m_placeOf_222 N x1 w = some (y, v) → fr_ S_m_placeOf_222 w v := by
  intro x1 w y v h
  unfold m_placeOf_222 at h
  exact (fr_r S_m_placeOf_222 w).trans (f_m_placeOf_222_2 N  N _ _ _ _ _ h)
def S_m_readItem_49_57 : List (Nat × Nat) := [(49, 10), (49, 11), (57, 1000000)]
theorem f_m_readItem_49_57_80 (N : Nat) : ∀ (x1 x2 x4 x6 : Int) (w v : aw_W), m_readItem_49_57_80 N x1 x2 x4 x6 w = some v → fr_ S_m_readItem_49_57 w v := by
  intro x1 x2 x4 x6 w v h
  unfold m_readItem_49_57_80 at h
  obtain ⟨r1, w1, h1, h⟩ := aw_b2s h
  have c1 := (fr_r S_m_readItem_49_57 w).trans (fr_m (by decide) (f_m_isDigit N _ _ _ h1))
  by_cases hc : r1 = 0
  · rw [if_pos hc] at h
    obtain ⟨r2, w2, h2, h⟩ := aw_b2s h
    have c2 := (c1).trans (fr_m (by decide) (f_m_leastOf N _ _ _ _ _ h2))
    obtain ⟨r3, w3, h3, h⟩ := aw_b2s h
    have c3 := (c2).trans (fr_m (by decide) (f_m_mostOf N _ _ _ _ _ h3))
    obtain ⟨r4, w4, h4, h⟩ := aw_b2s h
    have c4 := (c3).trans (fr_m (by decide) (f_m_isIn N _ _ _ _ _ _ h4))
    by_cases hc : r4 = 0
    · rw [if_pos hc] at h
      obtain ⟨r5, w5, h5, h⟩ := aw_b2s h
      have c5 := ((c4).up (by rfl)).trans (fr_m (by decide) (f_m_fails N _ _ _ h5))
      cases h
      exact c5
    · rw [if_neg hc] at h
      obtain ⟨_, h⟩ := aw_cks h
      cases h
      exact (c4).upA (by rfl)
  · rw [if_neg hc] at h
    obtain ⟨r6, w6, h6, h⟩ := aw_b2s h
    have c6 := (c1).trans (fr_m (by decide) (f_m_fails N _ _ _ h6))
    cases h
    exact c6
theorem f_m_readItem_49_57 (N : Nat) : ∀ (x1 x2 x4 : Int) (w v : aw_W), m_readItem_49_57 N x1 x2 x4 w = some v → fr_ S_m_readItem_49_57 w v := by
  intro x1 x2 x4 w v h
  unfold m_readItem_49_57 at h
  obtain ⟨r1, w1, h1, h⟩ := aw_b2s h
  have c1 := ((fr_r S_m_readItem_49_57 w).up (by rfl)).trans (fr_m (by decide) (f_m_look N _ _ _ h1))
  obtain ⟨r2, w2, h2, h⟩ := aw_b2s h
  have c2 := (c1).trans (fr_m (by decide) (f_m_isDigit N _ _ _ h2))
  by_cases hc : r2 = 0
  · rw [if_pos hc] at h
    obtain ⟨r6, w6, h6, h⟩ := aw_b2s h
    have c6 := (c2).trans (fr_m (by decide) (f_m_fails N _ _ _ h6))
    cases h
    exact c6
  · rw [if_neg hc] at h
    obtain ⟨r3, w3, h3, h⟩ := aw_b2s h
    have c3 := (c2).trans (fr_m (by decide) (f_m_here N _ _ _ h3))
    obtain ⟨r4, w4, h4, h⟩ := aw_b2s h
    have c4 := ((c3).up (by rfl)).trans (fr_m (by decide) (f_m_isDigit N _ _ _ h4))
    by_cases hc : r4 = 0
    · rw [if_pos hc] at h
      exact (c4).trans (f_m_readItem_49_57_80 N  _ _ _ _ _ _ h)
    · rw [if_neg hc] at h
      obtain ⟨r5, w5, h5, h⟩ := aw_b2s h
      have c5 := (c4).trans (fr_m (by decide) (f_m_here N _ _ _ h5))
      exact ((c5).up (by rfl)).trans (f_m_readItem_49_57_80 N  _ _ _ _ _ _ h)
def S_m_readClause : List (Nat × Nat) := [(49, 10), (49, 11), (49, 23), (49, 24), (55, 1000000), (57, 1000000)]
theorem f_m_readClause_253 (N : Nat) : ∀ (w v : aw_W), m_readClause_253 N w = some v → fr_ S_m_readClause w v := by
  intro w v h
  unfold m_readClause_253 at h
  cases h
  exact fr_r S_m_readClause w
theorem f_m_readClause_206 (N : Nat) : ∀ (w v : aw_W), m_readClause_206 N w = some v → fr_ S_m_readClause w v := by
  intro w v h
  unfold m_readClause_206 at h
  obtain ⟨r1, w1, h1, h⟩ := aw_b2s h
  have c1 := (fr_r S_m_readClause w).trans (fr_m (by decide) (f_m_fails N _ _ _ h1))
  cases h
  exact c1
theorem f_m_readClause_182 (N : Nat) : ∀ (n : Nat) (x2 x3 x6 x7 : Int) (w v : aw_W), m_readClause_182 N n x2 x3 x6 x7 w = some v → fr_ S_m_readClause w v := by
  intro n
  induction n with
  | zero => intro x2 x3 x6 x7 w v h; rw [m_readClause_182] at h; cases h
  | succ n ih =>
    intro x2 x3 x6 x7 w v h
    rw [m_readClause_182] at h
    by_cases hc : x7 = (-1)
    · rw [if_pos hc] at h
      exact (fr_r S_m_readClause w).trans (f_m_readClause_253 N  _ _ h)
    · rw [if_neg hc] at h
      by_cases hc : (w 49 11) = (-1)
      · rw [if_pos hc] at h
        obtain ⟨r1, w1, h1, h⟩ := aw_b2s h
        have c1 := (fr_r S_m_readClause w).trans (fr_m (by decide) (f_m_has N _ _ _ _ _ h1))
        by_cases hc : r1 = 0
        · rw [if_pos hc] at h
          obtain ⟨w2, h2, h⟩ := aw_b1s h
          have c2 := (c1).trans (fr_m (by decide) (f_m_readItem N _ _ _ _ _ h2))
          by_cases hc : (w2 49 11) = (-1)
          · rw [if_pos hc] at h
            obtain ⟨r3, w3, h3, h⟩ := aw_b2s h
            have c3 := (c2).trans (fr_m (by decide) (f_m_look N _ _ _ h3))
            obtain ⟨r4, w4, h4, h⟩ := aw_b2s h
            have c4 := (c3).trans (fr_m (by decide) (f_m_placeOf N _ _ _ _ h4))
            exact (c4).trans (ih _ _ _ _ _ _ h)
          · rw [if_neg hc] at h
            exact (c2).trans (ih _ _ _ _ _ _ h)
        · rw [if_neg hc] at h
          exact (c1).trans (f_m_readClause_206 N  _ _ h)
      · rw [if_neg hc] at h
        exact (fr_r S_m_readClause w).trans (f_m_readClause_253 N  _ _ h)
theorem f_m_readClause_168 (N : Nat) : ∀ (x2 x3 : Int) (w v : aw_W), m_readClause_168 N x2 x3 w = some v → fr_ S_m_readClause w v := by
  intro x2 x3 w v h
  unfold m_readClause_168 at h
  obtain ⟨r1, w1, h1, h⟩ := aw_b2s h
  have c1 := (fr_r S_m_readClause w).trans (fr_m (by decide) (f_m_look N _ _ _ h1))
  obtain ⟨r2, w2, h2, h⟩ := aw_b2s h
  have c2 := (c1).trans (fr_m (by decide) (f_m_placeOf N _ _ _ _ h2))
  exact (c2).trans (f_m_readClause_182 N  N _ _ _ _ _ _ h)
theorem f_m_readClause_139 (N : Nat) : ∀ (n : Nat) (x2 x3 x6 : Int) (w v : aw_W), m_readClause_139 N n x2 x3 x6 w = some v → fr_ S_m_readClause w v := by
  intro n
  induction n with
  | zero => intro x2 x3 x6 w v h; rw [m_readClause_139] at h; cases h
  | succ n ih =>
    intro x2 x3 x6 w v h
    rw [m_readClause_139] at h
    obtain ⟨r1, w1, h1, h⟩ := aw_b2s h
    have c1 := (fr_r S_m_readClause w).trans (fr_m (by decide) (f_j_Str_length_223 N _ _ _ h1))
    by_cases hc : r1 ≤ x6
    · rw [if_pos hc] at h
      exact (c1).trans (f_m_readClause_168 N  _ _ _ _ h)
    · rw [if_neg hc] at h
      obtain ⟨r2, w2, h2, h⟩ := aw_b2s h
      have c2 := (c1).trans (fr_m (by decide) (f_m_usual N _ _ _ _ _ h2))
      obtain ⟨_, h⟩ := aw_cks h
      exact ((c2).upA (by rfl)).trans (ih _ _ _ _ _ h)
theorem f_m_readClause_134 (N : Nat) : ∀ (x2 x3 : Int) (w v : aw_W), m_readClause_134 N x2 x3 w = some v → fr_ S_m_readClause w v := by
  intro x2 x3 w v h
  unfold m_readClause_134 at h
  exact (fr_r S_m_readClause w).trans (f_m_readClause_139 N  N _ _ _ _ _ h)
theorem f_m_readClause_182b (N : Nat) : ∀ (n : Nat) (x2 x3 x6 x7 : Int) (w v : aw_W), m_readClause_182b N n x2 x3 x6 x7 w = some v → fr_ S_m_readClause w v := by
  intro n
  induction n with
  | zero => intro x2 x3 x6 x7 w v h; rw [m_readClause_182b] at h; cases h
  | succ n ih =>
    intro x2 x3 x6 x7 w v h
    rw [m_readClause_182b] at h
    by_cases hc : x7 = (-1)
    · rw [if_pos hc] at h
      exact (fr_r S_m_readClause w).trans (f_m_readClause_253 N  _ _ h)
    · rw [if_neg hc] at h
      by_cases hc : (w 49 11) = (-1)
      · rw [if_pos hc] at h
        obtain ⟨r1, w1, h1, h⟩ := aw_b2s h
        have c1 := (fr_r S_m_readClause w).trans (fr_m (by decide) (f_m_has N _ _ _ _ _ h1))
        by_cases hc : r1 = 0
        · rw [if_pos hc] at h
          obtain ⟨w2, h2, h⟩ := aw_b1s h
          have c2 := (c1).trans (fr_m (by decide) (f_m_readItem N _ _ _ _ _ h2))
          by_cases hc : (w2 49 11) = (-1)
          · rw [if_pos hc] at h
            obtain ⟨r3, w3, h3, h⟩ := aw_b2s h
            have c3 := (c2).trans (fr_m (by decide) (f_m_look N _ _ _ h3))
            obtain ⟨r4, w4, h4, h⟩ := aw_b2s h
            have c4 := (c3).trans (fr_m (by decide) (f_m_placeOf_222 N _ _ _ _ h4))
            exact (c4).trans (ih _ _ _ _ _ _ h)
          · rw [if_neg hc] at h
            exact (c2).trans (ih _ _ _ _ _ _ h)
        · rw [if_neg hc] at h
          exact (c1).trans (f_m_readClause_206 N  _ _ h)
      · rw [if_neg hc] at h
        exact (fr_r S_m_readClause w).trans (f_m_readClause_253 N  _ _ h)
theorem f_m_readClause_168b (N : Nat) : ∀ (x2 x3 : Int) (w v : aw_W), m_readClause_168b N x2 x3 w = some v → fr_ S_m_readClause w v := by
  intro x2 x3 w v h
  unfold m_readClause_168b at h
  obtain ⟨r1, w1, h1, h⟩ := aw_b2s h
  have c1 := (fr_r S_m_readClause w).trans (fr_m (by decide) (f_m_look N _ _ _ h1))
  obtain ⟨r2, w2, h2, h⟩ := aw_b2s h
  have c2 := (c1).trans (fr_m (by decide) (f_m_placeOf_222 N _ _ _ _ h2))
  exact (c2).trans (f_m_readClause_182b N  N _ _ _ _ _ _ h)
theorem f_m_readClause_139b (N : Nat) : ∀ (n : Nat) (x2 x3 x6 : Int) (w v : aw_W), m_readClause_139b N n x2 x3 x6 w = some v → fr_ S_m_readClause w v := by
  intro n
  induction n with
  | zero => intro x2 x3 x6 w v h; rw [m_readClause_139b] at h; cases h
  | succ n ih =>
    intro x2 x3 x6 w v h
    rw [m_readClause_139b] at h
    obtain ⟨r1, w1, h1, h⟩ := aw_b2s h
    have c1 := (fr_r S_m_readClause w).trans (fr_m (by decide) (f_j_Str_length_222 N _ _ _ h1))
    by_cases hc : r1 ≤ x6
    · rw [if_pos hc] at h
      exact (c1).trans (f_m_readClause_168b N  _ _ _ _ h)
    · rw [if_neg hc] at h
      obtain ⟨r2, w2, h2, h⟩ := aw_b2s h
      have c2 := (c1).trans (fr_m (by decide) (f_m_usual N _ _ _ _ _ h2))
      obtain ⟨_, h⟩ := aw_cks h
      exact ((c2).upA (by rfl)).trans (ih _ _ _ _ _ h)
theorem f_m_readClause_134b (N : Nat) : ∀ (x2 x3 : Int) (w v : aw_W), m_readClause_134b N x2 x3 w = some v → fr_ S_m_readClause w v := by
  intro x2 x3 w v h
  unfold m_readClause_134b at h
  exact (fr_r S_m_readClause w).trans (f_m_readClause_139b N  N _ _ _ _ _ h)
theorem f_m_readClause_121 (N : Nat) : ∀ (x2 x3 : Int) (w v : aw_W), m_readClause_121 N x2 x3 w = some v → fr_ S_m_readClause w v := by
  intro x2 x3 w v h
  unfold m_readClause_121 at h
  by_cases hc : x2 = 0
  · rw [if_pos hc] at h
    exact (fr_r S_m_readClause w).trans (f_m_readClause_134 N  _ _ _ _ h)
  · rw [if_neg hc] at h
    exact (fr_r S_m_readClause w).trans (f_m_readClause_134b N  _ _ _ _ h)
theorem f_m_readClause_182c (N : Nat) : ∀ (n : Nat) (x2 x3 x6 x7 : Int) (w v : aw_W), m_readClause_182c N n x2 x3 x6 x7 w = some v → fr_ S_m_readClause w v := by
  intro n
  induction n with
  | zero => intro x2 x3 x6 x7 w v h; rw [m_readClause_182c] at h; cases h
  | succ n ih =>
    intro x2 x3 x6 x7 w v h
    rw [m_readClause_182c] at h
    by_cases hc : x7 = (-1)
    · rw [if_pos hc] at h
      exact (fr_r S_m_readClause w).trans (f_m_readClause_253 N  _ _ h)
    · rw [if_neg hc] at h
      by_cases hc : (w 49 11) = (-1)
      · rw [if_pos hc] at h
        obtain ⟨r1, w1, h1, h⟩ := aw_b2s h
        have c1 := (fr_r S_m_readClause w).trans (fr_m (by decide) (f_m_has N _ _ _ _ _ h1))
        by_cases hc : r1 = 0
        · rw [if_pos hc] at h
          obtain ⟨w2, h2, h⟩ := aw_b1s h
          have c2 := (c1).trans (fr_m (by decide) (f_m_readItem_49_57 N _ _ _ _ _ h2))
          by_cases hc : (w2 49 11) = (-1)
          · rw [if_pos hc] at h
            obtain ⟨r3, w3, h3, h⟩ := aw_b2s h
            have c3 := (c2).trans (fr_m (by decide) (f_m_look N _ _ _ h3))
            obtain ⟨r4, w4, h4, h⟩ := aw_b2s h
            have c4 := (c3).trans (fr_m (by decide) (f_m_placeOf N _ _ _ _ h4))
            exact (c4).trans (ih _ _ _ _ _ _ h)
          · rw [if_neg hc] at h
            exact (c2).trans (ih _ _ _ _ _ _ h)
        · rw [if_neg hc] at h
          exact (c1).trans (f_m_readClause_206 N  _ _ h)
      · rw [if_neg hc] at h
        exact (fr_r S_m_readClause w).trans (f_m_readClause_253 N  _ _ h)
theorem f_m_readClause_168c (N : Nat) : ∀ (x2 x3 : Int) (w v : aw_W), m_readClause_168c N x2 x3 w = some v → fr_ S_m_readClause w v := by
  intro x2 x3 w v h
  unfold m_readClause_168c at h
  obtain ⟨r1, w1, h1, h⟩ := aw_b2s h
  have c1 := (fr_r S_m_readClause w).trans (fr_m (by decide) (f_m_look N _ _ _ h1))
  obtain ⟨r2, w2, h2, h⟩ := aw_b2s h
  have c2 := (c1).trans (fr_m (by decide) (f_m_placeOf N _ _ _ _ h2))
  exact (c2).trans (f_m_readClause_182c N  N _ _ _ _ _ _ h)
theorem f_m_readClause_139c (N : Nat) : ∀ (n : Nat) (x2 x3 x6 : Int) (w v : aw_W), m_readClause_139c N n x2 x3 x6 w = some v → fr_ S_m_readClause w v := by
  intro n
  induction n with
  | zero => intro x2 x3 x6 w v h; rw [m_readClause_139c] at h; cases h
  | succ n ih =>
    intro x2 x3 x6 w v h
    rw [m_readClause_139c] at h
    obtain ⟨r1, w1, h1, h⟩ := aw_b2s h
    have c1 := (fr_r S_m_readClause w).trans (fr_m (by decide) (f_j_Str_length_223 N _ _ _ h1))
    by_cases hc : r1 ≤ x6
    · rw [if_pos hc] at h
      exact (c1).trans (f_m_readClause_168c N  _ _ _ _ h)
    · rw [if_neg hc] at h
      obtain ⟨r2, w2, h2, h⟩ := aw_b2s h
      have c2 := (c1).trans (fr_m (by decide) (f_m_usual N _ _ _ _ _ h2))
      obtain ⟨_, h⟩ := aw_cks h
      exact ((c2).upA (by rfl)).trans (ih _ _ _ _ _ h)
theorem f_m_readClause_134c (N : Nat) : ∀ (x2 x3 : Int) (w v : aw_W), m_readClause_134c N x2 x3 w = some v → fr_ S_m_readClause w v := by
  intro x2 x3 w v h
  unfold m_readClause_134c at h
  exact (fr_r S_m_readClause w).trans (f_m_readClause_139c N  N _ _ _ _ _ h)
theorem f_m_readClause_182d (N : Nat) : ∀ (n : Nat) (x2 x3 x6 x7 : Int) (w v : aw_W), m_readClause_182d N n x2 x3 x6 x7 w = some v → fr_ S_m_readClause w v := by
  intro n
  induction n with
  | zero => intro x2 x3 x6 x7 w v h; rw [m_readClause_182d] at h; cases h
  | succ n ih =>
    intro x2 x3 x6 x7 w v h
    rw [m_readClause_182d] at h
    by_cases hc : x7 = (-1)
    · rw [if_pos hc] at h
      exact (fr_r S_m_readClause w).trans (f_m_readClause_253 N  _ _ h)
    · rw [if_neg hc] at h
      by_cases hc : (w 49 11) = (-1)
      · rw [if_pos hc] at h
        obtain ⟨r1, w1, h1, h⟩ := aw_b2s h
        have c1 := (fr_r S_m_readClause w).trans (fr_m (by decide) (f_m_has N _ _ _ _ _ h1))
        by_cases hc : r1 = 0
        · rw [if_pos hc] at h
          obtain ⟨w2, h2, h⟩ := aw_b1s h
          have c2 := (c1).trans (fr_m (by decide) (f_m_readItem_49_57 N _ _ _ _ _ h2))
          by_cases hc : (w2 49 11) = (-1)
          · rw [if_pos hc] at h
            obtain ⟨r3, w3, h3, h⟩ := aw_b2s h
            have c3 := (c2).trans (fr_m (by decide) (f_m_look N _ _ _ h3))
            obtain ⟨r4, w4, h4, h⟩ := aw_b2s h
            have c4 := (c3).trans (fr_m (by decide) (f_m_placeOf_222 N _ _ _ _ h4))
            exact (c4).trans (ih _ _ _ _ _ _ h)
          · rw [if_neg hc] at h
            exact (c2).trans (ih _ _ _ _ _ _ h)
        · rw [if_neg hc] at h
          exact (c1).trans (f_m_readClause_206 N  _ _ h)
      · rw [if_neg hc] at h
        exact (fr_r S_m_readClause w).trans (f_m_readClause_253 N  _ _ h)
theorem f_m_readClause_168d (N : Nat) : ∀ (x2 x3 : Int) (w v : aw_W), m_readClause_168d N x2 x3 w = some v → fr_ S_m_readClause w v := by
  intro x2 x3 w v h
  unfold m_readClause_168d at h
  obtain ⟨r1, w1, h1, h⟩ := aw_b2s h
  have c1 := (fr_r S_m_readClause w).trans (fr_m (by decide) (f_m_look N _ _ _ h1))
  obtain ⟨r2, w2, h2, h⟩ := aw_b2s h
  have c2 := (c1).trans (fr_m (by decide) (f_m_placeOf_222 N _ _ _ _ h2))
  exact (c2).trans (f_m_readClause_182d N  N _ _ _ _ _ _ h)
theorem f_m_readClause_139d (N : Nat) : ∀ (n : Nat) (x2 x3 x6 : Int) (w v : aw_W), m_readClause_139d N n x2 x3 x6 w = some v → fr_ S_m_readClause w v := by
  intro n
  induction n with
  | zero => intro x2 x3 x6 w v h; rw [m_readClause_139d] at h; cases h
  | succ n ih =>
    intro x2 x3 x6 w v h
    rw [m_readClause_139d] at h
    obtain ⟨r1, w1, h1, h⟩ := aw_b2s h
    have c1 := (fr_r S_m_readClause w).trans (fr_m (by decide) (f_j_Str_length_222 N _ _ _ h1))
    by_cases hc : r1 ≤ x6
    · rw [if_pos hc] at h
      exact (c1).trans (f_m_readClause_168d N  _ _ _ _ h)
    · rw [if_neg hc] at h
      obtain ⟨r2, w2, h2, h⟩ := aw_b2s h
      have c2 := (c1).trans (fr_m (by decide) (f_m_usual N _ _ _ _ _ h2))
      obtain ⟨_, h⟩ := aw_cks h
      exact ((c2).upA (by rfl)).trans (ih _ _ _ _ _ h)
theorem f_m_readClause_134d (N : Nat) : ∀ (x2 x3 : Int) (w v : aw_W), m_readClause_134d N x2 x3 w = some v → fr_ S_m_readClause w v := by
  intro x2 x3 w v h
  unfold m_readClause_134d at h
  exact (fr_r S_m_readClause w).trans (f_m_readClause_139d N  N _ _ _ _ _ h)
theorem f_m_readClause_121b (N : Nat) : ∀ (x2 x3 : Int) (w v : aw_W), m_readClause_121b N x2 x3 w = some v → fr_ S_m_readClause w v := by
  intro x2 x3 w v h
  unfold m_readClause_121b at h
  by_cases hc : x2 = 0
  · rw [if_pos hc] at h
    exact (fr_r S_m_readClause w).trans (f_m_readClause_134c N  _ _ _ _ h)
  · rw [if_neg hc] at h
    exact (fr_r S_m_readClause w).trans (f_m_readClause_134d N  _ _ _ _ h)
theorem f_m_readClause_106 (N : Nat) : ∀ (x2 x3 : Int) (w v : aw_W), m_readClause_106 N x2 x3 w = some v → fr_ S_m_readClause w v := by
  intro x2 x3 w v h
  unfold m_readClause_106 at h
  by_cases hc : x2 = 0
  · rw [if_pos hc] at h
    exact (fr_r S_m_readClause w).trans (f_m_readClause_121 N  _ _ _ _ h)
  · rw [if_neg hc] at h
    exact (fr_r S_m_readClause w).trans (f_m_readClause_121b N  _ _ _ _ h)
theorem f_m_readClause_83 (N : Nat) : ∀ (x2 s0 : Int) (w v : aw_W), m_readClause_83 N x2 s0 w = some v → fr_ S_m_readClause w v := by
  intro x2 s0 w v h
  unfold m_readClause_83 at h
  by_cases hc : x2 = 0
  · rw [if_pos hc] at h
    exact ((fr_r S_m_readClause w).up (by rfl)).trans (f_m_readClause_106 N  _ _ _ _ h)
  · rw [if_neg hc] at h
    exact ((fr_r S_m_readClause w).up (by rfl)).trans (f_m_readClause_106 N  _ _ _ _ h)
theorem f_m_readClause_59 (N : Nat) : ∀ (x2 : Int) (w v : aw_W), m_readClause_59 N x2 w = some v → fr_ S_m_readClause w v := by
  intro x2 w v h
  unfold m_readClause_59 at h
  by_cases hc : x2 = 0
  · rw [if_pos hc] at h
    exact ((fr_r S_m_readClause w).up (by rfl)).trans (f_m_readClause_83 N  _ _ _ _ h)
  · rw [if_neg hc] at h
    exact ((fr_r S_m_readClause w).up (by rfl)).trans (f_m_readClause_83 N  _ _ _ _ h)
theorem f_m_readClause_53 (N : Nat) : ∀ (w v : aw_W), m_readClause_53 N w = some v → fr_ S_m_readClause w v := by
  intro w v h
  unfold m_readClause_53 at h
  obtain ⟨r1, w1, h1, h⟩ := aw_b2s h
  have c1 := (fr_r S_m_readClause w).trans (fr_m (by decide) (f_m_fails N _ _ _ h1))
  cases h
  exact c1
theorem f_m_readClause_38 (N : Nat) : ∀ (x1 x2 : Int) (w v : aw_W), m_readClause_38 N x1 x2 w = some v → fr_ S_m_readClause w v := by
  intro x1 x2 w v h
  unfold m_readClause_38 at h
  by_cases hc : x1 = 115
  · rw [if_pos hc] at h
    by_cases hc : (w 49 23) = 6
    · rw [if_pos hc] at h
      exact (fr_r S_m_readClause w).trans (f_m_readClause_53 N  _ _ h)
    · rw [if_neg hc] at h
      exact (fr_r S_m_readClause w).trans (f_m_readClause_59 N  _ _ _ h)
  · rw [if_neg hc] at h
    exact (fr_r S_m_readClause w).trans (f_m_readClause_59 N  _ _ _ h)
theorem f_m_readClause_27 (N : Nat) : ∀ (x1 x2 : Int) (w v : aw_W), m_readClause_27 N x1 x2 w = some v → fr_ S_m_readClause w v := by
  intro x1 x2 w v h
  unfold m_readClause_27 at h
  by_cases hc : x2 = 0
  · rw [if_pos hc] at h
    exact (fr_r S_m_readClause w).trans (f_m_readClause_38 N  _ _ _ _ h)
  · rw [if_neg hc] at h
    by_cases hc : (w 49 24) = 0
    · rw [if_pos hc] at h
      exact (fr_r S_m_readClause w).trans (f_m_readClause_38 N  _ _ _ _ h)
    · rw [if_neg hc] at h
      exact (fr_r S_m_readClause w).trans (f_m_readClause_53 N  _ _ h)
theorem f_m_readClause_16 (N : Nat) : ∀ (x1 s0 : Int) (w v : aw_W), m_readClause_16 N x1 s0 w = some v → fr_ S_m_readClause w v := by
  intro x1 s0 w v h
  unfold m_readClause_16 at h
  by_cases hc : s0 = 0
  · rw [if_pos hc] at h
    by_cases hc : x1 = 115
    · rw [if_pos hc] at h
      exact (fr_r S_m_readClause w).trans (f_m_readClause_27 N  _ _ _ _ h)
    · rw [if_neg hc] at h
      exact (fr_r S_m_readClause w).trans (f_m_readClause_53 N  _ _ h)
  · rw [if_neg hc] at h
    exact (fr_r S_m_readClause w).trans (f_m_readClause_27 N  _ _ _ _ h)
theorem f_m_readClause (N : Nat) : ∀ (w v : aw_W), m_readClause N w = some v → fr_ S_m_readClause w v := by
  intro w v h
  unfold m_readClause at h
  obtain ⟨r1, w1, h1, h⟩ := aw_b2s h
  have c1 := (fr_r S_m_readClause w).trans (fr_m (by decide) (f_m_look N _ _ _ h1))
  by_cases hc : r1 = 108
  · rw [if_pos hc] at h
    exact (c1).trans (f_m_readClause_16 N  _ _ _ _ h)
  · rw [if_neg hc] at h
    exact (c1).trans (f_m_readClause_16 N  _ _ _ _ h)
def S_m_readLand : List (Nat × Nat) := [(49, 5), (49, 8), (49, 9), (49, 10), (49, 11), (49, 23), (49, 24), (55, 1000000), (57, 1000000)]
theorem f_m_readLand_134 (N : Nat) : ∀ (w v : aw_W), m_readLand_134 N w = some v → fr_ S_m_readLand w v := by
  intro w v h
  unfold m_readLand_134 at h
  cases h
  exact fr_r S_m_readLand w
theorem f_m_readLand_129 (N : Nat) : ∀ (w v : aw_W), m_readLand_129 N w = some v → fr_ S_m_readLand w v := by
  intro w v h
  unfold m_readLand_129 at h
  obtain ⟨r1, w1, h1, h⟩ := aw_b2s h
  have c1 := (fr_r S_m_readLand w).trans (fr_m (by decide) (f_m_fails N _ _ _ h1))
  exact (c1).trans (f_m_readLand_134 N  _ _ h)
theorem f_m_readLand_105 (N : Nat) : ∀ (w v : aw_W), m_readLand_105 N w = some v → fr_ S_m_readLand w v := by
  intro w v h
  unfold m_readLand_105 at h
  by_cases hc : (w 49 11) = (-1)
  · rw [if_pos hc] at h
    obtain ⟨r1, w1, h1, h⟩ := aw_b2s h
    have c1 := (fr_r S_m_readLand w).trans (fr_m (by decide) (f_m_look N _ _ _ h1))
    by_cases hc : r1 = (-1)
    · rw [if_pos hc] at h
      by_cases hc : 2 ≤ (w1 49 23)
      · rw [if_pos hc] at h
        exact (c1).trans (f_m_readLand_134 N  _ _ h)
      · rw [if_neg hc] at h
        exact (c1).trans (f_m_readLand_129 N  _ _ h)
    · rw [if_neg hc] at h
      exact (c1).trans (f_m_readLand_129 N  _ _ h)
  · rw [if_neg hc] at h
    exact (fr_r S_m_readLand w).trans (f_m_readLand_134 N  _ _ h)
theorem f_m_readLand_87 (N : Nat) (k49 : Int → aw_W → Option (aw_W)) (hk49 : ∀ (x1 : Int) (w v : aw_W), k49 x1 w = some v → fr_ S_m_readLand w v) : ∀ (s0 : Int) (w v : aw_W), m_readLand_87 N k49 s0 w = some v → fr_ S_m_readLand w v := by
  intro s0 w v h
  unfold m_readLand_87 at h
  by_cases hc : s0 = 0
  · rw [if_pos hc] at h
    exact (fr_r S_m_readLand w).trans (hk49 _ _ _ h)
  · rw [if_neg hc] at h
    exact ((fr_r S_m_readLand w).up (by rfl)).trans (hk49 _ _ _ h)
theorem f_m_readLand_86 (N : Nat) (k49 : Int → aw_W → Option (aw_W)) (hk49 : ∀ (x1 : Int) (w v : aw_W), k49 x1 w = some v → fr_ S_m_readLand w v) : ∀ (w v : aw_W), m_readLand_86 N k49 w = some v → fr_ S_m_readLand w v := by
  intro w v h
  unfold m_readLand_86 at h
  exact (fr_r S_m_readLand w).trans (f_m_readLand_87 N  _ hk49 _ _ _ h)
theorem f_m_readLand_49 (N : Nat) : ∀ (n : Nat) (x1 : Int) (w v : aw_W), m_readLand_49 N n x1 w = some v → fr_ S_m_readLand w v := by
  intro n
  induction n with
  | zero => intro x1 w v h; rw [m_readLand_49] at h; cases h
  | succ n ih =>
    intro x1 w v h
    rw [m_readLand_49] at h
    by_cases hc : x1 = 0
    · rw [if_pos hc] at h
      exact (fr_r S_m_readLand w).trans (f_m_readLand_105 N  _ _ h)
    · rw [if_neg hc] at h
      by_cases hc : (w 49 11) = (-1)
      · rw [if_pos hc] at h
        obtain ⟨w1, h1, h⟩ := aw_b1s h
        have c1 := (fr_r S_m_readLand w).trans (fr_m (by decide) (f_m_readClause N _ _ h1))
        by_cases hc : (w1 49 11) = (-1)
        · rw [if_pos hc] at h
          obtain ⟨r2, w2, h2, h⟩ := aw_b2s h
          have c2 := (c1).trans (fr_m (by decide) (f_m_look N _ _ _ h2))
          by_cases hc : r2 = 59
          · rw [if_pos hc] at h
            exact (c2).trans (f_m_readLand_87 N  _ ih _ _ _ h)
          · rw [if_neg hc] at h
            exact (c2).trans (f_m_readLand_86 N  _ ih _ _ h)
        · rw [if_neg hc] at h
          exact (c1).trans (f_m_readLand_86 N  _ ih _ _ h)
      · rw [if_neg hc] at h
        exact (fr_r S_m_readLand w).trans (f_m_readLand_105 N  _ _ h)
theorem f_m_readLand_47 (N : Nat) : ∀ (w v : aw_W), m_readLand_47 N w = some v → fr_ S_m_readLand w v := by
  intro w v h
  unfold m_readLand_47 at h
  exact (fr_r S_m_readLand w).trans (f_m_readLand_49 N  N _ _ _ h)
theorem f_m_readLand_25 (N : Nat) : ∀ (n : Nat) (x1 : Int) (w v : aw_W), m_readLand_25 N n x1 w = some v → fr_ S_m_readLand w v := by
  intro n
  induction n with
  | zero => intro x1 w v h; rw [m_readLand_25] at h; cases h
  | succ n ih =>
    intro x1 w v h
    rw [m_readLand_25] at h
    by_cases hc : 5 ≤ x1
    · rw [if_pos hc] at h
      exact (fr_r S_m_readLand w).trans (f_m_readLand_47 N  _ _ h)
    · rw [if_neg hc] at h
      obtain ⟨r1, w1, h1, h⟩ := aw_b2s h
      have c1 := (fr_r S_m_readLand w).trans (fr_m (by decide) (f_m_usual N _ _ _ _ _ h1))
      obtain ⟨_, h⟩ := aw_cks h
      exact ((c1).upA (by rfl)).trans (ih _ _ _ h)
theorem f_m_readLand (N : Nat) : ∀ (w v : aw_W), m_readLand N w = some v → fr_ S_m_readLand w v := by
  intro w v h
  unfold m_readLand at h
  obtain ⟨w1, h1, h⟩ := aw_b1s h
  have c1 := (fr_r S_m_readLand w).trans (fr_m (by decide) (f_m_opens_49_50 N _ _ _ _ h1))
  exact (((c1).up (by rfl)).up (by rfl)).trans (f_m_readLand_25 N  N _ _ _ h)
def S_m_fault : List (Nat × Nat) := [(49, 0), (49, 5), (49, 8), (49, 9), (49, 10), (49, 11), (49, 12), (49, 13), (49, 14), (49, 17), (49, 23), (49, 24), (55, 1000000), (57, 1000000)]
theorem f_m_fault_42 (N : Nat) : ∀ (w : aw_W) (y : Int) (v : aw_W), m_fault_42 N w = some (y, v) → fr_ S_m_fault w v := by
  intro w y v h
  unfold m_fault_42 at h
  cases h
  exact fr_r S_m_fault w
theorem f_m_fault (N : Nat) : ∀ (x1 : Int) (w : aw_W) (y : Int) (v : aw_W), m_fault N x1 w = some (y, v) → fr_ S_m_fault w v := by
  intro x1 w y v h
  unfold m_fault at h
  obtain ⟨r1, w1, h1, h⟩ := aw_b2s h
  have c1 := ((fr_r S_m_fault w).up (by rfl)).trans (fr_m (by decide) (f_m_isIn N _ _ _ _ _ _ h1))
  by_cases hc : r1 = 0
  · rw [if_pos hc] at h
    cases h
    exact c1
  · rw [if_neg hc] at h
    by_cases hc : x1 = 0
    · rw [if_pos hc] at h
      obtain ⟨w3, h3, h⟩ := aw_b1s h
      have c3 := (c1).trans (fr_m (by decide) (f_m_readLand N _ _ h3))
      exact (c3).trans (f_m_fault_42 N  _ _ _ h)
    · rw [if_neg hc] at h
      obtain ⟨w2, h2, h⟩ := aw_b1s h
      have c2 := (c1).trans (fr_m (by decide) (f_m_goThrough_49_50 N _ _ _ _ h2))
      exact (c2).trans (f_m_fault_42 N  _ _ _ h)
def S_m_bytesIn : List (Nat × Nat) := []
theorem f_m_bytesIn_33 (N : Nat) : ∀ (x1 : Int) (w : aw_W) (y : Int) (v : aw_W), m_bytesIn_33 N x1 w = some (y, v) → fr_ S_m_bytesIn w v := by
  intro x1 w y v h
  unfold m_bytesIn_33 at h
  cases h
  exact fr_r S_m_bytesIn w
theorem f_m_bytesIn_25 (N : Nat) (k5 : Int → Int → Int → aw_W → Option (Int × aw_W)) (hk5 : ∀ (x0 x1 x2 : Int) (w : aw_W) (y : Int) (v : aw_W), k5 x0 x1 x2 w = some (y, v) → fr_ S_m_bytesIn w v) : ∀ (x0 x2 s0 s1 : Int) (w : aw_W) (y : Int) (v : aw_W), m_bytesIn_25 N k5 x0 x2 s0 s1 w = some (y, v) → fr_ S_m_bytesIn w v := by
  intro x0 x2 s0 s1 w y v h
  unfold m_bytesIn_25 at h
  exact (fr_r S_m_bytesIn w).trans (hk5 _ _ _ _ _ _ h)
theorem f_m_bytesIn_5 (N : Nat) : ∀ (n : Nat) (x0 x1 x2 : Int) (w : aw_W) (y : Int) (v : aw_W), m_bytesIn_5 N n x0 x1 x2 w = some (y, v) → fr_ S_m_bytesIn w v := by
  intro n
  induction n with
  | zero => intro x0 x1 x2 w y v h; rw [m_bytesIn_5] at h; cases h
  | succ n ih =>
    intro x0 x1 x2 w y v h
    rw [m_bytesIn_5] at h
    by_cases hc : x2 < 0
    · rw [if_pos hc] at h
      exact (fr_r S_m_bytesIn w).trans (f_m_bytesIn_33 N  _ _ _ _ h)
    · rw [if_neg hc] at h
      by_cases hc : (aw_and (aw_shr x0 x2) 255) = 0
      · rw [if_pos hc] at h
        exact (fr_r S_m_bytesIn w).trans (f_m_bytesIn_25 N  _ ih _ _ _ _ _ _ _ h)
      · rw [if_neg hc] at h
        exact (fr_r S_m_bytesIn w).trans (f_m_bytesIn_25 N  _ ih _ _ _ _ _ _ _ h)
theorem f_m_bytesIn (N : Nat) : ∀ (x0 : Int) (w : aw_W) (y : Int) (v : aw_W), m_bytesIn N x0 w = some (y, v) → fr_ S_m_bytesIn w v := by
  intro x0 w y v h
  unfold m_bytesIn at h
  exact (fr_r S_m_bytesIn w).trans (f_m_bytesIn_5 N  N _ _ _ _ _ _ h)
def S_m_put : List (Nat × Nat) := [(49, 6), (50, 1000000)]
theorem f_m_put_49 (N : Nat) : ∀ (w v : aw_W), m_put_49 N w = some v → fr_ S_m_put w v := by
  intro w v h
  unfold m_put_49 at h
  cases h
  exact fr_r S_m_put w
theorem f_m_put_43 (N : Nat) (k3 : Int → Int → aw_W → Option (aw_W)) (hk3 : ∀ (x1 x2 : Int) (w v : aw_W), k3 x1 x2 w = some v → fr_ S_m_put w v) : ∀ (x1 x2 : Int) (w v : aw_W), m_put_43 N k3 x1 x2 w = some v → fr_ S_m_put w v := by
  intro x1 x2 w v h
  unfold m_put_43 at h
  exact (fr_r S_m_put w).trans (hk3 _ _ _ _ h)
theorem f_m_put_3 (N : Nat) : ∀ (n : Nat) (x1 x2 : Int) (w v : aw_W), m_put_3 N n x1 x2 w = some v → fr_ S_m_put w v := by
  intro n
  induction n with
  | zero => intro x1 x2 w v h; rw [m_put_3] at h; cases h
  | succ n ih =>
    intro x1 x2 w v h
    rw [m_put_3] at h
    by_cases hc : x2 < 0
    · rw [if_pos hc] at h
      exact (fr_r S_m_put w).trans (f_m_put_49 N  _ _ h)
    · rw [if_neg hc] at h
      by_cases hc : (aw_and (aw_shr x1 x2) 255) = 0
      · rw [if_pos hc] at h
        exact (fr_r S_m_put w).trans (f_m_put_43 N  _ ih _ _ _ _ h)
      · rw [if_neg hc] at h
        obtain ⟨_, h⟩ := aw_cks h
        obtain ⟨_, h⟩ := aw_cks h
        exact (((fr_r S_m_put w).upA (by rfl)).up (by rfl)).trans (f_m_put_43 N  _ ih _ _ _ _ h)
theorem f_m_put (N : Nat) : ∀ (x1 : Int) (w v : aw_W), m_put N x1 w = some v → fr_ S_m_put w v := by
  intro x1 w v h
  unfold m_put at h
  exact (fr_r S_m_put w).trans (f_m_put_3 N  N _ _ _ _ h)
def S_m_feed : List (Nat × Nat) := [(49, 0), (49, 6), (50, 1000000)]
theorem f_m_feed (N : Nat) : ∀ (x1 x2 x3 x4 x5 : Int) (w : aw_W) (y : Int) (v : aw_W), m_feed N x1 x2 x3 x4 x5 w = some (y, v) → fr_ S_m_feed w v := by
  intro x1 x2 x3 x4 x5 w y v h
  unfold m_feed at h
  obtain ⟨r1, w1, h1, h⟩ := aw_b2s h
  have c1 := ((fr_r S_m_feed w).up (by rfl)).trans (fr_m (by decide) (f_m_bytesIn N _ _ _ _ h1))
  obtain ⟨r2, w2, h2, h⟩ := aw_b2s h
  have c2 := (c1).trans (fr_m (by decide) (f_m_bytesIn N _ _ _ _ h2))
  obtain ⟨r3, w3, h3, h⟩ := aw_b2s h
  have c3 := (c2).trans (fr_m (by decide) (f_m_bytesIn N _ _ _ _ h3))
  obtain ⟨r4, w4, h4, h⟩ := aw_b2s h
  have c4 := (c3).trans (fr_m (by decide) (f_m_bytesIn N _ _ _ _ h4))
  obtain ⟨r5, w5, h5, h⟩ := aw_b2s h
  have c5 := (c4).trans (fr_m (by decide) (f_m_bytesIn N _ _ _ _ h5))
  by_cases hc : (aw_w ((aw_w ((aw_w ((aw_w ((aw_w ((w 49 6) + r1)) + r2)) + r3)) + r4)) + r5)) ≤ 160
  · rw [if_pos hc] at h
    obtain ⟨w6, h6, h⟩ := aw_b1s h
    have c6 := (c5).trans (fr_m (by decide) (f_m_put N _ _ _ h6))
    obtain ⟨w7, h7, h⟩ := aw_b1s h
    have c7 := (c6).trans (fr_m (by decide) (f_m_put N _ _ _ h7))
    obtain ⟨w8, h8, h⟩ := aw_b1s h
    have c8 := (c7).trans (fr_m (by decide) (f_m_put N _ _ _ h8))
    obtain ⟨w9, h9, h⟩ := aw_b1s h
    have c9 := (c8).trans (fr_m (by decide) (f_m_put N _ _ _ h9))
    obtain ⟨w10, h10, h⟩ := aw_b1s h
    have c10 := (c9).trans (fr_m (by decide) (f_m_put N _ _ _ h10))
    cases h
    exact c10
  · rw [if_neg hc] at h
    cases h
    exact c5
def S_m_isPact : List (Nat × Nat) := [(64, 1000000)]
theorem f_m_isPact_34 (N : Nat) : ∀ (s0 : Int) (w : aw_W) (y : Int) (v : aw_W), m_isPact_34 N s0 w = some (y, v) → fr_ S_m_isPact w v := by
  intro s0 w y v h
  unfold m_isPact_34 at h
  obtain ⟨_, h⟩ := aw_cks h
  cases h
  exact fr_r S_m_isPact w
theorem f_m_isPact_33 (N : Nat) : ∀ (w : aw_W) (y : Int) (v : aw_W), m_isPact_33 N w = some (y, v) → fr_ S_m_isPact w v := by
  intro w y v h
  unfold m_isPact_33 at h
  exact (fr_r S_m_isPact w).trans (f_m_isPact_34 N  _ _ _ _ h)
theorem f_m_isPact (N : Nat) : ∀ (x1 x2 : Int) (w : aw_W) (y : Int) (v : aw_W), m_isPact N x1 x2 w = some (y, v) → fr_ S_m_isPact w v := by
  intro x1 x2 w y v h
  unfold m_isPact at h
  by_cases hc : (w 49 22) ≤ 0
  · rw [if_pos hc] at h
    exact (fr_r S_m_isPact w).trans (f_m_isPact_33 N  _ _ _ h)
  · rw [if_neg hc] at h
    by_cases hc : x2 ≤ 0
    · rw [if_pos hc] at h
      exact (fr_r S_m_isPact w).trans (f_m_isPact_33 N  _ _ _ h)
    · rw [if_neg hc] at h
      by_cases hc : (aw_shl 1 (w 49 22)) ≤ x2
      · rw [if_pos hc] at h
        exact (fr_r S_m_isPact w).trans (f_m_isPact_33 N  _ _ _ h)
      · rw [if_neg hc] at h
        obtain ⟨r1, w1, h1, h⟩ := aw_b2s h
        have c1 := (fr_r S_m_isPact w).trans (fr_m (by decide) (f_m_lay N _ _ _ _ h1))
        by_cases hc : r1 = 0
        · rw [if_pos hc] at h
          exact (c1).trans (f_m_isPact_33 N  _ _ _ h)
        · rw [if_neg hc] at h
          exact (c1).trans (f_m_isPact_34 N  _ _ _ _ h)
def S_m_firm : List (Nat × Nat) := [(49, 0), (49, 34), (49, 35), (59, 1000000), (60, 1000000), (64, 1000000)]
theorem f_m_firm_57 (N : Nat) : ∀ (w : aw_W) (y : Int) (v : aw_W), m_firm_57 N w = some (y, v) → fr_ S_m_firm w v := by
  intro w y v h
  unfold m_firm_57 at h
  cases h
  exact fr_r S_m_firm w
theorem f_m_firm_51 (N : Nat) (k18 : Int → Int → aw_W → Option (Int × aw_W)) (hk18 : ∀ (x2 x3 : Int) (w : aw_W) (y : Int) (v : aw_W), k18 x2 x3 w = some (y, v) → fr_ S_m_firm w v) : ∀ (x2 x3 : Int) (w : aw_W) (y : Int) (v : aw_W), m_firm_51 N k18 x2 x3 w = some (y, v) → fr_ S_m_firm w v := by
  intro x2 x3 w y v h
  unfold m_firm_51 at h
  exact (fr_r S_m_firm w).trans (hk18 _ _ _ _ _ h)
theorem f_m_firm_49 (N : Nat) : ∀ (w : aw_W) (y : Int) (v : aw_W), m_firm_49 N w = some (y, v) → fr_ S_m_firm w v := by
  intro w y v h
  unfold m_firm_49 at h
  cases h
  exact fr_r S_m_firm w
theorem f_m_firm_18 (N : Nat) : ∀ (n : Nat) (x2 x3 : Int) (w : aw_W) (y : Int) (v : aw_W), m_firm_18 N n x2 x3 w = some (y, v) → fr_ S_m_firm w v := by
  intro n
  induction n with
  | zero => intro x2 x3 w y v h; rw [m_firm_18] at h; cases h
  | succ n ih =>
    intro x2 x3 w y v h
    rw [m_firm_18] at h
    by_cases hc : (w 49 22) ≤ x3
    · rw [if_pos hc] at h
      exact (fr_r S_m_firm w).trans (f_m_firm_57 N  _ _ _ h)
    · rw [if_neg hc] at h
      obtain ⟨r1, w1, h1, h⟩ := aw_b2s h
      have c1 := (fr_r S_m_firm w).trans (fr_m (by decide) (f_m_has N _ _ _ _ _ h1))
      by_cases hc : r1 = 0
      · rw [if_pos hc] at h
        exact (c1).trans (f_m_firm_51 N  _ ih _ _ _ _ _ h)
      · rw [if_neg hc] at h
        obtain ⟨w2, h2, h⟩ := aw_b1s h
        have c2 := (c1).trans (fr_m (by decide) (f_m_layBest N _ _ _ h2))
        by_cases hc : (w2 49 35) ≤ 0
        · rw [if_pos hc] at h
          exact (c2).trans (f_m_firm_51 N  _ ih _ _ _ _ _ h)
        · rw [if_neg hc] at h
          exact (c2).trans (f_m_firm_49 N  _ _ _ h)
theorem f_m_firm (N : Nat) : ∀ (x1 x2 : Int) (w : aw_W) (y : Int) (v : aw_W), m_firm N x1 x2 w = some (y, v) → fr_ S_m_firm w v := by
  intro x1 x2 w y v h
  unfold m_firm at h
  obtain ⟨r1, w1, h1, h⟩ := aw_b2s h
  have c1 := ((fr_r S_m_firm w).up (by rfl)).trans (fr_m (by decide) (f_m_isPact N _ _ _ _ _ h1))
  by_cases hc : r1 = 0
  · rw [if_pos hc] at h
    cases h
    exact c1
  · rw [if_neg hc] at h
    exact (c1).trans (f_m_firm_18 N  N _ _ _ _ _ h)
def S_m_gain : List (Nat × Nat) := [(49, 0), (59, 1000000), (60, 1000000), (64, 1000000)]
theorem f_m_gain_32 (N : Nat) : ∀ (s0 : Int) (w : aw_W) (y : Int) (v : aw_W), m_gain_32 N s0 w = some (y, v) → fr_ S_m_gain w v := by
  intro s0 w y v h
  unfold m_gain_32 at h
  cases h
  exact fr_r S_m_gain w
theorem f_m_gain_21 (N : Nat) : ∀ (w : aw_W) (y : Int) (v : aw_W), m_gain_21 N w = some (y, v) → fr_ S_m_gain w v := by
  intro w y v h
  unfold m_gain_21 at h
  exact (fr_r S_m_gain w).trans (f_m_gain_32 N  _ _ _ _ h)
theorem f_m_gain (N : Nat) : ∀ (x1 x2 : Int) (w : aw_W) (y : Int) (v : aw_W), m_gain N x1 x2 w = some (y, v) → fr_ S_m_gain w v := by
  intro x1 x2 w y v h
  unfold m_gain at h
  obtain ⟨r1, w1, h1, h⟩ := aw_b2s h
  have c1 := ((fr_r S_m_gain w).up (by rfl)).trans (fr_m (by decide) (f_m_isStriver N _ _ _ _ h1))
  by_cases hc : r1 = 0
  · rw [if_pos hc] at h
    exact (c1).trans (f_m_gain_21 N  _ _ _ h)
  · rw [if_neg hc] at h
    obtain ⟨r2, w2, h2, h⟩ := aw_b2s h
    have c2 := (c1).trans (fr_m (by decide) (f_m_lay N _ _ _ _ h2))
    by_cases hc : r2 = 0
    · rw [if_pos hc] at h
      exact (c2).trans (f_m_gain_21 N  _ _ _ h)
    · rw [if_neg hc] at h
      obtain ⟨r3, w3, h3, h⟩ := aw_b2s h
      have c3 := (c2).trans (fr_m (by decide) (f_m_gainOf N _ _ _ _ h3))
      exact (c3).trans (f_m_gain_32 N  _ _ _ _ h)
def S_m_honour : List (Nat × Nat) := [(49, 0), (49, 43), (64, 1000000), (69, 1000000)]
theorem f_m_honour_29 (N : Nat) : ∀ (w : aw_W) (y : Int) (v : aw_W), m_honour_29 N w = some (y, v) → fr_ S_m_honour w v := by
  intro w y v h
  unfold m_honour_29 at h
  cases h
  exact fr_r S_m_honour w
theorem f_m_honour (N : Nat) : ∀ (x1 : Int) (w : aw_W) (y : Int) (v : aw_W), m_honour N x1 w = some (y, v) → fr_ S_m_honour w v := by
  intro x1 w y v h
  unfold m_honour at h
  by_cases hc : (w 49 22) = 0
  · rw [if_pos hc] at h
    exact ((fr_r S_m_honour w).up (by rfl)).trans (f_m_honour_29 N  _ _ _ h)
  · rw [if_neg hc] at h
    by_cases hc : (w 49 43) = 40
    · rw [if_pos hc] at h
      exact ((fr_r S_m_honour w).up (by rfl)).trans (f_m_honour_29 N  _ _ _ h)
    · rw [if_neg hc] at h
      obtain ⟨r1, w1, h1, h⟩ := aw_b2s h
      have c1 := ((fr_r S_m_honour w).up (by rfl)).trans (fr_m (by decide) (f_m_lay N _ _ _ _ h1))
      by_cases hc : r1 = 0
      · rw [if_pos hc] at h
        exact (c1).trans (f_m_honour_29 N  _ _ _ h)
      · rw [if_neg hc] at h
        obtain ⟨_, h⟩ := aw_cks h
        cases h
        exact ((c1).upA (by rfl)).up (by rfl)
def S_m_hope : List (Nat × Nat) := [(49, 0), (49, 45), (49, 46), (59, 1000000), (60, 1000000), (64, 1000000)]
theorem f_m_hope_46 (N : Nat) : ∀ (w : aw_W) (y : Int) (v : aw_W), m_hope_46 N w = some (y, v) → fr_ S_m_hope w v := by
  intro w y v h
  unfold m_hope_46 at h
  cases h
  exact fr_r S_m_hope w
theorem f_m_hope_71 (N : Nat) : ∀ (s0 : Int) (w : aw_W) (y : Int) (v : aw_W), m_hope_71 N s0 w = some (y, v) → fr_ S_m_hope w v := by
  intro s0 w y v h
  unfold m_hope_71 at h
  cases h
  exact fr_r S_m_hope w
theorem f_m_hope (N : Nat) : ∀ (x1 x2 x3 : Int) (w : aw_W) (y : Int) (v : aw_W), m_hope N x1 x2 x3 w = some (y, v) → fr_ S_m_hope w v := by
  intro x1 x2 x3 w y v h
  unfold m_hope at h
  obtain ⟨r1, w1, h1, h⟩ := aw_b2s h
  have c1 := ((fr_r S_m_hope w).up (by rfl)).trans (fr_m (by decide) (f_m_areFew N _ _ _ h1))
  by_cases hc : r1 = 0
  · rw [if_pos hc] at h
    exact (c1).trans (f_m_hope_46 N  _ _ _ h)
  · rw [if_neg hc] at h
    obtain ⟨r2, w2, h2, h⟩ := aw_b2s h
    have c2 := (c1).trans (fr_m (by decide) (f_m_isStriver N _ _ _ _ h2))
    by_cases hc : r2 = 0
    · rw [if_pos hc] at h
      exact (c2).trans (f_m_hope_46 N  _ _ _ h)
    · rw [if_neg hc] at h
      obtain ⟨r3, w3, h3, h⟩ := aw_b2s h
      have c3 := (c2).trans (fr_m (by decide) (f_m_isIn N _ _ _ _ _ _ h3))
      by_cases hc : r3 = 0
      · rw [if_pos hc] at h
        exact (c3).trans (f_m_hope_46 N  _ _ _ h)
      · rw [if_neg hc] at h
        obtain ⟨r4, w4, h4, h⟩ := aw_b2s h
        have c4 := (c3).trans (fr_m (by decide) (f_m_isIn N _ _ _ _ _ _ h4))
        by_cases hc : r4 = 0
        · rw [if_pos hc] at h
          exact (c4).trans (f_m_hope_46 N  _ _ _ h)
        · rw [if_neg hc] at h
          obtain ⟨w5, h5, h⟩ := aw_b1s h
          have c5 := (c4).trans (fr_m (by decide) (f_m_hopes N _ _ _ _ h5))
          by_cases hc : x3 = 0
          · rw [if_pos hc] at h
            exact (c5).trans (f_m_hope_71 N  _ _ _ _ h)
          · rw [if_neg hc] at h
            exact (c5).trans (f_m_hope_71 N  _ _ _ _ h)
def S_m_image : List (Nat × Nat) := [(49, 0), (49, 50), (49, 51), (70, 1000000), (71, 1000000), (72, 1000000)]
theorem f_m_image_91 (N : Nat) : ∀ (w : aw_W) (y : Int) (v : aw_W), m_image_91 N w = some (y, v) → fr_ S_m_image w v := by
  intro w y v h
  unfold m_image_91 at h
  cases h
  exact ((fr_r S_m_image w).up (by rfl)).up (by rfl)
theorem f_m_image_68 (N : Nat) : ∀ (n : Nat) (x1 : Int) (w : aw_W) (y : Int) (v : aw_W), m_image_68 N n x1 w = some (y, v) → fr_ S_m_image w v := by
  intro n
  induction n with
  | zero => intro x1 w y v h; rw [m_image_68] at h; cases h
  | succ n ih =>
    intro x1 w y v h
    rw [m_image_68] at h
    by_cases hc : 5 ≤ x1
    · rw [if_pos hc] at h
      exact (fr_r S_m_image w).trans (f_m_image_91 N  _ _ _ h)
    · rw [if_neg hc] at h
      obtain ⟨_, h⟩ := aw_cks h
      obtain ⟨_, h⟩ := aw_cks h
      exact ((fr_r S_m_image w).upA (by rfl)).trans (ih _ _ _ _ h)
theorem f_m_image_66 (N : Nat) : ∀ (w : aw_W) (y : Int) (v : aw_W), m_image_66 N w = some (y, v) → fr_ S_m_image w v := by
  intro w y v h
  unfold m_image_66 at h
  exact (fr_r S_m_image w).trans (f_m_image_68 N  N _ _ _ _ h)
theorem f_m_image_42 (N : Nat) : ∀ (n : Nat) (x1 : Int) (w : aw_W) (y : Int) (v : aw_W), m_image_42 N n x1 w = some (y, v) → fr_ S_m_image w v := by
  intro n
  induction n with
  | zero => intro x1 w y v h; rw [m_image_42] at h; cases h
  | succ n ih =>
    intro x1 w y v h
    rw [m_image_42] at h
    by_cases hc : 6 ≤ x1
    · rw [if_pos hc] at h
      exact (fr_r S_m_image w).trans (f_m_image_66 N  _ _ _ h)
    · rw [if_neg hc] at h
      obtain ⟨_, h⟩ := aw_cks h
      obtain ⟨_, h⟩ := aw_cks h
      exact ((fr_r S_m_image w).upA (by rfl)).trans (ih _ _ _ _ h)
theorem f_m_image_40 (N : Nat) : ∀ (w : aw_W) (y : Int) (v : aw_W), m_image_40 N w = some (y, v) → fr_ S_m_image w v := by
  intro w y v h
  unfold m_image_40 at h
  exact (fr_r S_m_image w).trans (f_m_image_42 N  N _ _ _ _ h)
theorem f_m_image_16 (N : Nat) : ∀ (n : Nat) (x1 : Int) (w : aw_W) (y : Int) (v : aw_W), m_image_16 N n x1 w = some (y, v) → fr_ S_m_image w v := by
  intro n
  induction n with
  | zero => intro x1 w y v h; rw [m_image_16] at h; cases h
  | succ n ih =>
    intro x1 w y v h
    rw [m_image_16] at h
    by_cases hc : 40 ≤ x1
    · rw [if_pos hc] at h
      exact (fr_r S_m_image w).trans (f_m_image_40 N  _ _ _ h)
    · rw [if_neg hc] at h
      obtain ⟨_, h⟩ := aw_cks h
      obtain ⟨_, h⟩ := aw_cks h
      exact ((fr_r S_m_image w).upA (by rfl)).trans (ih _ _ _ _ h)
theorem f_m_image (N : Nat) : ∀ (w : aw_W) (y : Int) (v : aw_W), m_image N w = some (y, v) → fr_ S_m_image w v := by
  intro w y v h
  unfold m_image at h
  by_cases hc : (w 49 22) = 0
  · rw [if_pos hc] at h
    cases h
    exact (fr_r S_m_image w).up (by rfl)
  · rw [if_neg hc] at h
    exact ((fr_r S_m_image w).up (by rfl)).trans (f_m_image_16 N  N _ _ _ _ h)
def S_m_latest : List (Nat × Nat) := [(49, 0), (49, 5), (49, 8), (49, 9), (49, 10), (49, 11), (49, 12), (49, 13), (49, 14), (49, 17), (49, 31), (53, 1000000), (59, 1000000), (60, 1000000), (61, 1000000), (62, 1000000), (63, 1000000)]
theorem f_m_latest_48 (N : Nat) : ∀ (w : aw_W) (y : Int) (v : aw_W), m_latest_48 N w = some (y, v) → fr_ S_m_latest w v := by
  intro w y v h
  unfold m_latest_48 at h
  cases h
  exact fr_r S_m_latest w
theorem f_m_latest_40 (N : Nat) : ∀ (x2 : Int) (w : aw_W) (y : Int) (v : aw_W), m_latest_40 N x2 w = some (y, v) → fr_ S_m_latest w v := by
  intro x2 w y v h
  unfold m_latest_40 at h
  cases h
  exact fr_r S_m_latest w
theorem f_m_latest_20 (N : Nat) : ∀ (n : Nat) (x1 x2 : Int) (w : aw_W) (y : Int) (v : aw_W), m_latest_20 N n x1 x2 w = some (y, v) → fr_ S_m_latest w v := by
  intro n
  induction n with
  | zero => intro x1 x2 w y v h; rw [m_latest_20] at h; cases h
  | succ n ih =>
    intro x1 x2 w y v h
    rw [m_latest_20] at h
    by_cases hc : 99 < x2
    · rw [if_pos hc] at h
      exact (fr_r S_m_latest w).trans (f_m_latest_48 N  _ _ _ h)
    · rw [if_neg hc] at h
      obtain ⟨w1, h1, h⟩ := aw_b1s h
      have c1 := (fr_r S_m_latest w).trans (fr_m (by decide) (f_m_run N _ _ _ _ h1))
      obtain ⟨r2, w2, h2, h⟩ := aw_b2s h
      have c2 := (c1).trans (fr_m (by decide) (f_m_winner N _ _ _ h2))
      by_cases hc : r2 = (-1)
      · rw [if_pos hc] at h
        exact (c2).trans (ih _ _ _ _ _ h)
      · rw [if_neg hc] at h
        exact (c2).trans (f_m_latest_40 N  _ _ _ _ h)
theorem f_m_latest (N : Nat) : ∀ (x1 : Int) (w : aw_W) (y : Int) (v : aw_W), m_latest N x1 w = some (y, v) → fr_ S_m_latest w v := by
  intro x1 w y v h
  unfold m_latest at h
  obtain ⟨r1, w1, h1, h⟩ := aw_b2s h
  have c1 := ((fr_r S_m_latest w).up (by rfl)).trans (fr_m (by decide) (f_m_isRace N _ _ _ _ _ h1))
  by_cases hc : r1 = 0
  · rw [if_pos hc] at h
    cases h
    exact c1
  · rw [if_neg hc] at h
    exact (c1).trans (f_m_latest_20 N  N _ _ _ _ _ h)
def S_m_law : List (Nat × Nat) := [(49, 0)]
theorem f_m_law_34 (N : Nat) : ∀ (s0 : Int) (w : aw_W) (y : Int) (v : aw_W), m_law_34 N s0 w = some (y, v) → fr_ S_m_law w v := by
  intro s0 w y v h
  unfold m_law_34 at h
  cases h
  exact fr_r S_m_law w
theorem f_m_law_33 (N : Nat) : ∀ (w : aw_W) (y : Int) (v : aw_W), m_law_33 N w = some (y, v) → fr_ S_m_law w v := by
  intro w y v h
  unfold m_law_33 at h
  exact (fr_r S_m_law w).trans (f_m_law_34 N  _ _ _ _ h)
theorem f_m_law (N : Nat) : ∀ (x1 : Int) (w : aw_W) (y : Int) (v : aw_W), m_law N x1 w = some (y, v) → fr_ S_m_law w v := by
  intro x1 w y v h
  unfold m_law at h
  by_cases hc : (w 49 22) ≤ 0
  · rw [if_pos hc] at h
    exact ((fr_r S_m_law w).up (by rfl)).trans (f_m_law_33 N  _ _ _ h)
  · rw [if_neg hc] at h
    obtain ⟨r1, w1, h1, h⟩ := aw_b2s h
    have c1 := ((fr_r S_m_law w).up (by rfl)).trans (fr_m (by decide) (f_m_isIn N _ _ _ _ _ _ h1))
    by_cases hc : r1 = 0
    · rw [if_pos hc] at h
      exact (c1).trans (f_m_law_33 N  _ _ _ h)
    · rw [if_neg hc] at h
      obtain ⟨_, h⟩ := aw_cks h
      exact (c1).trans (f_m_law_34 N  _ _ _ _ h)
