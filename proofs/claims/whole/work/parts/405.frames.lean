def S_m_layBooked : List (Nat × Nat) := [(59, 1000000), (60, 1000000), (64, 1000000)]
theorem f_m_layBooked_39 (N : Nat) : ∀ (w v : aw_W), m_layBooked_39 N w = some v → fr_ S_m_layBooked w v := by
  intro w v h
  unfold m_layBooked_39 at h
  obtain ⟨w1, h1, h⟩ := aw_b1s h
  have c1 := (fr_r S_m_layBooked w).trans (fr_m (by decide) (f_m_judge N _ _ h1))
  cases h
  exact c1
theorem f_m_layBooked_14 (N : Nat) : ∀ (n : Nat) (x2 x3 : Int) (w v : aw_W), m_layBooked_14 N n x2 x3 w = some v → fr_ S_m_layBooked w v := by
  intro n
  induction n with
  | zero => intro x2 x3 w v h; rw [m_layBooked_14] at h; cases h
  | succ n ih =>
    intro x2 x3 w v h
    rw [m_layBooked_14] at h
    by_cases hc : x3 < 0
    · rw [if_pos hc] at h
      exact (fr_r S_m_layBooked w).trans (f_m_layBooked_39 N  _ _ h)
    · rw [if_neg hc] at h
      obtain ⟨_, h⟩ := aw_cks h
      exact ((fr_r S_m_layBooked w).upA (by rfl)).trans (ih _ _ _ _ h)
theorem f_m_layBooked (N : Nat) : ∀ (x1 : Int) (w v : aw_W), m_layBooked N x1 w = some v → fr_ S_m_layBooked w v := by
  intro x1 w v h
  unfold m_layBooked at h
  obtain ⟨_, h⟩ := aw_cks h
  exact (fr_r S_m_layBooked w).trans (f_m_layBooked_14 N  N _ _ _ _ h)
def S_m_madeBy : List (Nat × Nat) := [(59, 1000000), (60, 1000000), (64, 1000000)]
theorem f_m_madeBy_52 (N : Nat) : ∀ (x3 : Int) (w : aw_W) (y : Int) (v : aw_W), m_madeBy_52 N x3 w = some (y, v) → fr_ S_m_madeBy w v := by
  intro x3 w y v h
  unfold m_madeBy_52 at h
  cases h
  exact fr_r S_m_madeBy w
theorem f_m_madeBy_44 (N : Nat) (k5 : Int → Int → Int → Int → aw_W → Option (Int × aw_W)) (hk5 : ∀ (x1 x2 x3 x4 : Int) (w : aw_W) (y : Int) (v : aw_W), k5 x1 x2 x3 x4 w = some (y, v) → fr_ S_m_madeBy w v) : ∀ (x1 x2 x4 s0 s1 : Int) (w : aw_W) (y : Int) (v : aw_W), m_madeBy_44 N k5 x1 x2 x4 s0 s1 w = some (y, v) → fr_ S_m_madeBy w v := by
  intro x1 x2 x4 s0 s1 w y v h
  unfold m_madeBy_44 at h
  exact (fr_r S_m_madeBy w).trans (hk5 _ _ _ _ _ _ _ h)
theorem f_m_madeBy_43 (N : Nat) (k5 : Int → Int → Int → Int → aw_W → Option (Int × aw_W)) (hk5 : ∀ (x1 x2 x3 x4 : Int) (w : aw_W) (y : Int) (v : aw_W), k5 x1 x2 x3 x4 w = some (y, v) → fr_ S_m_madeBy w v) : ∀ (x1 x2 x4 s0 : Int) (w : aw_W) (y : Int) (v : aw_W), m_madeBy_43 N k5 x1 x2 x4 s0 w = some (y, v) → fr_ S_m_madeBy w v := by
  intro x1 x2 x4 s0 w y v h
  unfold m_madeBy_43 at h
  exact (fr_r S_m_madeBy w).trans (f_m_madeBy_44 N  _ hk5 _ _ _ _ _ _ _ _ h)
theorem f_m_madeBy_5 (N : Nat) : ∀ (n : Nat) (x1 x2 x3 x4 : Int) (w : aw_W) (y : Int) (v : aw_W), m_madeBy_5 N n x1 x2 x3 x4 w = some (y, v) → fr_ S_m_madeBy w v := by
  intro n
  induction n with
  | zero => intro x1 x2 x3 x4 w y v h; rw [m_madeBy_5] at h; cases h
  | succ n ih =>
    intro x1 x2 x3 x4 w y v h
    rw [m_madeBy_5] at h
    by_cases hc : (w 49 43) ≤ x4
    · rw [if_pos hc] at h
      exact (fr_r S_m_madeBy w).trans (f_m_madeBy_52 N  _ _ _ _ h)
    · rw [if_neg hc] at h
      obtain ⟨w1, h1, h⟩ := aw_b1s h
      have c1 := (fr_r S_m_madeBy w).trans (fr_m (by decide) (f_m_layBooked N _ _ _ h1))
      obtain ⟨r2, w2, h2, h⟩ := aw_b2s h
      have c2 := (c1).trans (fr_m (by decide) (f_m_winner N _ _ _ h2))
      by_cases hc : r2 = x2
      · rw [if_pos hc] at h
        obtain ⟨r3, w3, h3, h⟩ := aw_b2s h
        have c3 := (c2).trans (fr_m (by decide) (f_m_firsts N _ _ _ h3))
        by_cases hc : r3 = (aw_shl 1 x1)
        · rw [if_pos hc] at h
          exact (c3).trans (f_m_madeBy_44 N  _ ih _ _ _ _ _ _ _ _ h)
        · rw [if_neg hc] at h
          exact (c3).trans (f_m_madeBy_43 N  _ ih _ _ _ _ _ _ _ h)
      · rw [if_neg hc] at h
        exact (c2).trans (f_m_madeBy_43 N  _ ih _ _ _ _ _ _ _ h)
theorem f_m_madeBy (N : Nat) : ∀ (x1 x2 : Int) (w : aw_W) (y : Int) (v : aw_W), m_madeBy N x1 x2 w = some (y, v) → fr_ S_m_madeBy w v := by
  intro x1 x2 w y v h
  unfold m_madeBy at h
  exact (fr_r S_m_madeBy w).trans (f_m_madeBy_5 N  N _ _ _ _ _ _ _ h)
def S_m_made : List (Nat × Nat) := [(49, 0), (59, 1000000), (60, 1000000), (64, 1000000)]
theorem f_m_made_36 (N : Nat) : ∀ (s0 : Int) (w : aw_W) (y : Int) (v : aw_W), m_made_36 N s0 w = some (y, v) → fr_ S_m_made w v := by
  intro s0 w y v h
  unfold m_made_36 at h
  cases h
  exact fr_r S_m_made w
theorem f_m_made_26 (N : Nat) : ∀ (w : aw_W) (y : Int) (v : aw_W), m_made_26 N w = some (y, v) → fr_ S_m_made w v := by
  intro w y v h
  unfold m_made_26 at h
  exact (fr_r S_m_made w).trans (f_m_made_36 N  _ _ _ _ h)
theorem f_m_made (N : Nat) : ∀ (x1 x2 : Int) (w : aw_W) (y : Int) (v : aw_W), m_made N x1 x2 w = some (y, v) → fr_ S_m_made w v := by
  intro x1 x2 w y v h
  unfold m_made at h
  obtain ⟨r1, w1, h1, h⟩ := aw_b2s h
  have c1 := ((fr_r S_m_made w).up (by rfl)).trans (fr_m (by decide) (f_m_isStriver N _ _ _ _ h1))
  by_cases hc : r1 = 0
  · rw [if_pos hc] at h
    exact (c1).trans (f_m_made_26 N  _ _ _ h)
  · rw [if_neg hc] at h
    obtain ⟨r2, w2, h2, h⟩ := aw_b2s h
    have c2 := (c1).trans (fr_m (by decide) (f_m_isStriver N _ _ _ _ h2))
    by_cases hc : r2 = 0
    · rw [if_pos hc] at h
      exact (c2).trans (f_m_made_26 N  _ _ _ h)
    · rw [if_neg hc] at h
      by_cases hc : x1 = x2
      · rw [if_pos hc] at h
        exact (c2).trans (f_m_made_26 N  _ _ _ h)
      · rw [if_neg hc] at h
        obtain ⟨r3, w3, h3, h⟩ := aw_b2s h
        have c3 := (c2).trans (fr_m (by decide) (f_m_madeBy N _ _ _ _ _ h3))
        exact (c3).trans (f_m_made_36 N  _ _ _ _ h)
def S_m_medal : List (Nat × Nat) := [(49, 0), (49, 5), (49, 8), (49, 9), (49, 10), (49, 11), (49, 12), (49, 13), (49, 14), (49, 17), (49, 31), (53, 1000000), (59, 1000000), (60, 1000000), (61, 1000000), (62, 1000000), (63, 1000000)]
theorem f_m_medal_22 (N : Nat) : ∀ (w : aw_W) (y : Int) (v : aw_W), m_medal_22 N w = some (y, v) → fr_ S_m_medal w v := by
  intro w y v h
  unfold m_medal_22 at h
  cases h
  exact fr_r S_m_medal w
theorem f_m_medal_52 (N : Nat) : ∀ (s0 : Int) (w : aw_W) (y : Int) (v : aw_W), m_medal_52 N s0 w = some (y, v) → fr_ S_m_medal w v := by
  intro s0 w y v h
  unfold m_medal_52 at h
  cases h
  exact fr_r S_m_medal w
theorem f_m_medal (N : Nat) : ∀ (x1 x2 x3 : Int) (w : aw_W) (y : Int) (v : aw_W), m_medal N x1 x2 x3 w = some (y, v) → fr_ S_m_medal w v := by
  intro x1 x2 x3 w y v h
  unfold m_medal at h
  obtain ⟨r1, w1, h1, h⟩ := aw_b2s h
  have c1 := ((fr_r S_m_medal w).up (by rfl)).trans (fr_m (by decide) (f_m_isRace N _ _ _ _ _ h1))
  by_cases hc : r1 = 0
  · rw [if_pos hc] at h
    exact (c1).trans (f_m_medal_22 N  _ _ _ h)
  · rw [if_neg hc] at h
    obtain ⟨r2, w2, h2, h⟩ := aw_b2s h
    have c2 := (c1).trans (fr_m (by decide) (f_m_isStriver N _ _ _ _ h2))
    by_cases hc : r2 = 0
    · rw [if_pos hc] at h
      exact (c2).trans (f_m_medal_22 N  _ _ _ h)
    · rw [if_neg hc] at h
      obtain ⟨w3, h3, h⟩ := aw_b1s h
      have c3 := (c2).trans (fr_m (by decide) (f_m_run N _ _ _ _ h3))
      obtain ⟨_, h⟩ := aw_cks h
      by_cases hc : (w3 60 x3.toNat) = 0
      · rw [if_pos hc] at h
        obtain ⟨r4, w4, h4, h⟩ := aw_b2s h
        have c4 := (c3).trans (fr_m (by decide) (f_m_aheadOf N _ _ _ _ h4))
        exact (c4).trans (f_m_medal_52 N  _ _ _ _ h)
      · rw [if_neg hc] at h
        exact (c3).trans (f_m_medal_52 N  _ _ _ _ h)
def S_m_near : List (Nat × Nat) := [(49, 0), (59, 1000000), (60, 1000000), (64, 1000000)]
theorem f_m_near_21 (N : Nat) : ∀ (w : aw_W) (y : Int) (v : aw_W), m_near_21 N w = some (y, v) → fr_ S_m_near w v := by
  intro w y v h
  unfold m_near_21 at h
  cases h
  exact fr_r S_m_near w
theorem f_m_near_119 (N : Nat) : ∀ (w : aw_W) (y : Int) (v : aw_W), m_near_119 N w = some (y, v) → fr_ S_m_near w v := by
  intro w y v h
  unfold m_near_119 at h
  cases h
  exact fr_r S_m_near w
theorem f_m_near_113 (N : Nat) (k25 : Int → Int → aw_W → Option (Int × aw_W)) (hk25 : ∀ (x2 x3 : Int) (w : aw_W) (y : Int) (v : aw_W), k25 x2 x3 w = some (y, v) → fr_ S_m_near w v) : ∀ (x2 x3 : Int) (w : aw_W) (y : Int) (v : aw_W), m_near_113 N k25 x2 x3 w = some (y, v) → fr_ S_m_near w v := by
  intro x2 x3 w y v h
  unfold m_near_113 at h
  exact (fr_r S_m_near w).trans (hk25 _ _ _ _ _ h)
theorem f_m_near_104 (N : Nat) : ∀ (x2 x3 : Int) (w : aw_W) (y : Int) (v : aw_W), m_near_104 N x2 x3 w = some (y, v) → fr_ S_m_near w v := by
  intro x2 x3 w y v h
  unfold m_near_104 at h
  obtain ⟨_, h⟩ := aw_cks h
  cases h
  exact fr_r S_m_near w
theorem f_m_near_71 (N : Nat) (k25 : Int → Int → aw_W → Option (Int × aw_W)) (hk25 : ∀ (x2 x3 : Int) (w : aw_W) (y : Int) (v : aw_W), k25 x2 x3 w = some (y, v) → fr_ S_m_near w v) : ∀ (x2 x3 : Int) (w : aw_W) (y : Int) (v : aw_W), m_near_71 N k25 x2 x3 w = some (y, v) → fr_ S_m_near w v := by
  intro x2 x3 w y v h
  unfold m_near_71 at h
  obtain ⟨_, h⟩ := aw_cks h
  by_cases hc : (w 56 4) < (aw_w ((w 64 x2.toNat) + x3))
  · rw [if_pos hc] at h
    exact (fr_r S_m_near w).trans (f_m_near_113 N  _ hk25 _ _ _ _ _ h)
  · rw [if_neg hc] at h
    obtain ⟨_, h⟩ := aw_cks h
    obtain ⟨r1, w1, h1, h⟩ := aw_b2s h
    have c1 := (fr_r S_m_near w).trans (fr_m (by decide) (f_m_hasBy N _ _ _ _ _ h1))
    by_cases hc : r1 = 0
    · rw [if_pos hc] at h
      exact (c1).trans (f_m_near_113 N  _ hk25 _ _ _ _ _ h)
    · rw [if_neg hc] at h
      exact (c1).trans (f_m_near_104 N  _ _ _ _ _ h)
theorem f_m_near_62 (N : Nat) : ∀ (x2 x3 : Int) (w : aw_W) (y : Int) (v : aw_W), m_near_62 N x2 x3 w = some (y, v) → fr_ S_m_near w v := by
  intro x2 x3 w y v h
  unfold m_near_62 at h
  obtain ⟨_, h⟩ := aw_cks h
  cases h
  exact fr_r S_m_near w
theorem f_m_near_25 (N : Nat) : ∀ (n : Nat) (x2 x3 : Int) (w : aw_W) (y : Int) (v : aw_W), m_near_25 N n x2 x3 w = some (y, v) → fr_ S_m_near w v := by
  intro n
  induction n with
  | zero => intro x2 x3 w y v h; rw [m_near_25] at h; cases h
  | succ n ih =>
    intro x2 x3 w y v h
    rw [m_near_25] at h
    by_cases hc : (w 56 4) < x3
    · rw [if_pos hc] at h
      exact (fr_r S_m_near w).trans (f_m_near_119 N  _ _ _ h)
    · rw [if_neg hc] at h
      obtain ⟨_, h⟩ := aw_cks h
      by_cases hc : (aw_w ((w 64 x2.toNat) - x3)) < 0
      · rw [if_pos hc] at h
        exact (fr_r S_m_near w).trans (f_m_near_71 N  _ ih _ _ _ _ _ h)
      · rw [if_neg hc] at h
        obtain ⟨_, h⟩ := aw_cks h
        obtain ⟨r1, w1, h1, h⟩ := aw_b2s h
        have c1 := (fr_r S_m_near w).trans (fr_m (by decide) (f_m_hasBy N _ _ _ _ _ h1))
        by_cases hc : r1 = 0
        · rw [if_pos hc] at h
          exact (c1).trans (f_m_near_71 N  _ ih _ _ _ _ _ h)
        · rw [if_neg hc] at h
          exact (c1).trans (f_m_near_62 N  _ _ _ _ _ h)
theorem f_m_near (N : Nat) : ∀ (x1 x2 : Int) (w : aw_W) (y : Int) (v : aw_W), m_near N x1 x2 w = some (y, v) → fr_ S_m_near w v := by
  intro x1 x2 w y v h
  unfold m_near at h
  obtain ⟨r1, w1, h1, h⟩ := aw_b2s h
  have c1 := ((fr_r S_m_near w).up (by rfl)).trans (fr_m (by decide) (f_m_isStriver N _ _ _ _ h1))
  by_cases hc : r1 = 0
  · rw [if_pos hc] at h
    exact (c1).trans (f_m_near_21 N  _ _ _ h)
  · rw [if_neg hc] at h
    obtain ⟨r2, w2, h2, h⟩ := aw_b2s h
    have c2 := (c1).trans (fr_m (by decide) (f_m_lay N _ _ _ _ h2))
    by_cases hc : r2 = 0
    · rw [if_pos hc] at h
      exact (c2).trans (f_m_near_21 N  _ _ _ h)
    · rw [if_neg hc] at h
      exact (c2).trans (f_m_near_25 N  N _ _ _ _ _ h)
def S_m_often : List (Nat × Nat) := [(49, 0), (59, 1000000), (60, 1000000), (64, 1000000)]
theorem f_m_often_54 (N : Nat) : ∀ (x2 : Int) (w : aw_W) (y : Int) (v : aw_W), m_often_54 N x2 w = some (y, v) → fr_ S_m_often w v := by
  intro x2 w y v h
  unfold m_often_54 at h
  cases h
  exact fr_r S_m_often w
theorem f_m_often_46 (N : Nat) (k19 : Int → Int → Int → aw_W → Option (Int × aw_W)) (hk19 : ∀ (x1 x2 x3 : Int) (w : aw_W) (y : Int) (v : aw_W), k19 x1 x2 x3 w = some (y, v) → fr_ S_m_often w v) : ∀ (x1 x3 s0 s1 : Int) (w : aw_W) (y : Int) (v : aw_W), m_often_46 N k19 x1 x3 s0 s1 w = some (y, v) → fr_ S_m_often w v := by
  intro x1 x3 s0 s1 w y v h
  unfold m_often_46 at h
  exact (fr_r S_m_often w).trans (hk19 _ _ _ _ _ _ h)
theorem f_m_often_19 (N : Nat) : ∀ (n : Nat) (x1 x2 x3 : Int) (w : aw_W) (y : Int) (v : aw_W), m_often_19 N n x1 x2 x3 w = some (y, v) → fr_ S_m_often w v := by
  intro n
  induction n with
  | zero => intro x1 x2 x3 w y v h; rw [m_often_19] at h; cases h
  | succ n ih =>
    intro x1 x2 x3 w y v h
    rw [m_often_19] at h
    by_cases hc : (w 49 43) ≤ x3
    · rw [if_pos hc] at h
      exact (fr_r S_m_often w).trans (f_m_often_54 N  _ _ _ _ h)
    · rw [if_neg hc] at h
      obtain ⟨w1, h1, h⟩ := aw_b1s h
      have c1 := (fr_r S_m_often w).trans (fr_m (by decide) (f_m_layBooked N _ _ _ h1))
      obtain ⟨r2, w2, h2, h⟩ := aw_b2s h
      have c2 := (c1).trans (fr_m (by decide) (f_m_winner N _ _ _ h2))
      by_cases hc : r2 = x1
      · rw [if_pos hc] at h
        exact (c2).trans (f_m_often_46 N  _ ih _ _ _ _ _ _ _ h)
      · rw [if_neg hc] at h
        exact (c2).trans (f_m_often_46 N  _ ih _ _ _ _ _ _ _ h)
theorem f_m_often (N : Nat) : ∀ (x1 : Int) (w : aw_W) (y : Int) (v : aw_W), m_often N x1 w = some (y, v) → fr_ S_m_often w v := by
  intro x1 w y v h
  unfold m_often at h
  obtain ⟨r1, w1, h1, h⟩ := aw_b2s h
  have c1 := ((fr_r S_m_often w).up (by rfl)).trans (fr_m (by decide) (f_m_isStriver N _ _ _ _ h1))
  by_cases hc : r1 = 0
  · rw [if_pos hc] at h
    cases h
    exact c1
  · rw [if_neg hc] at h
    exact (c1).trans (f_m_often_19 N  N _ _ _ _ _ _ h)
def S_m_pair : List (Nat × Nat) := [(49, 0), (59, 1000000), (60, 1000000), (64, 1000000)]
theorem f_m_pair_79 (N : Nat) : ∀ (x1 : Int) (w : aw_W) (y : Int) (v : aw_W), m_pair_79 N x1 w = some (y, v) → fr_ S_m_pair w v := by
  intro x1 w y v h
  unfold m_pair_79 at h
  cases h
  exact fr_r S_m_pair w
theorem f_m_pair_73 (N : Nat) (k11 : Int → Int → Int → aw_W → Option (Int × aw_W)) (hk11 : ∀ (x1 x2 x3 : Int) (w : aw_W) (y : Int) (v : aw_W), k11 x1 x2 x3 w = some (y, v) → fr_ S_m_pair w v) : ∀ (x1 x2 x3 : Int) (w : aw_W) (y : Int) (v : aw_W), m_pair_73 N k11 x1 x2 x3 w = some (y, v) → fr_ S_m_pair w v := by
  intro x1 x2 x3 w y v h
  unfold m_pair_73 at h
  exact (fr_r S_m_pair w).trans (hk11 _ _ _ _ _ _ h)
theorem f_m_pair_67 (N : Nat) (k11 : Int → Int → Int → aw_W → Option (Int × aw_W)) (hk11 : ∀ (x1 x2 x3 : Int) (w : aw_W) (y : Int) (v : aw_W), k11 x1 x2 x3 w = some (y, v) → fr_ S_m_pair w v) (k22 : Int → Int → Int → Int → aw_W → Option (Int × aw_W)) (hk22 : ∀ (x1 x2 x3 x4 : Int) (w : aw_W) (y : Int) (v : aw_W), k22 x1 x2 x3 x4 w = some (y, v) → fr_ S_m_pair w v) : ∀ (x1 x2 x3 x4 : Int) (w : aw_W) (y : Int) (v : aw_W), m_pair_67 N k11 k22 x1 x2 x3 x4 w = some (y, v) → fr_ S_m_pair w v := by
  intro x1 x2 x3 x4 w y v h
  unfold m_pair_67 at h
  exact (fr_r S_m_pair w).trans (hk22 _ _ _ _ _ _ _ h)
theorem f_m_pair_22 (N : Nat) (k11 : Int → Int → Int → aw_W → Option (Int × aw_W)) (hk11 : ∀ (x1 x2 x3 : Int) (w : aw_W) (y : Int) (v : aw_W), k11 x1 x2 x3 w = some (y, v) → fr_ S_m_pair w v) : ∀ (n : Nat) (x1 x2 x3 x4 : Int) (w : aw_W) (y : Int) (v : aw_W), m_pair_22 N k11 n x1 x2 x3 x4 w = some (y, v) → fr_ S_m_pair w v := by
  intro n
  induction n with
  | zero => intro x1 x2 x3 x4 w y v h; rw [m_pair_22] at h; cases h
  | succ n ih =>
    intro x1 x2 x3 x4 w y v h
    rw [m_pair_22] at h
    by_cases hc : (w 49 22) ≤ x4
    · rw [if_pos hc] at h
      exact (fr_r S_m_pair w).trans (f_m_pair_73 N  _ hk11 _ _ _ _ _ _ h)
    · rw [if_neg hc] at h
      by_cases hc : x3 = x4
      · rw [if_pos hc] at h
        exact (fr_r S_m_pair w).trans (f_m_pair_67 N  _ hk11 _ ih _ _ _ _ _ _ _ h)
      · rw [if_neg hc] at h
        obtain ⟨r1, w1, h1, h⟩ := aw_b2s h
        have c1 := (fr_r S_m_pair w).trans (fr_m (by decide) (f_m_madeBy N _ _ _ _ _ h1))
        by_cases hc : x2 < r1
        · rw [if_pos hc] at h
          obtain ⟨r2, w2, h2, h⟩ := aw_b2s h
          have c2 := (c1).trans (fr_m (by decide) (f_m_madeBy N _ _ _ _ _ h2))
          exact (c2).trans (f_m_pair_67 N  _ hk11 _ ih _ _ _ _ _ _ _ h)
        · rw [if_neg hc] at h
          exact (c1).trans (f_m_pair_67 N  _ hk11 _ ih _ _ _ _ _ _ _ h)
theorem f_m_pair_11 (N : Nat) : ∀ (n : Nat) (x1 x2 x3 : Int) (w : aw_W) (y : Int) (v : aw_W), m_pair_11 N n x1 x2 x3 w = some (y, v) → fr_ S_m_pair w v := by
  intro n
  induction n with
  | zero => intro x1 x2 x3 w y v h; rw [m_pair_11] at h; cases h
  | succ n ih =>
    intro x1 x2 x3 w y v h
    rw [m_pair_11] at h
    by_cases hc : (w 49 22) ≤ x3
    · rw [if_pos hc] at h
      exact (fr_r S_m_pair w).trans (f_m_pair_79 N  _ _ _ _ h)
    · rw [if_neg hc] at h
      exact (fr_r S_m_pair w).trans (f_m_pair_22 N  _ ih N _ _ _ _ _ _ _ h)
theorem f_m_pair (N : Nat) : ∀ (w : aw_W) (y : Int) (v : aw_W), m_pair N w = some (y, v) → fr_ S_m_pair w v := by
  intro w y v h
  unfold m_pair at h
  exact ((fr_r S_m_pair w).up (by rfl)).trans (f_m_pair_11 N  N _ _ _ _ _ _ h)
def S_m_race : List (Nat × Nat) := [(49, 0), (49, 5), (49, 8), (49, 9), (49, 10), (49, 11), (49, 12), (49, 13), (49, 14), (49, 17), (49, 31), (53, 1000000), (59, 1000000), (60, 1000000), (61, 1000000), (62, 1000000), (63, 1000000)]
theorem f_m_race_26 (N : Nat) : ∀ (w : aw_W) (y : Int) (v : aw_W), m_race_26 N w = some (y, v) → fr_ S_m_race w v := by
  intro w y v h
  unfold m_race_26 at h
  cases h
  exact fr_r S_m_race w
theorem f_m_race_96 (N : Nat) : ∀ (x4 : Int) (w : aw_W) (y : Int) (v : aw_W), m_race_96 N x4 w = some (y, v) → fr_ S_m_race w v := by
  intro x4 w y v h
  unfold m_race_96 at h
  cases h
  exact fr_r S_m_race w
theorem f_m_race_87 (N : Nat) (k61 : Int → Int → aw_W → Option (Int × aw_W)) (hk61 : ∀ (x4 x5 : Int) (w : aw_W) (y : Int) (v : aw_W), k61 x4 x5 w = some (y, v) → fr_ S_m_race w v) : ∀ (x5 s0 s1 : Int) (w : aw_W) (y : Int) (v : aw_W), m_race_87 N k61 x5 s0 s1 w = some (y, v) → fr_ S_m_race w v := by
  intro x5 s0 s1 w y v h
  unfold m_race_87 at h
  exact (fr_r S_m_race w).trans (hk61 _ _ _ _ _ h)
theorem f_m_race_61 (N : Nat) : ∀ (n : Nat) (x4 x5 : Int) (w : aw_W) (y : Int) (v : aw_W), m_race_61 N n x4 x5 w = some (y, v) → fr_ S_m_race w v := by
  intro n
  induction n with
  | zero => intro x4 x5 w y v h; rw [m_race_61] at h; cases h
  | succ n ih =>
    intro x4 x5 w y v h
    rw [m_race_61] at h
    by_cases hc : (w 49 22) ≤ x5
    · rw [if_pos hc] at h
      exact (fr_r S_m_race w).trans (f_m_race_96 N  _ _ _ _ h)
    · rw [if_neg hc] at h
      obtain ⟨_, h⟩ := aw_cks h
      by_cases hc : (w 60 x5.toNat) = 0
      · rw [if_pos hc] at h
        exact (fr_r S_m_race w).trans (f_m_race_87 N  _ ih _ _ _ _ _ _ h)
      · rw [if_neg hc] at h
        exact (fr_r S_m_race w).trans (f_m_race_87 N  _ ih _ _ _ _ _ _ h)
theorem f_m_race (N : Nat) : ∀ (x1 x2 x3 : Int) (w : aw_W) (y : Int) (v : aw_W), m_race N x1 x2 x3 w = some (y, v) → fr_ S_m_race w v := by
  intro x1 x2 x3 w y v h
  unfold m_race at h
  obtain ⟨r1, w1, h1, h⟩ := aw_b2s h
  have c1 := ((fr_r S_m_race w).up (by rfl)).trans (fr_m (by decide) (f_m_isRace N _ _ _ _ _ h1))
  by_cases hc : r1 = 0
  · rw [if_pos hc] at h
    exact (c1).trans (f_m_race_26 N  _ _ _ h)
  · rw [if_neg hc] at h
    obtain ⟨r2, w2, h2, h⟩ := aw_b2s h
    have c2 := (c1).trans (fr_m (by decide) (f_m_isIn N _ _ _ _ _ _ h2))
    by_cases hc : r2 = 0
    · rw [if_pos hc] at h
      exact (c2).trans (f_m_race_26 N  _ _ _ h)
    · rw [if_neg hc] at h
      obtain ⟨w3, h3, h⟩ := aw_b1s h
      have c3 := (c2).trans (fr_m (by decide) (f_m_run N _ _ _ _ h3))
      by_cases hc : x3 = 0
      · rw [if_pos hc] at h
        obtain ⟨r4, w4, h4, h⟩ := aw_b2s h
        have c4 := (c3).trans (fr_m (by decide) (f_m_winner N _ _ _ h4))
        cases h
        exact c4
      · rw [if_neg hc] at h
        by_cases hc : x3 = 2
        · rw [if_pos hc] at h
          cases h
          exact c3
        · rw [if_neg hc] at h
          exact (c3).trans (f_m_race_61 N  N _ _ _ _ _ h)
def S_m_rowMany : List (Nat × Nat) := []
theorem f_m_rowMany_23 (N : Nat) : ∀ (x1 : Int) (w : aw_W) (y : Int) (v : aw_W), m_rowMany_23 N x1 w = some (y, v) → fr_ S_m_rowMany w v := by
  intro x1 w y v h
  unfold m_rowMany_23 at h
  cases h
  exact fr_r S_m_rowMany w
theorem f_m_rowMany_4 (N : Nat) : ∀ (n : Nat) (x1 x2 : Int) (w : aw_W) (y : Int) (v : aw_W), m_rowMany_4 N n x1 x2 w = some (y, v) → fr_ S_m_rowMany w v := by
  intro n
  induction n with
  | zero => intro x1 x2 w y v h; rw [m_rowMany_4] at h; cases h
  | succ n ih =>
    intro x1 x2 w y v h
    rw [m_rowMany_4] at h
    by_cases hc : (w 49 22) ≤ x2
    · rw [if_pos hc] at h
      exact (fr_r S_m_rowMany w).trans (f_m_rowMany_23 N  _ _ _ _ h)
    · rw [if_neg hc] at h
      exact (fr_r S_m_rowMany w).trans (ih _ _ _ _ _ h)
theorem f_m_rowMany (N : Nat) : ∀ (w : aw_W) (y : Int) (v : aw_W), m_rowMany N w = some (y, v) → fr_ S_m_rowMany w v := by
  intro w y v h
  unfold m_rowMany at h
  exact (fr_r S_m_rowMany w).trans (f_m_rowMany_4 N  N _ _ _ _ _ h)
def S_m_isRest : List (Nat × Nat) := [(49, 34), (49, 35), (59, 1000000), (60, 1000000), (64, 1000000)]
theorem f_m_isRest_30 (N : Nat) : ∀ (w : aw_W) (y : Int) (v : aw_W), m_isRest_30 N w = some (y, v) → fr_ S_m_isRest w v := by
  intro w y v h
  unfold m_isRest_30 at h
  cases h
  exact fr_r S_m_isRest w
theorem f_m_isRest_22 (N : Nat) : ∀ (w : aw_W) (y : Int) (v : aw_W), m_isRest_22 N w = some (y, v) → fr_ S_m_isRest w v := by
  intro w y v h
  unfold m_isRest_22 at h
  cases h
  exact fr_r S_m_isRest w
theorem f_m_isRest_2 (N : Nat) : ∀ (n : Nat) (x1 : Int) (w : aw_W) (y : Int) (v : aw_W), m_isRest_2 N n x1 w = some (y, v) → fr_ S_m_isRest w v := by
  intro n
  induction n with
  | zero => intro x1 w y v h; rw [m_isRest_2] at h; cases h
  | succ n ih =>
    intro x1 w y v h
    rw [m_isRest_2] at h
    by_cases hc : (w 49 22) ≤ x1
    · rw [if_pos hc] at h
      exact (fr_r S_m_isRest w).trans (f_m_isRest_30 N  _ _ _ h)
    · rw [if_neg hc] at h
      obtain ⟨w1, h1, h⟩ := aw_b1s h
      have c1 := (fr_r S_m_isRest w).trans (fr_m (by decide) (f_m_layBest N _ _ _ h1))
      by_cases hc : (w1 49 35) ≤ 0
      · rw [if_pos hc] at h
        exact (c1).trans (ih _ _ _ _ h)
      · rw [if_neg hc] at h
        exact (c1).trans (f_m_isRest_22 N  _ _ _ h)
theorem f_m_isRest (N : Nat) : ∀ (w : aw_W) (y : Int) (v : aw_W), m_isRest N w = some (y, v) → fr_ S_m_isRest w v := by
  intro w y v h
  unfold m_isRest at h
  exact (fr_r S_m_isRest w).trans (f_m_isRest_2 N  N _ _ _ _ h)
def S_m_rests : List (Nat × Nat) := [(49, 0), (49, 34), (49, 35), (59, 1000000), (60, 1000000), (64, 1000000)]
theorem f_m_rests_72 (N : Nat) : ∀ (s0 : Int) (w : aw_W) (y : Int) (v : aw_W), m_rests_72 N s0 w = some (y, v) → fr_ S_m_rests w v := by
  intro s0 w y v h
  unfold m_rests_72 at h
  cases h
  exact fr_r S_m_rests w
theorem f_m_rests_62 (N : Nat) : ∀ (x1 x2 : Int) (w : aw_W) (y : Int) (v : aw_W), m_rests_62 N x1 x2 w = some (y, v) → fr_ S_m_rests w v := by
  intro x1 x2 w y v h
  unfold m_rests_62 at h
  by_cases hc : x1 = (-1)
  · rw [if_pos hc] at h
    exact (fr_r S_m_rests w).trans (f_m_rests_72 N  _ _ _ _ h)
  · rw [if_neg hc] at h
    exact (fr_r S_m_rests w).trans (f_m_rests_72 N  _ _ _ _ h)
theorem f_m_rests_56 (N : Nat) (k20 : Int → Int → Int → aw_W → Option (Int × aw_W)) (hk20 : ∀ (x1 x2 x3 : Int) (w : aw_W) (y : Int) (v : aw_W), k20 x1 x2 x3 w = some (y, v) → fr_ S_m_rests w v) : ∀ (x1 x2 x3 : Int) (w : aw_W) (y : Int) (v : aw_W), m_rests_56 N k20 x1 x2 x3 w = some (y, v) → fr_ S_m_rests w v := by
  intro x1 x2 x3 w y v h
  unfold m_rests_56 at h
  exact (fr_r S_m_rests w).trans (hk20 _ _ _ _ _ _ h)
theorem f_m_rests_51 (N : Nat) : ∀ (x3 : Int) (w : aw_W) (y : Int) (v : aw_W), m_rests_51 N x3 w = some (y, v) → fr_ S_m_rests w v := by
  intro x3 w y v h
  unfold m_rests_51 at h
  cases h
  exact fr_r S_m_rests w
theorem f_m_rests_20 (N : Nat) : ∀ (n : Nat) (x1 x2 x3 : Int) (w : aw_W) (y : Int) (v : aw_W), m_rests_20 N n x1 x2 x3 w = some (y, v) → fr_ S_m_rests w v := by
  intro n
  induction n with
  | zero => intro x1 x2 x3 w y v h; rw [m_rests_20] at h; cases h
  | succ n ih =>
    intro x1 x2 x3 w y v h
    rw [m_rests_20] at h
    obtain ⟨r1, w1, h1, h⟩ := aw_b2s h
    have c1 := (fr_r S_m_rests w).trans (fr_m (by decide) (f_m_rowMany N _ _ _ h1))
    by_cases hc : r1 ≤ x3
    · rw [if_pos hc] at h
      exact (c1).trans (f_m_rests_62 N  _ _ _ _ _ h)
    · rw [if_neg hc] at h
      obtain ⟨r2, w2, h2, h⟩ := aw_b2s h
      have c2 := (c1).trans (fr_m (by decide) (f_m_lay N _ _ _ _ h2))
      by_cases hc : r2 = 0
      · rw [if_pos hc] at h
        exact (c2).trans (f_m_rests_56 N  _ ih _ _ _ _ _ _ h)
      · rw [if_neg hc] at h
        obtain ⟨r3, w3, h3, h⟩ := aw_b2s h
        have c3 := (c2).trans (fr_m (by decide) (f_m_isRest N _ _ _ h3))
        by_cases hc : r3 = 0
        · rw [if_pos hc] at h
          exact (c3).trans (f_m_rests_56 N  _ ih _ _ _ _ _ _ h)
        · rw [if_neg hc] at h
          by_cases hc : x2 = x1
          · rw [if_pos hc] at h
            exact (c3).trans (f_m_rests_51 N  _ _ _ _ h)
          · rw [if_neg hc] at h
            exact (c3).trans (f_m_rests_56 N  _ ih _ _ _ _ _ _ h)
theorem f_m_rests (N : Nat) : ∀ (x1 : Int) (w : aw_W) (y : Int) (v : aw_W), m_rests N x1 w = some (y, v) → fr_ S_m_rests w v := by
  intro x1 w y v h
  unfold m_rests at h
  obtain ⟨r1, w1, h1, h⟩ := aw_b2s h
  have c1 := ((fr_r S_m_rests w).up (by rfl)).trans (fr_m (by decide) (f_m_areFew N _ _ _ h1))
  by_cases hc : r1 = 0
  · rw [if_pos hc] at h
    cases h
    exact c1
  · rw [if_neg hc] at h
    exact (c1).trans (f_m_rests_20 N  N _ _ _ _ _ _ h)
def S_m_rowOf : List (Nat × Nat) := []
theorem f_m_rowOf_30 (N : Nat) : ∀ (x1 : Int) (w : aw_W) (y : Int) (v : aw_W), m_rowOf_30 N x1 w = some (y, v) → fr_ S_m_rowOf w v := by
  intro x1 w y v h
  unfold m_rowOf_30 at h
  cases h
  exact fr_r S_m_rowOf w
theorem f_m_rowOf_4 (N : Nat) : ∀ (n : Nat) (x1 x2 : Int) (w : aw_W) (y : Int) (v : aw_W), m_rowOf_4 N n x1 x2 w = some (y, v) → fr_ S_m_rowOf w v := by
  intro n
  induction n with
  | zero => intro x1 x2 w y v h; rw [m_rowOf_4] at h; cases h
  | succ n ih =>
    intro x1 x2 w y v h
    rw [m_rowOf_4] at h
    by_cases hc : (w 49 22) ≤ x2
    · rw [if_pos hc] at h
      exact (fr_r S_m_rowOf w).trans (f_m_rowOf_30 N  _ _ _ _ h)
    · rw [if_neg hc] at h
      obtain ⟨_, h⟩ := aw_cks h
      exact (fr_r S_m_rowOf w).trans (ih _ _ _ _ _ h)
theorem f_m_rowOf (N : Nat) : ∀ (w : aw_W) (y : Int) (v : aw_W), m_rowOf N w = some (y, v) → fr_ S_m_rowOf w v := by
  intro w y v h
  unfold m_rowOf at h
  exact (fr_r S_m_rowOf w).trans (f_m_rowOf_4 N  N _ _ _ _ _ h)
def S_m_greatestFor : List (Nat × Nat) := [(59, 1000000), (60, 1000000), (64, 1000000)]
theorem f_m_greatestFor_69 (N : Nat) : ∀ (x1 x2 x3 : Int) (w : aw_W) (y : Int) (v : aw_W), m_greatestFor_69 N x1 x2 x3 w = some (y, v) → fr_ S_m_greatestFor w v := by
  intro x1 x2 x3 w y v h
  unfold m_greatestFor_69 at h
  obtain ⟨_, h⟩ := aw_cks h
  cases h
  exact (fr_r S_m_greatestFor w).upA (by rfl)
theorem f_m_greatestFor_63 (N : Nat) (k15 : Int → Int → Int → Int → Int → aw_W → Option (Int × aw_W)) (hk15 : ∀ (x1 x2 x3 x4 x5 : Int) (w : aw_W) (y : Int) (v : aw_W), k15 x1 x2 x3 x4 x5 w = some (y, v) → fr_ S_m_greatestFor w v) : ∀ (x1 x2 x3 x4 x5 : Int) (w : aw_W) (y : Int) (v : aw_W), m_greatestFor_63 N k15 x1 x2 x3 x4 x5 w = some (y, v) → fr_ S_m_greatestFor w v := by
  intro x1 x2 x3 x4 x5 w y v h
  unfold m_greatestFor_63 at h
  exact (fr_r S_m_greatestFor w).trans (hk15 _ _ _ _ _ _ _ _ h)
theorem f_m_greatestFor_56 (N : Nat) (k15 : Int → Int → Int → Int → Int → aw_W → Option (Int × aw_W)) (hk15 : ∀ (x1 x2 x3 x4 x5 : Int) (w : aw_W) (y : Int) (v : aw_W), k15 x1 x2 x3 x4 x5 w = some (y, v) → fr_ S_m_greatestFor w v) : ∀ (x1 x2 x5 x6 : Int) (w : aw_W) (y : Int) (v : aw_W), m_greatestFor_56 N k15 x1 x2 x5 x6 w = some (y, v) → fr_ S_m_greatestFor w v := by
  intro x1 x2 x5 x6 w y v h
  unfold m_greatestFor_56 at h
  exact (fr_r S_m_greatestFor w).trans (f_m_greatestFor_63 N  _ hk15 _ _ _ _ _ _ _ _ h)
theorem f_m_greatestFor_15 (N : Nat) : ∀ (n : Nat) (x1 x2 x3 x4 x5 : Int) (w : aw_W) (y : Int) (v : aw_W), m_greatestFor_15 N n x1 x2 x3 x4 x5 w = some (y, v) → fr_ S_m_greatestFor w v := by
  intro n
  induction n with
  | zero => intro x1 x2 x3 x4 x5 w y v h; rw [m_greatestFor_15] at h; cases h
  | succ n ih =>
    intro x1 x2 x3 x4 x5 w y v h
    rw [m_greatestFor_15] at h
    by_cases hc : (w 56 4) < x5
    · rw [if_pos hc] at h
      exact (fr_r S_m_greatestFor w).trans (f_m_greatestFor_69 N  _ _ _ _ _ _ h)
    · rw [if_neg hc] at h
      obtain ⟨_, h⟩ := aw_cks h
      obtain ⟨r1, w1, h1, h⟩ := aw_b2s h
      have c1 := ((fr_r S_m_greatestFor w).upA (by rfl)).trans (fr_m (by decide) (f_m_gainOf N _ _ _ _ h1))
      by_cases hc : x5 ≤ 0
      · rw [if_pos hc] at h
        exact (c1).trans (f_m_greatestFor_56 N  _ ih _ _ _ _ _ _ _ h)
      · rw [if_neg hc] at h
        by_cases hc : x4 < r1
        · rw [if_pos hc] at h
          exact (c1).trans (f_m_greatestFor_56 N  _ ih _ _ _ _ _ _ _ h)
        · rw [if_neg hc] at h
          exact (c1).trans (f_m_greatestFor_63 N  _ ih _ _ _ _ _ _ _ _ h)
theorem f_m_greatestFor (N : Nat) : ∀ (x1 : Int) (w : aw_W) (y : Int) (v : aw_W), m_greatestFor N x1 w = some (y, v) → fr_ S_m_greatestFor w v := by
  intro x1 w y v h
  unfold m_greatestFor at h
  obtain ⟨_, h⟩ := aw_cks h
  exact (fr_r S_m_greatestFor w).trans (f_m_greatestFor_15 N  N _ _ _ _ _ _ _ _ h)
def S_m_told : List (Nat × Nat) := []
theorem f_m_told_37 (N : Nat) : ∀ (s0 : Int) (w : aw_W) (y : Int) (v : aw_W), m_told_37 N s0 w = some (y, v) → fr_ S_m_told w v := by
  intro s0 w y v h
  unfold m_told_37 at h
  cases h
  exact fr_r S_m_told w
theorem f_m_told (N : Nat) : ∀ (x1 x2 : Int) (w : aw_W) (y : Int) (v : aw_W), m_told N x1 x2 w = some (y, v) → fr_ S_m_told w v := by
  intro x1 x2 w y v h
  unfold m_told at h
  by_cases hc : x2 = 3
  · rw [if_pos hc] at h
    obtain ⟨_, h⟩ := aw_cks h
    exact (fr_r S_m_told w).trans (f_m_told_37 N  _ _ _ _ h)
  · rw [if_neg hc] at h
    obtain ⟨_, h⟩ := aw_cks h
    exact (fr_r S_m_told w).trans (f_m_told_37 N  _ _ _ _ h)
def S_m_round : List (Nat × Nat) := [(59, 1000000), (60, 1000000), (64, 1000000), (68, 1000000)]
theorem f_m_round_192 (N : Nat) : ∀ (w v : aw_W), m_round_192 N w = some v → fr_ S_m_round w v := by
  intro w v h
  unfold m_round_192 at h
  cases h
  exact fr_r S_m_round w
theorem f_m_round_166 (N : Nat) : ∀ (n : Nat) (x1 : Int) (w v : aw_W), m_round_166 N n x1 w = some v → fr_ S_m_round w v := by
  intro n
  induction n with
  | zero => intro x1 w v h; rw [m_round_166] at h; cases h
  | succ n ih =>
    intro x1 w v h
    rw [m_round_166] at h
    by_cases hc : (w 49 22) ≤ x1
    · rw [if_pos hc] at h
      exact (fr_r S_m_round w).trans (f_m_round_192 N  _ _ h)
    · rw [if_neg hc] at h
      obtain ⟨_, h⟩ := aw_cks h
      obtain ⟨_, h⟩ := aw_cks h
      exact ((fr_r S_m_round w).upA (by rfl)).trans (ih _ _ _ h)
theorem f_m_round_164 (N : Nat) : ∀ (w v : aw_W), m_round_164 N w = some v → fr_ S_m_round w v := by
  intro w v h
  unfold m_round_164 at h
  exact (fr_r S_m_round w).trans (f_m_round_166 N  N _ _ _ h)
theorem f_m_round_158 (N : Nat) (k2 : Int → aw_W → Option (aw_W)) (hk2 : ∀ (x1 : Int) (w v : aw_W), k2 x1 w = some v → fr_ S_m_round w v) : ∀ (x1 : Int) (w v : aw_W), m_round_158 N k2 x1 w = some v → fr_ S_m_round w v := by
  intro x1 w v h
  unfold m_round_158 at h
  exact (fr_r S_m_round w).trans (hk2 _ _ _ h)
theorem f_m_round_157 (N : Nat) (k2 : Int → aw_W → Option (aw_W)) (hk2 : ∀ (x1 : Int) (w v : aw_W), k2 x1 w = some v → fr_ S_m_round w v) : ∀ (x1 s0 s1 : Int) (w v : aw_W), m_round_157 N k2 x1 s0 s1 w = some v → fr_ S_m_round w v := by
  intro x1 s0 s1 w v h
  unfold m_round_157 at h
  obtain ⟨_, h⟩ := aw_cks h
  exact ((fr_r S_m_round w).upA (by rfl)).trans (f_m_round_158 N  _ hk2 _ _ _ h)
theorem f_m_round_106 (N : Nat) (k2 : Int → aw_W → Option (aw_W)) (hk2 : ∀ (x1 : Int) (w v : aw_W), k2 x1 w = some v → fr_ S_m_round w v) : ∀ (x1 s0 s2 : Int) (w v : aw_W), m_round_106 N k2 x1 s0 s2 w = some v → fr_ S_m_round w v := by
  intro x1 s0 s2 w v h
  unfold m_round_106 at h
  obtain ⟨_, h⟩ := aw_cks h
  obtain ⟨_, h⟩ := aw_cks h
  exact ((fr_r S_m_round w).upA (by rfl)).trans (f_m_round_158 N  _ hk2 _ _ _ h)
theorem f_m_round_2 (N : Nat) : ∀ (n : Nat) (x1 : Int) (w v : aw_W), m_round_2 N n x1 w = some v → fr_ S_m_round w v := by
  intro n
  induction n with
  | zero => intro x1 w v h; rw [m_round_2] at h; cases h
  | succ n ih =>
    intro x1 w v h
    rw [m_round_2] at h
    by_cases hc : (w 49 22) ≤ x1
    · rw [if_pos hc] at h
      exact (fr_r S_m_round w).trans (f_m_round_164 N  _ _ h)
    · rw [if_neg hc] at h
      obtain ⟨_, h⟩ := aw_cks h
      by_cases hc : (w 54 ((aw_w ((aw_w (4 * x1)) + 2)).toNat)) = 0
      · rw [if_pos hc] at h
        obtain ⟨r2, w2, h2, h⟩ := aw_b2s h
        have c2 := (fr_r S_m_round w).trans (fr_m (by decide) (f_m_told N _ _ _ _ _ h2))
        obtain ⟨_, h⟩ := aw_cks h
        exact ((c2).upA (by rfl)).trans (f_m_round_158 N  _ ih _ _ _ h)
      · rw [if_neg hc] at h
        by_cases hc : (w 54 ((aw_w ((aw_w (4 * x1)) + 2)).toNat)) = 1
        · rw [if_pos hc] at h
          obtain ⟨r1, w1, h1, h⟩ := aw_b2s h
          have c1 := (fr_r S_m_round w).trans (fr_m (by decide) (f_m_greatestFor N _ _ _ _ h1))
          obtain ⟨_, h⟩ := aw_cks h
          exact ((c1).upA (by rfl)).trans (f_m_round_158 N  _ ih _ _ _ h)
        · rw [if_neg hc] at h
          by_cases hc : (w 54 ((aw_w ((aw_w (4 * x1)) + 2)).toNat)) = 2
          · rw [if_pos hc] at h
            by_cases hc : x1 = 0
            · rw [if_pos hc] at h
              exact (fr_r S_m_round w).trans (f_m_round_106 N  _ ih _ _ _ _ _ h)
            · rw [if_neg hc] at h
              exact (fr_r S_m_round w).trans (f_m_round_106 N  _ ih _ _ _ _ _ h)
          · rw [if_neg hc] at h
            by_cases hc : (w 54 ((aw_w ((aw_w (4 * x1)) + 2)).toNat)) = 3
            · rw [if_pos hc] at h
              obtain ⟨_, h⟩ := aw_cks h
              exact ((fr_r S_m_round w).upA (by rfl)).trans (f_m_round_158 N  _ ih _ _ _ h)
            · rw [if_neg hc] at h
              obtain ⟨_, h⟩ := aw_cks h
              by_cases hc : (w 64 x1.toNat) = 0
              · rw [if_pos hc] at h
                exact (fr_r S_m_round w).trans (f_m_round_157 N  _ ih _ _ _ _ _ h)
              · rw [if_neg hc] at h
                obtain ⟨_, h⟩ := aw_cks h
                exact (fr_r S_m_round w).trans (f_m_round_157 N  _ ih _ _ _ _ _ h)
theorem f_m_round (N : Nat) : ∀ (w v : aw_W), m_round N w = some v → fr_ S_m_round w v := by
  intro w v h
  unfold m_round at h
  exact (fr_r S_m_round w).trans (f_m_round_2 N  N _ _ _ h)
def S_m_ringFrom : List (Nat × Nat) := [(59, 1000000), (60, 1000000), (64, 1000000), (68, 1000000)]
theorem f_m_ringFrom_47 (N : Nat) : ∀ (x2 : Int) (w : aw_W) (y : Int) (v : aw_W), m_ringFrom_47 N x2 w = some (y, v) → fr_ S_m_ringFrom w v := by
  intro x2 w y v h
  unfold m_ringFrom_47 at h
  cases h
  exact fr_r S_m_ringFrom w
theorem f_m_ringFrom_37 (N : Nat) (k13 : Int → Int → Int → aw_W → Option (Int × aw_W)) (hk13 : ∀ (x1 x2 x3 : Int) (w : aw_W) (y : Int) (v : aw_W), k13 x1 x2 x3 w = some (y, v) → fr_ S_m_ringFrom w v) : ∀ (x1 x2 x3 : Int) (w : aw_W) (y : Int) (v : aw_W), m_ringFrom_37 N k13 x1 x2 x3 w = some (y, v) → fr_ S_m_ringFrom w v := by
  intro x1 x2 x3 w y v h
  unfold m_ringFrom_37 at h
  obtain ⟨w1, h1, h⟩ := aw_b1s h
  have c1 := (fr_r S_m_ringFrom w).trans (fr_m (by decide) (f_m_round N _ _ h1))
  exact (c1).trans (hk13 _ _ _ _ _ _ h)
theorem f_m_ringFrom_13 (N : Nat) : ∀ (n : Nat) (x1 x2 x3 : Int) (w : aw_W) (y : Int) (v : aw_W), m_ringFrom_13 N n x1 x2 x3 w = some (y, v) → fr_ S_m_ringFrom w v := by
  intro n
  induction n with
  | zero => intro x1 x2 x3 w y v h; rw [m_ringFrom_13] at h; cases h
  | succ n ih =>
    intro x1 x2 x3 w y v h
    rw [m_ringFrom_13] at h
    obtain ⟨r1, w1, h1, h⟩ := aw_b2s h
    have c1 := (fr_r S_m_ringFrom w).trans (fr_m (by decide) (f_m_rowOf N _ _ _ h1))
    by_cases hc : r1 = x3
    · rw [if_pos hc] at h
      exact (c1).trans (f_m_ringFrom_47 N  _ _ _ _ h)
    · rw [if_neg hc] at h
      by_cases hc : x1 = x2
      · rw [if_pos hc] at h
        obtain ⟨r2, w2, h2, h⟩ := aw_b2s h
        have c2 := (c1).trans (fr_m (by decide) (f_m_rowOf N _ _ _ h2))
        exact (c2).trans (f_m_ringFrom_37 N  _ ih _ _ _ _ _ _ h)
      · rw [if_neg hc] at h
        exact (c1).trans (f_m_ringFrom_37 N  _ ih _ _ _ _ _ _ h)
theorem f_m_ringFrom (N : Nat) : ∀ (w : aw_W) (y : Int) (v : aw_W), m_ringFrom N w = some (y, v) → fr_ S_m_ringFrom w v := by
  intro w y v h
  unfold m_ringFrom at h
  obtain ⟨r1, w1, h1, h⟩ := aw_b2s h
  have c1 := (fr_r S_m_ringFrom w).trans (fr_m (by decide) (f_m_rowOf N _ _ _ h1))
  obtain ⟨w2, h2, h⟩ := aw_b1s h
  have c2 := (c1).trans (fr_m (by decide) (f_m_round N _ _ h2))
  exact (c2).trans (f_m_ringFrom_13 N  N _ _ _ _ _ _ h)
def S_m_rounds : List (Nat × Nat) := [(49, 0), (59, 1000000), (60, 1000000), (64, 1000000), (68, 1000000)]
theorem f_m_rounds_24 (N : Nat) : ∀ (w : aw_W) (y : Int) (v : aw_W), m_rounds_24 N w = some (y, v) → fr_ S_m_rounds w v := by
  intro w y v h
  unfold m_rounds_24 at h
  cases h
  exact fr_r S_m_rounds w
theorem f_m_rounds_132 (N : Nat) : ∀ (s0 : Int) (w : aw_W) (y : Int) (v : aw_W), m_rounds_132 N s0 w = some (y, v) → fr_ S_m_rounds w v := by
  intro s0 w y v h
  unfold m_rounds_132 at h
  cases h
  exact fr_r S_m_rounds w
theorem f_m_rounds_104 (N : Nat) : ∀ (x1 x2 x3 : Int) (w : aw_W) (y : Int) (v : aw_W), m_rounds_104 N x1 x2 x3 w = some (y, v) → fr_ S_m_rounds w v := by
  intro x1 x2 x3 w y v h
  unfold m_rounds_104 at h
  obtain ⟨r1, w1, h1, h⟩ := aw_b2s h
  have c1 := (fr_r S_m_rounds w).trans (fr_m (by decide) (f_m_lay N _ _ _ _ h1))
  by_cases hc : x1 = 0
  · rw [if_pos hc] at h
    exact (c1).trans (f_m_rounds_132 N  _ _ _ _ h)
  · rw [if_neg hc] at h
    by_cases hc : x1 = 1
    · rw [if_pos hc] at h
      exact (c1).trans (f_m_rounds_132 N  _ _ _ _ h)
    · rw [if_neg hc] at h
      obtain ⟨r2, w2, h2, h⟩ := aw_b2s h
      have c2 := (c1).trans (fr_m (by decide) (f_m_ringFrom N _ _ _ h2))
      exact (c2).trans (f_m_rounds_132 N  _ _ _ _ h)
theorem f_m_rounds_98 (N : Nat) (k66 : Int → Int → Int → Int → aw_W → Option (Int × aw_W)) (hk66 : ∀ (x1 x2 x3 x4 : Int) (w : aw_W) (y : Int) (v : aw_W), k66 x1 x2 x3 x4 w = some (y, v) → fr_ S_m_rounds w v) : ∀ (x1 x2 x3 x4 : Int) (w : aw_W) (y : Int) (v : aw_W), m_rounds_98 N k66 x1 x2 x3 x4 w = some (y, v) → fr_ S_m_rounds w v := by
  intro x1 x2 x3 x4 w y v h
  unfold m_rounds_98 at h
  exact (fr_r S_m_rounds w).trans (hk66 _ _ _ _ _ _ _ h)
theorem f_m_rounds_66 (N : Nat) : ∀ (n : Nat) (x1 x2 x3 x4 : Int) (w : aw_W) (y : Int) (v : aw_W), m_rounds_66 N n x1 x2 x3 x4 w = some (y, v) → fr_ S_m_rounds w v := by
  intro n
  induction n with
  | zero => intro x1 x2 x3 x4 w y v h; rw [m_rounds_66] at h; cases h
  | succ n ih =>
    intro x1 x2 x3 x4 w y v h
    rw [m_rounds_66] at h
    by_cases hc : 100 < x4
    · rw [if_pos hc] at h
      exact (fr_r S_m_rounds w).trans (f_m_rounds_104 N  _ _ _ _ _ _ h)
    · rw [if_neg hc] at h
      by_cases hc : x2 = (-1)
      · rw [if_pos hc] at h
        obtain ⟨r1, w1, h1, h⟩ := aw_b2s h
        have c1 := (fr_r S_m_rounds w).trans (fr_m (by decide) (f_m_rowOf N _ _ _ h1))
        obtain ⟨w2, h2, h⟩ := aw_b1s h
        have c2 := (c1).trans (fr_m (by decide) (f_m_round N _ _ h2))
        obtain ⟨r3, w3, h3, h⟩ := aw_b2s h
        have c3 := (c2).trans (fr_m (by decide) (f_m_rowOf N _ _ _ h3))
        by_cases hc : r3 = r1
        · rw [if_pos hc] at h
          exact (c3).trans (f_m_rounds_98 N  _ ih _ _ _ _ _ _ _ h)
        · rw [if_neg hc] at h
          exact (c3).trans (f_m_rounds_98 N  _ ih _ _ _ _ _ _ _ h)
      · rw [if_neg hc] at h
        exact (fr_r S_m_rounds w).trans (f_m_rounds_104 N  _ _ _ _ _ _ h)
theorem f_m_rounds_56 (N : Nat) : ∀ (x1 : Int) (w : aw_W) (y : Int) (v : aw_W), m_rounds_56 N x1 w = some (y, v) → fr_ S_m_rounds w v := by
  intro x1 w y v h
  unfold m_rounds_56 at h
  obtain ⟨r1, w1, h1, h⟩ := aw_b2s h
  have c1 := (fr_r S_m_rounds w).trans (fr_m (by decide) (f_m_rowOf N _ _ _ h1))
  exact (c1).trans (f_m_rounds_66 N  N _ _ _ _ _ _ _ h)
theorem f_m_rounds_30 (N : Nat) : ∀ (n : Nat) (x1 x2 : Int) (w : aw_W) (y : Int) (v : aw_W), m_rounds_30 N n x1 x2 w = some (y, v) → fr_ S_m_rounds w v := by
  intro n
  induction n with
  | zero => intro x1 x2 w y v h; rw [m_rounds_30] at h; cases h
  | succ n ih =>
    intro x1 x2 w y v h
    rw [m_rounds_30] at h
    by_cases hc : (w 49 22) ≤ x2
    · rw [if_pos hc] at h
      exact (fr_r S_m_rounds w).trans (f_m_rounds_56 N  _ _ _ _ h)
    · rw [if_neg hc] at h
      obtain ⟨r1, w1, h1, h⟩ := aw_b2s h
      have c1 := (fr_r S_m_rounds w).trans (fr_m (by decide) (f_m_told N _ _ _ _ _ h1))
      obtain ⟨_, h⟩ := aw_cks h
      exact ((c1).upA (by rfl)).trans (ih _ _ _ _ _ h)
theorem f_m_rounds (N : Nat) : ∀ (x1 : Int) (w : aw_W) (y : Int) (v : aw_W), m_rounds N x1 w = some (y, v) → fr_ S_m_rounds w v := by
  intro x1 w y v h
  unfold m_rounds at h
  by_cases hc : (w 49 22) = 0
  · rw [if_pos hc] at h
    exact ((fr_r S_m_rounds w).up (by rfl)).trans (f_m_rounds_24 N  _ _ _ h)
  · rw [if_neg hc] at h
    obtain ⟨r1, w1, h1, h⟩ := aw_b2s h
    have c1 := ((fr_r S_m_rounds w).up (by rfl)).trans (fr_m (by decide) (f_m_isIn N _ _ _ _ _ _ h1))
    by_cases hc : r1 = 0
    · rw [if_pos hc] at h
      exact (c1).trans (f_m_rounds_24 N  _ _ _ h)
    · rw [if_neg hc] at h
      exact (c1).trans (f_m_rounds_30 N  N _ _ _ _ _ h)
def S_m_rule : List (Nat × Nat) := [(49, 0), (58, 1000000)]
theorem f_m_rule_34 (N : Nat) : ∀ (w : aw_W) (y : Int) (v : aw_W), m_rule_34 N w = some (y, v) → fr_ S_m_rule w v := by
  intro w y v h
  unfold m_rule_34 at h
  cases h
  exact fr_r S_m_rule w
theorem f_m_rule_36 (N : Nat) : ∀ (x1 x2 : Int) (w : aw_W) (y : Int) (v : aw_W), m_rule_36 N x1 x2 w = some (y, v) → fr_ S_m_rule w v := by
  intro x1 x2 w y v h
  unfold m_rule_36 at h
  obtain ⟨_, h⟩ := aw_cks h
  cases h
  exact (fr_r S_m_rule w).upA (by rfl)
theorem f_m_rule (N : Nat) : ∀ (x1 x2 : Int) (w : aw_W) (y : Int) (v : aw_W), m_rule N x1 x2 w = some (y, v) → fr_ S_m_rule w v := by
  intro x1 x2 w y v h
  unfold m_rule at h
  obtain ⟨r1, w1, h1, h⟩ := aw_b2s h
  have c1 := ((fr_r S_m_rule w).up (by rfl)).trans (fr_m (by decide) (f_m_isStriver N _ _ _ _ h1))
  by_cases hc : r1 = 0
  · rw [if_pos hc] at h
    exact (c1).trans (f_m_rule_34 N  _ _ _ h)
  · rw [if_neg hc] at h
    by_cases hc : x2 = (-1)
    · rw [if_pos hc] at h
      exact (c1).trans (f_m_rule_36 N  _ _ _ _ _ h)
    · rw [if_neg hc] at h
      obtain ⟨r2, w2, h2, h⟩ := aw_b2s h
      have c2 := (c1).trans (fr_m (by decide) (f_m_isIn N _ _ _ _ _ _ h2))
      by_cases hc : r2 = 0
      · rw [if_pos hc] at h
        exact (c2).trans (f_m_rule_34 N  _ _ _ h)
      · rw [if_neg hc] at h
        exact (c2).trans (f_m_rule_36 N  _ _ _ _ _ h)
def S_m_seller : List (Nat × Nat) := [(49, 0), (49, 34), (49, 35), (59, 1000000), (60, 1000000), (64, 1000000)]
theorem f_m_seller_22 (N : Nat) : ∀ (w : aw_W) (y : Int) (v : aw_W), m_seller_22 N w = some (y, v) → fr_ S_m_seller w v := by
  intro w y v h
  unfold m_seller_22 at h
  cases h
  exact fr_r S_m_seller w
theorem f_m_seller_95 (N : Nat) : ∀ (x2 : Int) (w : aw_W) (y : Int) (v : aw_W), m_seller_95 N x2 w = some (y, v) → fr_ S_m_seller w v := by
  intro x2 w y v h
  unfold m_seller_95 at h
  cases h
  exact fr_r S_m_seller w
theorem f_m_seller_89 (N : Nat) (k30 : Int → Int → Int → aw_W → Option (Int × aw_W)) (hk30 : ∀ (x1 x2 x3 : Int) (w : aw_W) (y : Int) (v : aw_W), k30 x1 x2 x3 w = some (y, v) → fr_ S_m_seller w v) : ∀ (x1 x2 x3 : Int) (w : aw_W) (y : Int) (v : aw_W), m_seller_89 N k30 x1 x2 x3 w = some (y, v) → fr_ S_m_seller w v := by
  intro x1 x2 x3 w y v h
  unfold m_seller_89 at h
  exact (fr_r S_m_seller w).trans (hk30 _ _ _ _ _ _ h)
theorem f_m_seller_86 (N : Nat) (k30 : Int → Int → Int → aw_W → Option (Int × aw_W)) (hk30 : ∀ (x1 x2 x3 : Int) (w : aw_W) (y : Int) (v : aw_W), k30 x1 x2 x3 w = some (y, v) → fr_ S_m_seller w v) : ∀ (x1 x3 x4 : Int) (w : aw_W) (y : Int) (v : aw_W), m_seller_86 N k30 x1 x3 x4 w = some (y, v) → fr_ S_m_seller w v := by
  intro x1 x3 x4 w y v h
  unfold m_seller_86 at h
  exact (fr_r S_m_seller w).trans (f_m_seller_89 N  _ hk30 _ _ _ _ _ _ h)
theorem f_m_seller_30 (N : Nat) : ∀ (n : Nat) (x1 x2 x3 : Int) (w : aw_W) (y : Int) (v : aw_W), m_seller_30 N n x1 x2 x3 w = some (y, v) → fr_ S_m_seller w v := by
  intro n
  induction n with
  | zero => intro x1 x2 x3 w y v h; rw [m_seller_30] at h; cases h
  | succ n ih =>
    intro x1 x2 x3 w y v h
    rw [m_seller_30] at h
    obtain ⟨r1, w1, h1, h⟩ := aw_b2s h
    have c1 := (fr_r S_m_seller w).trans (fr_m (by decide) (f_m_rowMany N _ _ _ h1))
    by_cases hc : r1 ≤ x3
    · rw [if_pos hc] at h
      exact (c1).trans (f_m_seller_95 N  _ _ _ _ h)
    · rw [if_neg hc] at h
      obtain ⟨r2, w2, h2, h⟩ := aw_b2s h
      have c2 := (c1).trans (fr_m (by decide) (f_m_lay N _ _ _ _ h2))
      by_cases hc : r2 = 0
      · rw [if_pos hc] at h
        exact (c2).trans (f_m_seller_89 N  _ ih _ _ _ _ _ _ h)
      · rw [if_neg hc] at h
        obtain ⟨r3, w3, h3, h⟩ := aw_b2s h
        have c3 := (c2).trans (fr_m (by decide) (f_m_isRest N _ _ _ h3))
        by_cases hc : r3 = 0
        · rw [if_pos hc] at h
          exact (c3).trans (f_m_seller_89 N  _ ih _ _ _ _ _ _ h)
        · rw [if_neg hc] at h
          obtain ⟨r4, w4, h4, h⟩ := aw_b2s h
          have c4 := (c3).trans (fr_m (by decide) (f_m_allPaid N _ _ _ h4))
          by_cases hc : x2 = (-1)
          · rw [if_pos hc] at h
            exact (c4).trans (f_m_seller_86 N  _ ih _ _ _ _ _ _ h)
          · rw [if_neg hc] at h
            by_cases hc : x1 = 0
            · rw [if_pos hc] at h
              by_cases hc : x2 ≤ r4
              · rw [if_pos hc] at h
                exact (c4).trans (f_m_seller_89 N  _ ih _ _ _ _ _ _ h)
              · rw [if_neg hc] at h
                exact (c4).trans (f_m_seller_86 N  _ ih _ _ _ _ _ _ h)
            · rw [if_neg hc] at h
              by_cases hc : r4 ≤ x2
              · rw [if_pos hc] at h
                exact (c4).trans (f_m_seller_89 N  _ ih _ _ _ _ _ _ h)
              · rw [if_neg hc] at h
                exact (c4).trans (f_m_seller_86 N  _ ih _ _ _ _ _ _ h)
theorem f_m_seller (N : Nat) : ∀ (x1 : Int) (w : aw_W) (y : Int) (v : aw_W), m_seller N x1 w = some (y, v) → fr_ S_m_seller w v := by
  intro x1 w y v h
  unfold m_seller at h
  obtain ⟨r1, w1, h1, h⟩ := aw_b2s h
  have c1 := ((fr_r S_m_seller w).up (by rfl)).trans (fr_m (by decide) (f_m_areFew N _ _ _ h1))
  by_cases hc : r1 = 0
  · rw [if_pos hc] at h
    exact (c1).trans (f_m_seller_22 N  _ _ _ h)
  · rw [if_neg hc] at h
    obtain ⟨r2, w2, h2, h⟩ := aw_b2s h
    have c2 := (c1).trans (fr_m (by decide) (f_m_isIn N _ _ _ _ _ _ h2))
    by_cases hc : r2 = 0
    · rw [if_pos hc] at h
      exact (c2).trans (f_m_seller_22 N  _ _ _ h)
    · rw [if_neg hc] at h
      exact (c2).trans (f_m_seller_30 N  N _ _ _ _ _ _ h)
def S_m_areTurns : List (Nat × Nat) := []
theorem f_m_areTurns_24 (N : Nat) : ∀ (s0 : Int) (w : aw_W) (y : Int) (v : aw_W), m_areTurns_24 N s0 w = some (y, v) → fr_ S_m_areTurns w v := by
  intro s0 w y v h
  unfold m_areTurns_24 at h
  obtain ⟨_, h⟩ := aw_cks h
  cases h
  exact fr_r S_m_areTurns w
theorem f_m_areTurns_23 (N : Nat) : ∀ (w : aw_W) (y : Int) (v : aw_W), m_areTurns_23 N w = some (y, v) → fr_ S_m_areTurns w v := by
  intro w y v h
  unfold m_areTurns_23 at h
  exact (fr_r S_m_areTurns w).trans (f_m_areTurns_24 N  _ _ _ _ h)
theorem f_m_areTurns (N : Nat) : ∀ (x1 : Int) (w : aw_W) (y : Int) (v : aw_W), m_areTurns N x1 w = some (y, v) → fr_ S_m_areTurns w v := by
  intro x1 w y v h
  unfold m_areTurns at h
  by_cases hc : (w 49 22) ≤ 0
  · rw [if_pos hc] at h
    exact (fr_r S_m_areTurns w).trans (f_m_areTurns_23 N  _ _ _ h)
  · rw [if_neg hc] at h
    obtain ⟨r1, w1, h1, h⟩ := aw_b2s h
    have c1 := (fr_r S_m_areTurns w).trans (fr_m (by decide) (f_m_isIn N _ _ _ _ _ _ h1))
    by_cases hc : r1 = 0
    · rw [if_pos hc] at h
      exact (c1).trans (f_m_areTurns_23 N  _ _ _ h)
    · rw [if_neg hc] at h
      exact (c1).trans (f_m_areTurns_24 N  _ _ _ _ h)
def S_m_hasAt : List (Nat × Nat) := []
theorem f_m_hasAt (N : Nat) : ∀ (x1 x2 x3 : Int) (w : aw_W) (y : Int) (v : aw_W), m_hasAt N x1 x2 x3 w = some (y, v) → fr_ S_m_hasAt w v := by
  intro x1 x2 x3 w y v h
  unfold m_hasAt at h
  obtain ⟨_, h⟩ := aw_cks h
  cases h
  exact fr_r S_m_hasAt w
def S_m_layTurns : List (Nat × Nat) := [(65, 1000000), (66, 1000000), (67, 1000000)]
theorem f_m_layTurns_309 (N : Nat) : ∀ (w v : aw_W), m_layTurns_309 N w = some v → fr_ S_m_layTurns w v := by
  intro w v h
  unfold m_layTurns_309 at h
  cases h
  exact fr_r S_m_layTurns w
theorem f_m_layTurns_303 (N : Nat) (k253 : Int → Int → Int → aw_W → Option (aw_W)) (hk253 : ∀ (x1 x3 x4 : Int) (w v : aw_W), k253 x1 x3 x4 w = some v → fr_ S_m_layTurns w v) : ∀ (x1 x3 x4 : Int) (w v : aw_W), m_layTurns_303 N k253 x1 x3 x4 w = some v → fr_ S_m_layTurns w v := by
  intro x1 x3 x4 w v h
  unfold m_layTurns_303 at h
  exact (fr_r S_m_layTurns w).trans (hk253 _ _ _ _ _ h)
theorem f_m_layTurns_253 (N : Nat) : ∀ (n : Nat) (x1 x3 x4 : Int) (w v : aw_W), m_layTurns_253 N n x1 x3 x4 w = some v → fr_ S_m_layTurns w v := by
  intro n
  induction n with
  | zero => intro x1 x3 x4 w v h; rw [m_layTurns_253] at h; cases h
  | succ n ih =>
    intro x1 x3 x4 w v h
    rw [m_layTurns_253] at h
    by_cases hc : x1 ≤ x4
    · rw [if_pos hc] at h
      exact (fr_r S_m_layTurns w).trans (f_m_layTurns_309 N  _ _ h)
    · rw [if_neg hc] at h
      obtain ⟨_, h⟩ := aw_cks h
      by_cases hc : (w 66 ((aw_w ((aw_w (64 * x4)) + x3)).toNat)) = 0
      · rw [if_pos hc] at h
        exact (fr_r S_m_layTurns w).trans (f_m_layTurns_303 N  _ ih _ _ _ _ _ h)
      · rw [if_neg hc] at h
        obtain ⟨_, h⟩ := aw_cks h
        obtain ⟨_, h⟩ := aw_cks h
        obtain ⟨_, h⟩ := aw_cks h
        exact ((fr_r S_m_layTurns w).upA (by rfl)).trans (f_m_layTurns_303 N  _ ih _ _ _ _ _ h)
theorem f_m_layTurns_250 (N : Nat) : ∀ (x1 x3 : Int) (w v : aw_W), m_layTurns_250 N x1 x3 w = some v → fr_ S_m_layTurns w v := by
  intro x1 x3 w v h
  unfold m_layTurns_250 at h
  exact (fr_r S_m_layTurns w).trans (f_m_layTurns_253 N  N _ _ _ _ _ h)
theorem f_m_layTurns_229 (N : Nat) : ∀ (n : Nat) (x1 x3 x4 : Int) (w v : aw_W), m_layTurns_229 N n x1 x3 x4 w = some v → fr_ S_m_layTurns w v := by
  intro n
  induction n with
  | zero => intro x1 x3 x4 w v h; rw [m_layTurns_229] at h; cases h
  | succ n ih =>
    intro x1 x3 x4 w v h
    rw [m_layTurns_229] at h
    by_cases hc : 6 ≤ x4
    · rw [if_pos hc] at h
      exact (fr_r S_m_layTurns w).trans (f_m_layTurns_250 N  _ _ _ _ h)
    · rw [if_neg hc] at h
      obtain ⟨_, h⟩ := aw_cks h
      exact ((fr_r S_m_layTurns w).upA (by rfl)).trans (ih _ _ _ _ _ h)
theorem f_m_layTurns_224 (N : Nat) : ∀ (x1 : Int) (w v : aw_W), m_layTurns_224 N x1 w = some v → fr_ S_m_layTurns w v := by
  intro x1 w v h
  unfold m_layTurns_224 at h
  exact (fr_r S_m_layTurns w).trans (f_m_layTurns_229 N  N _ _ _ _ _ h)
theorem f_m_layTurns_218 (N : Nat) (k2 : Int → Int → Int → aw_W → Option (aw_W)) (hk2 : ∀ (x1 x2 x3 : Int) (w v : aw_W), k2 x1 x2 x3 w = some v → fr_ S_m_layTurns w v) : ∀ (x1 x2 x3 : Int) (w v : aw_W), m_layTurns_218 N k2 x1 x2 x3 w = some v → fr_ S_m_layTurns w v := by
  intro x1 x2 x3 w v h
  unfold m_layTurns_218 at h
  exact (fr_r S_m_layTurns w).trans (hk2 _ _ _ _ _ h)
theorem f_m_layTurns_212 (N : Nat) (k2 : Int → Int → Int → aw_W → Option (aw_W)) (hk2 : ∀ (x1 x2 x3 : Int) (w v : aw_W), k2 x1 x2 x3 w = some v → fr_ S_m_layTurns w v) (k9 : Int → Int → Int → Int → aw_W → Option (aw_W)) (hk9 : ∀ (x1 x2 x3 x4 : Int) (w v : aw_W), k9 x1 x2 x3 x4 w = some v → fr_ S_m_layTurns w v) : ∀ (x1 x2 x3 x4 : Int) (w v : aw_W), m_layTurns_212 N k2 k9 x1 x2 x3 x4 w = some v → fr_ S_m_layTurns w v := by
  intro x1 x2 x3 x4 w v h
  unfold m_layTurns_212 at h
  exact (fr_r S_m_layTurns w).trans (hk9 _ _ _ _ _ _ h)
theorem f_m_layTurns_205 (N : Nat) (k2 : Int → Int → Int → aw_W → Option (aw_W)) (hk2 : ∀ (x1 x2 x3 : Int) (w v : aw_W), k2 x1 x2 x3 w = some v → fr_ S_m_layTurns w v) (k9 : Int → Int → Int → Int → aw_W → Option (aw_W)) (hk9 : ∀ (x1 x2 x3 x4 : Int) (w v : aw_W), k9 x1 x2 x3 x4 w = some v → fr_ S_m_layTurns w v) (k127 : Int → Int → Int → Int → Int → Int → Int → Int → aw_W → Option (aw_W)) (hk127 : ∀ (x1 x2 x3 x4 x5 x6 x7 x8 : Int) (w v : aw_W), k127 x1 x2 x3 x4 x5 x6 x7 x8 w = some v → fr_ S_m_layTurns w v) : ∀ (x1 x2 x3 x4 x5 x6 x7 x8 s0 s1 : Int) (w v : aw_W), m_layTurns_205 N k2 k9 k127 x1 x2 x3 x4 x5 x6 x7 x8 s0 s1 w = some v → fr_ S_m_layTurns w v := by
  intro x1 x2 x3 x4 x5 x6 x7 x8 s0 s1 w v h
  unfold m_layTurns_205 at h
  obtain ⟨_, h⟩ := aw_cks h
  exact ((fr_r S_m_layTurns w).upA (by rfl)).trans (hk127 _ _ _ _ _ _ _ _ _ _ h)
theorem f_m_layTurns_200 (N : Nat) (k2 : Int → Int → Int → aw_W → Option (aw_W)) (hk2 : ∀ (x1 x2 x3 : Int) (w v : aw_W), k2 x1 x2 x3 w = some v → fr_ S_m_layTurns w v) (k9 : Int → Int → Int → Int → aw_W → Option (aw_W)) (hk9 : ∀ (x1 x2 x3 x4 : Int) (w v : aw_W), k9 x1 x2 x3 x4 w = some v → fr_ S_m_layTurns w v) (k127 : Int → Int → Int → Int → Int → Int → Int → Int → aw_W → Option (aw_W)) (hk127 : ∀ (x1 x2 x3 x4 x5 x6 x7 x8 : Int) (w v : aw_W), k127 x1 x2 x3 x4 x5 x6 x7 x8 w = some v → fr_ S_m_layTurns w v) : ∀ (x1 x2 x3 x4 x5 x6 x7 x8 s0 s1 s3 : Int) (w v : aw_W), m_layTurns_200 N k2 k9 k127 x1 x2 x3 x4 x5 x6 x7 x8 s0 s1 s3 w = some v → fr_ S_m_layTurns w v := by
  intro x1 x2 x3 x4 x5 x6 x7 x8 s0 s1 s3 w v h
  unfold m_layTurns_200 at h
  obtain ⟨r1, w1, h1, h⟩ := aw_b2s h
  have c1 := (fr_r S_m_layTurns w).trans (fr_m (by decide) (f_m_hasAt N _ _ _ _ _ _ h1))
  exact (c1).trans (f_m_layTurns_205 N  _ hk2 _ hk9 _ hk127 _ _ _ _ _ _ _ _ _ _ _ _ h)
theorem f_m_layTurns_179 (N : Nat) (k2 : Int → Int → Int → aw_W → Option (aw_W)) (hk2 : ∀ (x1 x2 x3 : Int) (w v : aw_W), k2 x1 x2 x3 w = some v → fr_ S_m_layTurns w v) (k9 : Int → Int → Int → Int → aw_W → Option (aw_W)) (hk9 : ∀ (x1 x2 x3 x4 : Int) (w v : aw_W), k9 x1 x2 x3 x4 w = some v → fr_ S_m_layTurns w v) (k127 : Int → Int → Int → Int → Int → Int → Int → Int → aw_W → Option (aw_W)) (hk127 : ∀ (x1 x2 x3 x4 x5 x6 x7 x8 : Int) (w v : aw_W), k127 x1 x2 x3 x4 x5 x6 x7 x8 w = some v → fr_ S_m_layTurns w v) : ∀ (x1 x2 x3 x4 x5 x6 x7 x8 s0 : Int) (w v : aw_W), m_layTurns_179 N k2 k9 k127 x1 x2 x3 x4 x5 x6 x7 x8 s0 w = some v → fr_ S_m_layTurns w v := by
  intro x1 x2 x3 x4 x5 x6 x7 x8 s0 w v h
  unfold m_layTurns_179 at h
  by_cases hc : x7 = 0
  · rw [if_pos hc] at h
    exact (fr_r S_m_layTurns w).trans (f_m_layTurns_200 N  _ hk2 _ hk9 _ hk127 _ _ _ _ _ _ _ _ _ _ _ _ _ h)
  · rw [if_neg hc] at h
    exact (fr_r S_m_layTurns w).trans (f_m_layTurns_200 N  _ hk2 _ hk9 _ hk127 _ _ _ _ _ _ _ _ _ _ _ _ _ h)
theorem f_m_layTurns_127 (N : Nat) (k2 : Int → Int → Int → aw_W → Option (aw_W)) (hk2 : ∀ (x1 x2 x3 : Int) (w v : aw_W), k2 x1 x2 x3 w = some v → fr_ S_m_layTurns w v) (k9 : Int → Int → Int → Int → aw_W → Option (aw_W)) (hk9 : ∀ (x1 x2 x3 x4 : Int) (w v : aw_W), k9 x1 x2 x3 x4 w = some v → fr_ S_m_layTurns w v) : ∀ (n : Nat) (x1 x2 x3 x4 x5 x6 x7 x8 : Int) (w v : aw_W), m_layTurns_127 N k2 k9 n x1 x2 x3 x4 x5 x6 x7 x8 w = some v → fr_ S_m_layTurns w v := by
  intro n
  induction n with
  | zero => intro x1 x2 x3 x4 x5 x6 x7 x8 w v h; rw [m_layTurns_127] at h; cases h
  | succ n ih =>
    intro x1 x2 x3 x4 x5 x6 x7 x8 w v h
    rw [m_layTurns_127] at h
    by_cases hc : (w 49 22) ≤ x8
    · rw [if_pos hc] at h
      exact (fr_r S_m_layTurns w).trans (f_m_layTurns_212 N  _ hk2 _ hk9 _ _ _ _ _ _ h)
    · rw [if_neg hc] at h
      by_cases hc : x3 = x1
      · rw [if_pos hc] at h
        exact (fr_r S_m_layTurns w).trans (f_m_layTurns_205 N  _ hk2 _ hk9 _ ih _ _ _ _ _ _ _ _ _ _ _ _ h)
      · rw [if_neg hc] at h
        by_cases hc : x7 = 0
        · rw [if_pos hc] at h
          exact (fr_r S_m_layTurns w).trans (f_m_layTurns_179 N  _ hk2 _ hk9 _ ih _ _ _ _ _ _ _ _ _ _ _ h)
        · rw [if_neg hc] at h
          by_cases hc : x8 = x5
          · rw [if_pos hc] at h
            exact (fr_r S_m_layTurns w).trans (f_m_layTurns_205 N  _ hk2 _ hk9 _ ih _ _ _ _ _ _ _ _ _ _ _ _ h)
          · rw [if_neg hc] at h
            exact (fr_r S_m_layTurns w).trans (f_m_layTurns_179 N  _ hk2 _ hk9 _ ih _ _ _ _ _ _ _ _ _ _ _ h)
theorem f_m_layTurns_108 (N : Nat) (k2 : Int → Int → Int → aw_W → Option (aw_W)) (hk2 : ∀ (x1 x2 x3 : Int) (w v : aw_W), k2 x1 x2 x3 w = some v → fr_ S_m_layTurns w v) (k9 : Int → Int → Int → Int → aw_W → Option (aw_W)) (hk9 : ∀ (x1 x2 x3 x4 : Int) (w v : aw_W), k9 x1 x2 x3 x4 w = some v → fr_ S_m_layTurns w v) : ∀ (x1 x2 x3 x4 x5 x6 s0 : Int) (w v : aw_W), m_layTurns_108 N k2 k9 x1 x2 x3 x4 x5 x6 s0 w = some v → fr_ S_m_layTurns w v := by
  intro x1 x2 x3 x4 x5 x6 s0 w v h
  unfold m_layTurns_108 at h
  obtain ⟨_, h⟩ := aw_cks h
  obtain ⟨_, h⟩ := aw_cks h
  exact ((fr_r S_m_layTurns w).upA (by rfl)).trans (f_m_layTurns_127 N  _ hk2 _ hk9 N _ _ _ _ _ _ _ _ _ _ h)
theorem f_m_layTurns_107 (N : Nat) (k2 : Int → Int → Int → aw_W → Option (aw_W)) (hk2 : ∀ (x1 x2 x3 : Int) (w v : aw_W), k2 x1 x2 x3 w = some v → fr_ S_m_layTurns w v) (k9 : Int → Int → Int → Int → aw_W → Option (aw_W)) (hk9 : ∀ (x1 x2 x3 x4 : Int) (w v : aw_W), k9 x1 x2 x3 x4 w = some v → fr_ S_m_layTurns w v) : ∀ (x1 x2 x3 x4 x5 x6 : Int) (w v : aw_W), m_layTurns_107 N k2 k9 x1 x2 x3 x4 x5 x6 w = some v → fr_ S_m_layTurns w v := by
  intro x1 x2 x3 x4 x5 x6 w v h
  unfold m_layTurns_107 at h
  exact (fr_r S_m_layTurns w).trans (f_m_layTurns_108 N  _ hk2 _ hk9 _ _ _ _ _ _ _ _ _ h)
theorem f_m_layTurns_69 (N : Nat) (k2 : Int → Int → Int → aw_W → Option (aw_W)) (hk2 : ∀ (x1 x2 x3 : Int) (w v : aw_W), k2 x1 x2 x3 w = some v → fr_ S_m_layTurns w v) (k9 : Int → Int → Int → Int → aw_W → Option (aw_W)) (hk9 : ∀ (x1 x2 x3 x4 : Int) (w v : aw_W), k9 x1 x2 x3 x4 w = some v → fr_ S_m_layTurns w v) : ∀ (x1 x2 x3 x4 x5 s0 s1 : Int) (w v : aw_W), m_layTurns_69 N k2 k9 x1 x2 x3 x4 x5 s0 s1 w = some v → fr_ S_m_layTurns w v := by
  intro x1 x2 x3 x4 x5 s0 s1 w v h
  unfold m_layTurns_69 at h
  by_cases hc : x1 ≤ x3
  · rw [if_pos hc] at h
    exact (fr_r S_m_layTurns w).trans (f_m_layTurns_107 N  _ hk2 _ hk9 _ _ _ _ _ _ _ _ h)
  · rw [if_neg hc] at h
    obtain ⟨r1, w1, h1, h⟩ := aw_b2s h
    have c1 := (fr_r S_m_layTurns w).trans (fr_m (by decide) (f_m_has N _ _ _ _ _ h1))
    by_cases hc : r1 = 0
    · rw [if_pos hc] at h
      obtain ⟨r2, w2, h2, h⟩ := aw_b2s h
      have c2 := (c1).trans (fr_m (by decide) (f_m_hasAt N _ _ _ _ _ _ h2))
      by_cases hc : (aw_w (s1 - s0)) ≤ r2
      · rw [if_pos hc] at h
        exact (c2).trans (f_m_layTurns_107 N  _ hk2 _ hk9 _ _ _ _ _ _ _ _ h)
      · rw [if_neg hc] at h
        exact (c2).trans (f_m_layTurns_108 N  _ hk2 _ hk9 _ _ _ _ _ _ _ _ _ h)
    · rw [if_neg hc] at h
      exact (c1).trans (f_m_layTurns_107 N  _ hk2 _ hk9 _ _ _ _ _ _ _ _ h)
theorem f_m_layTurns_59 (N : Nat) (k2 : Int → Int → Int → aw_W → Option (aw_W)) (hk2 : ∀ (x1 x2 x3 : Int) (w v : aw_W), k2 x1 x2 x3 w = some v → fr_ S_m_layTurns w v) (k9 : Int → Int → Int → Int → aw_W → Option (aw_W)) (hk9 : ∀ (x1 x2 x3 x4 : Int) (w v : aw_W), k9 x1 x2 x3 x4 w = some v → fr_ S_m_layTurns w v) : ∀ (x1 x2 x3 x4 x5 s0 : Int) (w v : aw_W), m_layTurns_59 N k2 k9 x1 x2 x3 x4 x5 s0 w = some v → fr_ S_m_layTurns w v := by
  intro x1 x2 x3 x4 x5 s0 w v h
  unfold m_layTurns_59 at h
  by_cases hc : x4 = 0
  · rw [if_pos hc] at h
    exact (fr_r S_m_layTurns w).trans (f_m_layTurns_69 N  _ hk2 _ hk9 _ _ _ _ _ _ _ _ _ h)
  · rw [if_neg hc] at h
    exact (fr_r S_m_layTurns w).trans (f_m_layTurns_69 N  _ hk2 _ hk9 _ _ _ _ _ _ _ _ _ h)
theorem f_m_layTurns_9 (N : Nat) (k2 : Int → Int → Int → aw_W → Option (aw_W)) (hk2 : ∀ (x1 x2 x3 : Int) (w v : aw_W), k2 x1 x2 x3 w = some v → fr_ S_m_layTurns w v) : ∀ (n : Nat) (x1 x2 x3 x4 : Int) (w v : aw_W), m_layTurns_9 N k2 n x1 x2 x3 x4 w = some v → fr_ S_m_layTurns w v := by
  intro n
  induction n with
  | zero => intro x1 x2 x3 x4 w v h; rw [m_layTurns_9] at h; cases h
  | succ n ih =>
    intro x1 x2 x3 x4 w v h
    rw [m_layTurns_9] at h
    by_cases hc : (aw_shl 1 (w 49 22)) ≤ x4
    · rw [if_pos hc] at h
      exact (fr_r S_m_layTurns w).trans (f_m_layTurns_218 N  _ hk2 _ _ _ _ _ h)
    · rw [if_neg hc] at h
      obtain ⟨_, h⟩ := aw_cks h
      obtain ⟨r1, w1, h1, h⟩ := aw_b2s h
      have c1 := (fr_r S_m_layTurns w).trans (fr_m (by decide) (f_j_Int_bitCount N _ _ _ _ h1))
      by_cases hc : (aw_w (r1 + 1)) = (w1 56 0)
      · rw [if_pos hc] at h
        obtain ⟨_, h⟩ := aw_cks h
        exact (c1).trans (f_m_layTurns_59 N  _ hk2 _ ih _ _ _ _ _ _ _ _ h)
      · rw [if_neg hc] at h
        exact (c1).trans (f_m_layTurns_59 N  _ hk2 _ ih _ _ _ _ _ _ _ _ h)
theorem f_m_layTurns_2 (N : Nat) : ∀ (n : Nat) (x1 x2 x3 : Int) (w v : aw_W), m_layTurns_2 N n x1 x2 x3 w = some v → fr_ S_m_layTurns w v := by
  intro n
  induction n with
  | zero => intro x1 x2 x3 w v h; rw [m_layTurns_2] at h; cases h
  | succ n ih =>
    intro x1 x2 x3 w v h
    rw [m_layTurns_2] at h
    by_cases hc : x3 < 0
    · rw [if_pos hc] at h
      exact (fr_r S_m_layTurns w).trans (f_m_layTurns_224 N  _ _ _ h)
    · rw [if_neg hc] at h
      exact (fr_r S_m_layTurns w).trans (f_m_layTurns_9 N  _ ih N _ _ _ _ _ _ h)
theorem f_m_layTurns (N : Nat) : ∀ (x1 x2 : Int) (w v : aw_W), m_layTurns N x1 x2 w = some v → fr_ S_m_layTurns w v := by
  intro x1 x2 w v h
  unfold m_layTurns at h
  exact (fr_r S_m_layTurns w).trans (f_m_layTurns_2 N  N _ _ _ _ _ h)
def S_m_spur : List (Nat × Nat) := [(49, 0), (65, 1000000), (66, 1000000), (67, 1000000)]
theorem f_m_spur_89 (N : Nat) : ∀ (w : aw_W) (y : Int) (v : aw_W), m_spur_89 N w = some (y, v) → fr_ S_m_spur w v := by
  intro w y v h
  unfold m_spur_89 at h
  cases h
  exact fr_r S_m_spur w
theorem f_m_spur_81 (N : Nat) : ∀ (x2 : Int) (w : aw_W) (y : Int) (v : aw_W), m_spur_81 N x2 w = some (y, v) → fr_ S_m_spur w v := by
  intro x2 w y v h
  unfold m_spur_81 at h
  cases h
  exact fr_r S_m_spur w
theorem f_m_spur_71 (N : Nat) (k20 : Int → Int → aw_W → Option (Int × aw_W)) (hk20 : ∀ (x1 x2 : Int) (w : aw_W) (y : Int) (v : aw_W), k20 x1 x2 w = some (y, v) → fr_ S_m_spur w v) : ∀ (x1 x2 x3 : Int) (w : aw_W) (y : Int) (v : aw_W), m_spur_71 N k20 x1 x2 x3 w = some (y, v) → fr_ S_m_spur w v := by
  intro x1 x2 x3 w y v h
  unfold m_spur_71 at h
  by_cases hc : x3 < (w 56 0)
  · rw [if_pos hc] at h
    exact (fr_r S_m_spur w).trans (hk20 _ _ _ _ _ h)
  · rw [if_neg hc] at h
    exact (fr_r S_m_spur w).trans (f_m_spur_81 N  _ _ _ _ h)
theorem f_m_spur_63 (N : Nat) (k20 : Int → Int → aw_W → Option (Int × aw_W)) (hk20 : ∀ (x1 x2 : Int) (w : aw_W) (y : Int) (v : aw_W), k20 x1 x2 w = some (y, v) → fr_ S_m_spur w v) (k37 : Int → Int → Int → Int → aw_W → Option (Int × aw_W)) (hk37 : ∀ (x1 x2 x3 x4 : Int) (w : aw_W) (y : Int) (v : aw_W), k37 x1 x2 x3 x4 w = some (y, v) → fr_ S_m_spur w v) : ∀ (x1 x2 x4 s0 s1 : Int) (w : aw_W) (y : Int) (v : aw_W), m_spur_63 N k20 k37 x1 x2 x4 s0 s1 w = some (y, v) → fr_ S_m_spur w v := by
  intro x1 x2 x4 s0 s1 w y v h
  unfold m_spur_63 at h
  exact (fr_r S_m_spur w).trans (hk37 _ _ _ _ _ _ _ h)
theorem f_m_spur_37 (N : Nat) (k20 : Int → Int → aw_W → Option (Int × aw_W)) (hk20 : ∀ (x1 x2 : Int) (w : aw_W) (y : Int) (v : aw_W), k20 x1 x2 w = some (y, v) → fr_ S_m_spur w v) : ∀ (n : Nat) (x1 x2 x3 x4 : Int) (w : aw_W) (y : Int) (v : aw_W), m_spur_37 N k20 n x1 x2 x3 x4 w = some (y, v) → fr_ S_m_spur w v := by
  intro n
  induction n with
  | zero => intro x1 x2 x3 x4 w y v h; rw [m_spur_37] at h; cases h
  | succ n ih =>
    intro x1 x2 x3 x4 w y v h
    rw [m_spur_37] at h
    by_cases hc : (w 49 22) ≤ x4
    · rw [if_pos hc] at h
      exact (fr_r S_m_spur w).trans (f_m_spur_71 N  _ hk20 _ _ _ _ _ _ h)
    · rw [if_neg hc] at h
      obtain ⟨_, h⟩ := aw_cks h
      by_cases hc : (w 67 x4.toNat) = (-1)
      · rw [if_pos hc] at h
        exact (fr_r S_m_spur w).trans (f_m_spur_63 N  _ hk20 _ ih _ _ _ _ _ _ _ _ h)
      · rw [if_neg hc] at h
        exact (fr_r S_m_spur w).trans (f_m_spur_63 N  _ hk20 _ ih _ _ _ _ _ _ _ _ h)
theorem f_m_spur_20 (N : Nat) : ∀ (n : Nat) (x1 x2 : Int) (w : aw_W) (y : Int) (v : aw_W), m_spur_20 N n x1 x2 w = some (y, v) → fr_ S_m_spur w v := by
  intro n
  induction n with
  | zero => intro x1 x2 w y v h; rw [m_spur_20] at h; cases h
  | succ n ih =>
    intro x1 x2 w y v h
    rw [m_spur_20] at h
    by_cases hc : x2 < (-99)
    · rw [if_pos hc] at h
      exact (fr_r S_m_spur w).trans (f_m_spur_89 N  _ _ _ h)
    · rw [if_neg hc] at h
      obtain ⟨w1, h1, h⟩ := aw_b1s h
      have c1 := (fr_r S_m_spur w).trans (fr_m (by decide) (f_m_layTurns N _ _ _ _ h1))
      exact (c1).trans (f_m_spur_37 N  _ ih N _ _ _ _ _ _ _ h)
theorem f_m_spur (N : Nat) : ∀ (x1 : Int) (w : aw_W) (y : Int) (v : aw_W), m_spur N x1 w = some (y, v) → fr_ S_m_spur w v := by
  intro x1 w y v h
  unfold m_spur at h
  obtain ⟨r1, w1, h1, h⟩ := aw_b2s h
  have c1 := ((fr_r S_m_spur w).up (by rfl)).trans (fr_m (by decide) (f_m_areTurns N _ _ _ _ h1))
  by_cases hc : r1 = 0
  · rw [if_pos hc] at h
    cases h
    exact c1
  · rw [if_neg hc] at h
    exact (c1).trans (f_m_spur_20 N  N _ _ _ _ _ h)
def S_m_step : List (Nat × Nat) := [(49, 0), (49, 5), (49, 8), (49, 9), (49, 10), (49, 11), (49, 12), (49, 13), (49, 14), (49, 17), (49, 31), (53, 1000000), (59, 1000000), (60, 1000000), (61, 1000000), (62, 1000000), (63, 1000000)]
theorem f_m_step_34 (N : Nat) : ∀ (w : aw_W) (y : Int) (v : aw_W), m_step_34 N w = some (y, v) → fr_ S_m_step w v := by
  intro w y v h
  unfold m_step_34 at h
  cases h
  exact fr_r S_m_step w
theorem f_m_step (N : Nat) : ∀ (x1 x2 x3 x4 : Int) (w : aw_W) (y : Int) (v : aw_W), m_step N x1 x2 x3 x4 w = some (y, v) → fr_ S_m_step w v := by
  intro x1 x2 x3 x4 w y v h
  unfold m_step at h
  obtain ⟨r1, w1, h1, h⟩ := aw_b2s h
  have c1 := ((fr_r S_m_step w).up (by rfl)).trans (fr_m (by decide) (f_m_isRace N _ _ _ _ _ h1))
  by_cases hc : r1 = 0
  · rw [if_pos hc] at h
    exact (c1).trans (f_m_step_34 N  _ _ _ h)
  · rw [if_neg hc] at h
    obtain ⟨r2, w2, h2, h⟩ := aw_b2s h
    have c2 := (c1).trans (fr_m (by decide) (f_m_isStriver N _ _ _ _ h2))
    by_cases hc : r2 = 0
    · rw [if_pos hc] at h
      exact (c2).trans (f_m_step_34 N  _ _ _ h)
    · rw [if_neg hc] at h
      obtain ⟨r3, w3, h3, h⟩ := aw_b2s h
      have c3 := (c2).trans (fr_m (by decide) (f_m_isIn N _ _ _ _ _ _ h3))
      by_cases hc : r3 = 0
      · rw [if_pos hc] at h
        exact (c3).trans (f_m_step_34 N  _ _ _ h)
      · rw [if_neg hc] at h
        obtain ⟨w4, h4, h⟩ := aw_b1s h
        have c4 := (c3).trans (fr_m (by decide) (f_m_run N _ _ _ _ h4))
        obtain ⟨r5, w5, h5, h⟩ := aw_b2s h
        have c5 := (c4).trans (fr_m (by decide) (f_m_goneBy N _ _ _ _ _ h5))
        cases h
        exact c5
def S_m_striver : List (Nat × Nat) := [(49, 0)]
theorem f_m_striver_64 (N : Nat) : ∀ (s0 : Int) (w : aw_W) (y : Int) (v : aw_W), m_striver_64 N s0 w = some (y, v) → fr_ S_m_striver w v := by
  intro s0 w y v h
  unfold m_striver_64 at h
  cases h
  exact fr_r S_m_striver w
theorem f_m_striver_26 (N : Nat) : ∀ (x1 x2 s0 : Int) (w : aw_W) (y : Int) (v : aw_W), m_striver_26 N x1 x2 s0 w = some (y, v) → fr_ S_m_striver w v := by
  intro x1 x2 s0 w y v h
  unfold m_striver_26 at h
  by_cases hc : s0 ≤ 0
  · rw [if_pos hc] at h
    by_cases hc : x2 = 4
    · rw [if_pos hc] at h
      obtain ⟨_, h⟩ := aw_cks h
      exact ((fr_r S_m_striver w).up (by rfl)).trans (f_m_striver_64 N  _ _ _ _ h)
    · rw [if_neg hc] at h
      obtain ⟨_, h⟩ := aw_cks h
      exact ((fr_r S_m_striver w).up (by rfl)).trans (f_m_striver_64 N  _ _ _ _ h)
  · rw [if_neg hc] at h
    exact ((fr_r S_m_striver w).up (by rfl)).trans (f_m_striver_64 N  _ _ _ _ h)
theorem f_m_striver_25 (N : Nat) : ∀ (x1 x2 : Int) (w : aw_W) (y : Int) (v : aw_W), m_striver_25 N x1 x2 w = some (y, v) → fr_ S_m_striver w v := by
  intro x1 x2 w y v h
  unfold m_striver_25 at h
  exact (fr_r S_m_striver w).trans (f_m_striver_26 N  _ _ _ _ _ _ h)
theorem f_m_striver (N : Nat) : ∀ (x1 x2 : Int) (w : aw_W) (y : Int) (v : aw_W), m_striver N x1 x2 w = some (y, v) → fr_ S_m_striver w v := by
  intro x1 x2 w y v h
  unfold m_striver at h
  obtain ⟨r1, w1, h1, h⟩ := aw_b2s h
  have c1 := (fr_r S_m_striver w).trans (fr_m (by decide) (f_m_isStriver N _ _ _ _ h1))
  by_cases hc : r1 = 0
  · rw [if_pos hc] at h
    exact (c1).trans (f_m_striver_25 N  _ _ _ _ _ h)
  · rw [if_neg hc] at h
    obtain ⟨r2, w2, h2, h⟩ := aw_b2s h
    have c2 := (c1).trans (fr_m (by decide) (f_m_isIn N _ _ _ _ _ _ h2))
    by_cases hc : r2 = 0
    · rw [if_pos hc] at h
      exact (c2).trans (f_m_striver_25 N  _ _ _ _ _ h)
    · rw [if_neg hc] at h
      exact (c2).trans (f_m_striver_26 N  _ _ _ _ _ _ h)
def S_m_sum_49 : List (Nat × Nat) := [(49, 0), (59, 1000000), (60, 1000000), (64, 1000000)]
theorem f_m_sum_49_48 (N : Nat) : ∀ (x2 : Int) (w : aw_W) (y : Int) (v : aw_W), m_sum_49_48 N x2 w = some (y, v) → fr_ S_m_sum_49 w v := by
  intro x2 w y v h
  unfold m_sum_49_48 at h
  cases h
  exact fr_r S_m_sum_49 w
theorem f_m_sum_49_21 (N : Nat) : ∀ (n : Nat) (x1 x2 x3 : Int) (w : aw_W) (y : Int) (v : aw_W), m_sum_49_21 N n x1 x2 x3 w = some (y, v) → fr_ S_m_sum_49 w v := by
  intro n
  induction n with
  | zero => intro x1 x2 x3 w y v h; rw [m_sum_49_21] at h; cases h
  | succ n ih =>
    intro x1 x2 x3 w y v h
    rw [m_sum_49_21] at h
    by_cases hc : (w 49 43) ≤ x3
    · rw [if_pos hc] at h
      exact (fr_r S_m_sum_49 w).trans (f_m_sum_49_48 N  _ _ _ _ h)
    · rw [if_neg hc] at h
      obtain ⟨w1, h1, h⟩ := aw_b1s h
      have c1 := (fr_r S_m_sum_49 w).trans (fr_m (by decide) (f_m_layBooked N _ _ _ h1))
      obtain ⟨r2, w2, h2, h⟩ := aw_b2s h
      have c2 := (c1).trans (fr_m (by decide) (f_m_gainOf N _ _ _ _ h2))
      exact (c2).trans (ih _ _ _ _ _ _ h)
theorem f_m_sum_49 (N : Nat) : ∀ (x1 : Int) (w : aw_W) (y : Int) (v : aw_W), m_sum_49 N x1 w = some (y, v) → fr_ S_m_sum_49 w v := by
  intro x1 w y v h
  unfold m_sum_49 at h
  obtain ⟨r1, w1, h1, h⟩ := aw_b2s h
  have c1 := ((fr_r S_m_sum_49 w).up (by rfl)).trans (fr_m (by decide) (f_m_isStriver N _ _ _ _ h1))
  by_cases hc : r1 = 0
  · rw [if_pos hc] at h
    cases h
    exact c1
  · rw [if_neg hc] at h
    exact (c1).trans (f_m_sum_49_21 N  N _ _ _ _ _ _ h)
def S_m_text : List (Nat × Nat) := [(49, 0), (49, 5), (49, 6), (49, 7), (49, 8), (49, 9), (49, 10), (49, 11), (49, 12), (49, 13), (49, 14), (49, 17), (49, 22), (49, 23), (49, 24), (49, 43), (49, 51), (51, 1000000), (52, 1000000), (54, 1000000), (55, 1000000), (56, 1000000), (57, 1000000), (58, 1000000)]
theorem f_m_text_37 (N : Nat) : ∀ (w : aw_W) (y : Int) (v : aw_W), m_text_37 N w = some (y, v) → fr_ S_m_text w v := by
  intro w y v h
  unfold m_text_37 at h
  cases h
  exact fr_r S_m_text w
theorem f_m_text_195 (N : Nat) : ∀ (w : aw_W) (y : Int) (v : aw_W), m_text_195 N w = some (y, v) → fr_ S_m_text w v := by
  intro w y v h
  unfold m_text_195 at h
  cases h
  exact ((fr_r S_m_text w).up (by rfl)).up (by rfl)
theorem f_m_text_176 (N : Nat) : ∀ (n : Nat) (x3 : Int) (w : aw_W) (y : Int) (v : aw_W), m_text_176 N n x3 w = some (y, v) → fr_ S_m_text w v := by
  intro n
  induction n with
  | zero => intro x3 w y v h; rw [m_text_176] at h; cases h
  | succ n ih =>
    intro x3 w y v h
    rw [m_text_176] at h
    by_cases hc : 6 ≤ x3
    · rw [if_pos hc] at h
      exact (fr_r S_m_text w).trans (f_m_text_195 N  _ _ _ h)
    · rw [if_neg hc] at h
      obtain ⟨_, h⟩ := aw_cks h
      exact ((fr_r S_m_text w).upA (by rfl)).trans (ih _ _ _ _ h)
theorem f_m_text_174 (N : Nat) : ∀ (w : aw_W) (y : Int) (v : aw_W), m_text_174 N w = some (y, v) → fr_ S_m_text w v := by
  intro w y v h
  unfold m_text_174 at h
  exact (fr_r S_m_text w).trans (f_m_text_176 N  N _ _ _ _ h)
theorem f_m_text_151 (N : Nat) : ∀ (n : Nat) (x3 : Int) (w : aw_W) (y : Int) (v : aw_W), m_text_151 N n x3 w = some (y, v) → fr_ S_m_text w v := by
  intro n
  induction n with
  | zero => intro x3 w y v h; rw [m_text_151] at h; cases h
  | succ n ih =>
    intro x3 w y v h
    rw [m_text_151] at h
    by_cases hc : 5 ≤ x3
    · rw [if_pos hc] at h
      exact (fr_r S_m_text w).trans (f_m_text_174 N  _ _ _ h)
    · rw [if_neg hc] at h
      obtain ⟨_, h⟩ := aw_cks h
      obtain ⟨_, h⟩ := aw_cks h
      exact ((fr_r S_m_text w).upA (by rfl)).trans (ih _ _ _ _ h)
theorem f_m_text_149 (N : Nat) : ∀ (w : aw_W) (y : Int) (v : aw_W), m_text_149 N w = some (y, v) → fr_ S_m_text w v := by
  intro w y v h
  unfold m_text_149 at h
  exact (fr_r S_m_text w).trans (f_m_text_151 N  N _ _ _ _ h)
theorem f_m_text_125 (N : Nat) : ∀ (n : Nat) (x3 : Int) (w : aw_W) (y : Int) (v : aw_W), m_text_125 N n x3 w = some (y, v) → fr_ S_m_text w v := by
  intro n
  induction n with
  | zero => intro x3 w y v h; rw [m_text_125] at h; cases h
  | succ n ih =>
    intro x3 w y v h
    rw [m_text_125] at h
    by_cases hc : 24 ≤ x3
    · rw [if_pos hc] at h
      exact (fr_r S_m_text w).trans (f_m_text_149 N  _ _ _ h)
    · rw [if_neg hc] at h
      obtain ⟨_, h⟩ := aw_cks h
      obtain ⟨_, h⟩ := aw_cks h
      exact ((fr_r S_m_text w).upA (by rfl)).trans (ih _ _ _ _ h)
theorem f_m_text_88 (N : Nat) : ∀ (x2 : Int) (w : aw_W) (y : Int) (v : aw_W), m_text_88 N x2 w = some (y, v) → fr_ S_m_text w v := by
  intro x2 w y v h
  unfold m_text_88 at h
  obtain ⟨_, h⟩ := aw_cks h
  cases h
  exact ((fr_r S_m_text w).upA (by rfl)).up (by rfl)
theorem f_m_text_56 (N : Nat) : ∀ (n : Nat) (x2 x3 : Int) (w : aw_W) (y : Int) (v : aw_W), m_text_56 N n x2 x3 w = some (y, v) → fr_ S_m_text w v := by
  intro n
  induction n with
  | zero => intro x2 x3 w y v h; rw [m_text_56] at h; cases h
  | succ n ih =>
    intro x2 x3 w y v h
    rw [m_text_56] at h
    by_cases hc : x2 ≤ x3
    · rw [if_pos hc] at h
      exact (fr_r S_m_text w).trans (f_m_text_88 N  _ _ _ _ h)
    · rw [if_neg hc] at h
      obtain ⟨_, h⟩ := aw_cks h
      obtain ⟨_, h⟩ := aw_cks h
      obtain ⟨_, h⟩ := aw_cks h
      exact ((fr_r S_m_text w).upA (by rfl)).trans (ih _ _ _ _ _ h)
theorem f_m_text_28 (N : Nat) : ∀ (x1 : Int) (w : aw_W) (y : Int) (v : aw_W), m_text_28 N x1 w = some (y, v) → fr_ S_m_text w v := by
  intro x1 w y v h
  unfold m_text_28 at h
  obtain ⟨r1, w1, h1, h⟩ := aw_b2s h
  have c1 := (fr_r S_m_text w).trans (fr_m (by decide) (f_m_fault N _ _ _ _ h1))
  by_cases hc : r1 = (-1)
  · rw [if_pos hc] at h
    by_cases hc : x1 = 1
    · rw [if_pos hc] at h
      exact ((c1).up (by rfl)).trans (f_m_text_56 N  N _ _ _ _ _ h)
    · rw [if_neg hc] at h
      exact (((c1).up (by rfl)).up (by rfl)).trans (f_m_text_125 N  N _ _ _ _ h)
  · rw [if_neg hc] at h
    exact (c1).trans (f_m_text_37 N  _ _ _ h)
theorem f_m_text (N : Nat) : ∀ (x1 : Int) (w : aw_W) (y : Int) (v : aw_W), m_text N x1 w = some (y, v) → fr_ S_m_text w v := by
  intro x1 w y v h
  unfold m_text at h
  obtain ⟨r1, w1, h1, h⟩ := aw_b2s h
  have c1 := ((fr_r S_m_text w).up (by rfl)).trans (fr_m (by decide) (f_m_isIn N _ _ _ _ _ _ h1))
  by_cases hc : r1 = 0
  · rw [if_pos hc] at h
    exact (c1).trans (f_m_text_37 N  _ _ _ h)
  · rw [if_neg hc] at h
    by_cases hc : x1 = 1
    · rw [if_pos hc] at h
      by_cases hc : (w1 49 7) = 4
      · rw [if_pos hc] at h
        exact (c1).trans (f_m_text_37 N  _ _ _ h)
      · rw [if_neg hc] at h
        exact (c1).trans (f_m_text_28 N  _ _ _ _ h)
    · rw [if_neg hc] at h
      exact (c1).trans (f_m_text_28 N  _ _ _ _ h)
def S_m_thrown : List (Nat × Nat) := []
theorem f_m_thrown (N : Nat) : ∀ (w : aw_W) (y : Int) (v : aw_W), m_thrown N w = some (y, v) → fr_ S_m_thrown w v := by
  intro w y v h
  unfold m_thrown at h
  cases h
  exact fr_r S_m_thrown w
def S_m_goPact : List (Nat × Nat) := [(49, 36), (49, 37), (59, 1000000), (60, 1000000), (64, 1000000)]
theorem f_m_goPact_141 (N : Nat) (c_m_goPact : Int → Int → aw_W → Option (aw_W)) (hc_m_goPact : ∀ (x1 x2 : Int) (w v : aw_W), c_m_goPact x1 x2 w = some v → fr_ S_m_goPact w v) : ∀ (x2 x3 : Int) (w v : aw_W), m_goPact_141 c_m_goPact N x2 x3 w = some v → fr_ S_m_goPact w v := by
  intro x2 x3 w v h
  unfold m_goPact_141 at h
  obtain ⟨_, h⟩ := aw_cks h
  cases h
  exact (fr_r S_m_goPact w).upA (by rfl)
theorem f_m_goPact_108 (N : Nat) (c_m_goPact : Int → Int → aw_W → Option (aw_W)) (hc_m_goPact : ∀ (x1 x2 : Int) (w v : aw_W), c_m_goPact x1 x2 w = some v → fr_ S_m_goPact w v) : ∀ (n : Nat) (x1 x2 x3 x4 : Int) (w v : aw_W), m_goPact_108 c_m_goPact N n x1 x2 x3 x4 w = some v → fr_ S_m_goPact w v := by
  intro n
  induction n with
  | zero => intro x1 x2 x3 x4 w v h; rw [m_goPact_108] at h; cases h
  | succ n ih =>
    intro x1 x2 x3 x4 w v h
    rw [m_goPact_108] at h
    by_cases hc : (w 56 4) < x4
    · rw [if_pos hc] at h
      exact (fr_r S_m_goPact w).trans (f_m_goPact_141 N c_m_goPact hc_m_goPact  _ _ _ _ h)
    · rw [if_neg hc] at h
      obtain ⟨_, h⟩ := aw_cks h
      obtain ⟨w1, h1, h⟩ := aw_b1s h
      have c1 := ((fr_r S_m_goPact w).upA (by rfl)).trans (hc_m_goPact _ _ _ _ h1)
      exact (c1).trans (ih _ _ _ _ _ _ h)
theorem f_m_goPact_67 (N : Nat) (c_m_goPact : Int → Int → aw_W → Option (aw_W)) (hc_m_goPact : ∀ (x1 x2 : Int) (w v : aw_W), c_m_goPact x1 x2 w = some v → fr_ S_m_goPact w v) : ∀ (x3 : Int) (w v : aw_W), m_goPact_67 c_m_goPact N x3 w = some v → fr_ S_m_goPact w v := by
  intro x3 w v h
  unfold m_goPact_67 at h
  obtain ⟨r1, w1, h1, h⟩ := aw_b2s h
  have c1 := ((fr_r S_m_goPact w).up (by rfl)).trans (fr_m (by decide) (f_m_rowOf N _ _ _ h1))
  cases h
  exact (c1).up (by rfl)
theorem f_m_goPact_50 (N : Nat) (c_m_goPact : Int → Int → aw_W → Option (aw_W)) (hc_m_goPact : ∀ (x1 x2 : Int) (w v : aw_W), c_m_goPact x1 x2 w = some v → fr_ S_m_goPact w v) : ∀ (x3 : Int) (w v : aw_W), m_goPact_50 c_m_goPact N x3 w = some v → fr_ S_m_goPact w v := by
  intro x3 w v h
  unfold m_goPact_50 at h
  by_cases hc : (w 49 37) = (-1)
  · rw [if_pos hc] at h
    exact (fr_r S_m_goPact w).trans (f_m_goPact_67 N c_m_goPact hc_m_goPact  _ _ _ h)
  · rw [if_neg hc] at h
    by_cases hc : (w 49 36) < x3
    · rw [if_pos hc] at h
      exact (fr_r S_m_goPact w).trans (f_m_goPact_67 N c_m_goPact hc_m_goPact  _ _ _ h)
    · rw [if_neg hc] at h
      cases h
      exact fr_r S_m_goPact w
theorem f_m_goPact_42 (N : Nat) (c_m_goPact : Int → Int → aw_W → Option (aw_W)) (hc_m_goPact : ∀ (x1 x2 : Int) (w v : aw_W), c_m_goPact x1 x2 w = some v → fr_ S_m_goPact w v) (k13 : Int → Int → Int → aw_W → Option (aw_W)) (hk13 : ∀ (x1 x3 x4 : Int) (w v : aw_W), k13 x1 x3 x4 w = some v → fr_ S_m_goPact w v) : ∀ (x1 x4 s0 s1 : Int) (w v : aw_W), m_goPact_42 c_m_goPact N k13 x1 x4 s0 s1 w = some v → fr_ S_m_goPact w v := by
  intro x1 x4 s0 s1 w v h
  unfold m_goPact_42 at h
  exact (fr_r S_m_goPact w).trans (hk13 _ _ _ _ _ h)
theorem f_m_goPact_13 (N : Nat) (c_m_goPact : Int → Int → aw_W → Option (aw_W)) (hc_m_goPact : ∀ (x1 x2 : Int) (w v : aw_W), c_m_goPact x1 x2 w = some v → fr_ S_m_goPact w v) : ∀ (n : Nat) (x1 x3 x4 : Int) (w v : aw_W), m_goPact_13 c_m_goPact N n x1 x3 x4 w = some v → fr_ S_m_goPact w v := by
  intro n
  induction n with
  | zero => intro x1 x3 x4 w v h; rw [m_goPact_13] at h; cases h
  | succ n ih =>
    intro x1 x3 x4 w v h
    rw [m_goPact_13] at h
    by_cases hc : (w 49 22) ≤ x4
    · rw [if_pos hc] at h
      exact (fr_r S_m_goPact w).trans (f_m_goPact_50 N c_m_goPact hc_m_goPact  _ _ _ h)
    · rw [if_neg hc] at h
      obtain ⟨r1, w1, h1, h⟩ := aw_b2s h
      have c1 := (fr_r S_m_goPact w).trans (fr_m (by decide) (f_m_has N _ _ _ _ _ h1))
      by_cases hc : r1 = 0
      · rw [if_pos hc] at h
        exact (c1).trans (f_m_goPact_42 N c_m_goPact hc_m_goPact  _ ih _ _ _ _ _ _ h)
      · rw [if_neg hc] at h
        obtain ⟨r2, w2, h2, h⟩ := aw_b2s h
        have c2 := (c1).trans (fr_m (by decide) (f_m_gainOf N _ _ _ _ h2))
        exact (c2).trans (f_m_goPact_42 N c_m_goPact hc_m_goPact  _ ih _ _ _ _ _ _ h)
theorem f_m_goPact_b (N : Nat) (c_m_goPact : Int → Int → aw_W → Option (aw_W)) (hc_m_goPact : ∀ (x1 x2 : Int) (w v : aw_W), c_m_goPact x1 x2 w = some v → fr_ S_m_goPact w v) : ∀ (x1 x2 : Int) (w v : aw_W), m_goPact_b c_m_goPact N x1 x2 w = some v → fr_ S_m_goPact w v := by
  intro x1 x2 w v h
  unfold m_goPact_b at h
  by_cases hc : x2 = (w 49 22)
  · rw [if_pos hc] at h
    exact (fr_r S_m_goPact w).trans (f_m_goPact_13 N c_m_goPact hc_m_goPact  N _ _ _ _ _ h)
  · rw [if_neg hc] at h
    obtain ⟨r1, w1, h1, h⟩ := aw_b2s h
    have c1 := (fr_r S_m_goPact w).trans (fr_m (by decide) (f_m_has N _ _ _ _ _ h1))
    by_cases hc : r1 = 0
    · rw [if_pos hc] at h
      obtain ⟨w2, h2, h⟩ := aw_b1s h
      have c2 := (c1).trans (hc_m_goPact _ _ _ _ h2)
      cases h
      exact c2
    · rw [if_neg hc] at h
      obtain ⟨_, h⟩ := aw_cks h
      exact (c1).trans (f_m_goPact_108 N c_m_goPact hc_m_goPact  N _ _ _ _ _ _ h)
theorem f_g_m_goPact (N : Nat) : ∀ D : Nat, (∀ (x1 x2 : Int) (w v : aw_W), (g_m_goPact N D) x1 x2 w = some v → fr_ S_m_goPact w v)
  | 0 => fun _ _ _ _ h => (by cases h)
  | D + 1 => by
    have ih := f_g_m_goPact N D
    exact f_m_goPact_b N _ ih
theorem f_m_goPact (N : Nat) : ∀ (x1 x2 : Int) (w v : aw_W), m_goPact N x1 x2 w = some v → fr_ S_m_goPact w v := (f_g_m_goPact N 60)
def S_m_goesPact : List (Nat × Nat) := [(49, 36), (49, 37), (59, 1000000), (60, 1000000), (64, 1000000)]
theorem f_m_goesPact_17 (N : Nat) : ∀ (w : aw_W) (y : Int) (v : aw_W), m_goesPact_17 N w = some (y, v) → fr_ S_m_goesPact w v := by
  intro w y v h
  unfold m_goesPact_17 at h
  cases h
  exact fr_r S_m_goesPact w
theorem f_m_goesPact (N : Nat) : ∀ (x1 x2 : Int) (w : aw_W) (y : Int) (v : aw_W), m_goesPact N x1 x2 w = some (y, v) → fr_ S_m_goesPact w v := by
  intro x1 x2 w y v h
  unfold m_goesPact at h
  obtain ⟨r1, w1, h1, h⟩ := aw_b2s h
  have c1 := (fr_r S_m_goesPact w).trans (fr_m (by decide) (f_m_isPact N _ _ _ _ _ h1))
  by_cases hc : r1 = 0
  · rw [if_pos hc] at h
    exact (c1).trans (f_m_goesPact_17 N  _ _ _ h)
  · rw [if_neg hc] at h
    obtain ⟨r2, w2, h2, h⟩ := aw_b2s h
    have c2 := (c1).trans (fr_m (by decide) (f_j_Int_bitCount N _ _ _ _ h2))
    by_cases hc : r2 ≤ 4
    · rw [if_pos hc] at h
      obtain ⟨w3, h3, h⟩ := aw_b1s h
      have c3 := ((c2).up (by rfl)).trans (fr_m (by decide) (f_m_goPact N _ _ _ _ h3))
      cases h
      exact c3
    · rw [if_neg hc] at h
      exact (c2).trans (f_m_goesPact_17 N  _ _ _ h)
def S_m_together : List (Nat × Nat) := [(49, 0), (49, 36), (49, 37), (59, 1000000), (60, 1000000), (64, 1000000)]
theorem f_m_together_24 (N : Nat) : ∀ (w : aw_W) (y : Int) (v : aw_W), m_together_24 N w = some (y, v) → fr_ S_m_together w v := by
  intro w y v h
  unfold m_together_24 at h
  cases h
  exact fr_r S_m_together w
theorem f_m_together_43 (N : Nat) : ∀ (s0 : Int) (w : aw_W) (y : Int) (v : aw_W), m_together_43 N s0 w = some (y, v) → fr_ S_m_together w v := by
  intro s0 w y v h
  unfold m_together_43 at h
  cases h
  exact fr_r S_m_together w
theorem f_m_together (N : Nat) : ∀ (x1 x2 x3 : Int) (w : aw_W) (y : Int) (v : aw_W), m_together N x1 x2 x3 w = some (y, v) → fr_ S_m_together w v := by
  intro x1 x2 x3 w y v h
  unfold m_together at h
  obtain ⟨r1, w1, h1, h⟩ := aw_b2s h
  have c1 := ((fr_r S_m_together w).up (by rfl)).trans (fr_m (by decide) (f_m_isIn N _ _ _ _ _ _ h1))
  by_cases hc : r1 = 0
  · rw [if_pos hc] at h
    exact (c1).trans (f_m_together_24 N  _ _ _ h)
  · rw [if_neg hc] at h
    obtain ⟨r2, w2, h2, h⟩ := aw_b2s h
    have c2 := (c1).trans (fr_m (by decide) (f_m_goesPact N _ _ _ _ _ h2))
    by_cases hc : r2 = 0
    · rw [if_pos hc] at h
      exact (c2).trans (f_m_together_24 N  _ _ _ h)
    · rw [if_neg hc] at h
      by_cases hc : x3 = 0
      · rw [if_pos hc] at h
        exact (c2).trans (f_m_together_43 N  _ _ _ _ h)
      · rw [if_neg hc] at h
        exact (c2).trans (f_m_together_43 N  _ _ _ _ h)
def S_m_treason : List (Nat × Nat) := [(49, 0), (49, 34), (49, 35), (49, 36), (49, 37), (59, 1000000), (60, 1000000), (64, 1000000)]
theorem f_m_treason_91 (N : Nat) : ∀ (x4 : Int) (w : aw_W) (y : Int) (v : aw_W), m_treason_91 N x4 w = some (y, v) → fr_ S_m_treason w v := by
  intro x4 w y v h
  unfold m_treason_91 at h
  cases h
  exact fr_r S_m_treason w
theorem f_m_treason_85 (N : Nat) (k36 : Int → Int → Int → Int → aw_W → Option (Int × aw_W)) (hk36 : ∀ (x2 x4 x5 x6 : Int) (w : aw_W) (y : Int) (v : aw_W), k36 x2 x4 x5 x6 w = some (y, v) → fr_ S_m_treason w v) : ∀ (x2 x4 x5 x6 : Int) (w : aw_W) (y : Int) (v : aw_W), m_treason_85 N k36 x2 x4 x5 x6 w = some (y, v) → fr_ S_m_treason w v := by
  intro x2 x4 x5 x6 w y v h
  unfold m_treason_85 at h
  exact (fr_r S_m_treason w).trans (hk36 _ _ _ _ _ _ _ h)
theorem f_m_treason_36 (N : Nat) : ∀ (n : Nat) (x2 x4 x5 x6 : Int) (w : aw_W) (y : Int) (v : aw_W), m_treason_36 N n x2 x4 x5 x6 w = some (y, v) → fr_ S_m_treason w v := by
  intro n
  induction n with
  | zero => intro x2 x4 x5 x6 w y v h; rw [m_treason_36] at h; cases h
  | succ n ih =>
    intro x2 x4 x5 x6 w y v h
    rw [m_treason_36] at h
    by_cases hc : (w 49 22) ≤ x6
    · rw [if_pos hc] at h
      exact (fr_r S_m_treason w).trans (f_m_treason_91 N  _ _ _ _ h)
    · rw [if_neg hc] at h
      obtain ⟨r1, w1, h1, h⟩ := aw_b2s h
      have c1 := (fr_r S_m_treason w).trans (fr_m (by decide) (f_m_has N _ _ _ _ _ h1))
      by_cases hc : r1 = 0
      · rw [if_pos hc] at h
        exact (c1).trans (f_m_treason_85 N  _ ih _ _ _ _ _ _ _ h)
      · rw [if_neg hc] at h
        obtain ⟨w2, h2, h⟩ := aw_b1s h
        have c2 := (c1).trans (fr_m (by decide) (f_m_layBest N _ _ _ h2))
        by_cases hc : x5 < (w2 49 35)
        · rw [if_pos hc] at h
          exact (c2).trans (f_m_treason_85 N  _ ih _ _ _ _ _ _ _ h)
        · rw [if_neg hc] at h
          exact (c2).trans (f_m_treason_85 N  _ ih _ _ _ _ _ _ _ h)
theorem f_m_treason (N : Nat) : ∀ (x1 x2 : Int) (w : aw_W) (y : Int) (v : aw_W), m_treason N x1 x2 w = some (y, v) → fr_ S_m_treason w v := by
  intro x1 x2 w y v h
  unfold m_treason at h
  obtain ⟨r1, w1, h1, h⟩ := aw_b2s h
  have c1 := ((fr_r S_m_treason w).up (by rfl)).trans (fr_m (by decide) (f_m_goesPact N _ _ _ _ _ h1))
  by_cases hc : r1 = 0
  · rw [if_pos hc] at h
    cases h
    exact c1
  · rw [if_neg hc] at h
    obtain ⟨r2, w2, h2, h⟩ := aw_b2s h
    have c2 := (c1).trans (fr_m (by decide) (f_m_lay N _ _ _ _ h2))
    exact (c2).trans (f_m_treason_36 N  N _ _ _ _ _ _ _ h)
def S_m_undo : List (Nat × Nat) := [(49, 0), (49, 43)]
theorem f_m_undo (N : Nat) : ∀ (w : aw_W) (y : Int) (v : aw_W), m_undo N w = some (y, v) → fr_ S_m_undo w v := by
  intro w y v h
  unfold m_undo at h
  by_cases hc : (w 49 43) = 0
  · rw [if_pos hc] at h
    cases h
    exact (fr_r S_m_undo w).up (by rfl)
  · rw [if_neg hc] at h
    cases h
    exact ((fr_r S_m_undo w).up (by rfl)).up (by rfl)
def S_m_voids : List (Nat × Nat) := [(49, 0), (59, 1000000), (60, 1000000), (64, 1000000)]
theorem f_m_voids_63 (N : Nat) : ∀ (x1 : Int) (w : aw_W) (y : Int) (v : aw_W), m_voids_63 N x1 w = some (y, v) → fr_ S_m_voids w v := by
  intro x1 w y v h
  unfold m_voids_63 at h
  cases h
  exact fr_r S_m_voids w
theorem f_m_voids_57 (N : Nat) (k18 : Int → Int → aw_W → Option (Int × aw_W)) (hk18 : ∀ (x1 x2 : Int) (w : aw_W) (y : Int) (v : aw_W), k18 x1 x2 w = some (y, v) → fr_ S_m_voids w v) : ∀ (x1 x2 : Int) (w : aw_W) (y : Int) (v : aw_W), m_voids_57 N k18 x1 x2 w = some (y, v) → fr_ S_m_voids w v := by
  intro x1 x2 w y v h
  unfold m_voids_57 at h
  exact (fr_r S_m_voids w).trans (hk18 _ _ _ _ _ h)
theorem f_m_voids_55 (N : Nat) (k18 : Int → Int → aw_W → Option (Int × aw_W)) (hk18 : ∀ (x1 x2 : Int) (w : aw_W) (y : Int) (v : aw_W), k18 x1 x2 w = some (y, v) → fr_ S_m_voids w v) : ∀ (x2 s0 s1 : Int) (w : aw_W) (y : Int) (v : aw_W), m_voids_55 N k18 x2 s0 s1 w = some (y, v) → fr_ S_m_voids w v := by
  intro x2 s0 s1 w y v h
  unfold m_voids_55 at h
  exact (fr_r S_m_voids w).trans (f_m_voids_57 N  _ hk18 _ _ _ _ _ h)
theorem f_m_voids_18 (N : Nat) : ∀ (n : Nat) (x1 x2 : Int) (w : aw_W) (y : Int) (v : aw_W), m_voids_18 N n x1 x2 w = some (y, v) → fr_ S_m_voids w v := by
  intro n
  induction n with
  | zero => intro x1 x2 w y v h; rw [m_voids_18] at h; cases h
  | succ n ih =>
    intro x1 x2 w y v h
    rw [m_voids_18] at h
    obtain ⟨r1, w1, h1, h⟩ := aw_b2s h
    have c1 := (fr_r S_m_voids w).trans (fr_m (by decide) (f_m_rowMany N _ _ _ h1))
    by_cases hc : r1 ≤ x2
    · rw [if_pos hc] at h
      exact (c1).trans (f_m_voids_63 N  _ _ _ _ h)
    · rw [if_neg hc] at h
      obtain ⟨r2, w2, h2, h⟩ := aw_b2s h
      have c2 := (c1).trans (fr_m (by decide) (f_m_lay N _ _ _ _ h2))
      by_cases hc : r2 = 0
      · rw [if_pos hc] at h
        exact (c2).trans (f_m_voids_57 N  _ ih _ _ _ _ _ h)
      · rw [if_neg hc] at h
        obtain ⟨w3, h3, h⟩ := aw_b1s h
        have c3 := (c2).trans (fr_m (by decide) (f_m_judge N _ _ h3))
        obtain ⟨r4, w4, h4, h⟩ := aw_b2s h
        have c4 := (c3).trans (fr_m (by decide) (f_m_winner N _ _ _ h4))
        by_cases hc : r4 = (-1)
        · rw [if_pos hc] at h
          exact (c4).trans (f_m_voids_55 N  _ ih _ _ _ _ _ _ h)
        · rw [if_neg hc] at h
          exact (c4).trans (f_m_voids_55 N  _ ih _ _ _ _ _ _ h)
theorem f_m_voids (N : Nat) : ∀ (w : aw_W) (y : Int) (v : aw_W), m_voids N w = some (y, v) → fr_ S_m_voids w v := by
  intro w y v h
  unfold m_voids at h
  obtain ⟨r1, w1, h1, h⟩ := aw_b2s h
  have c1 := ((fr_r S_m_voids w).up (by rfl)).trans (fr_m (by decide) (f_m_areFew N _ _ _ h1))
  by_cases hc : r1 = 0
  · rw [if_pos hc] at h
    cases h
    exact c1
  · rw [if_neg hc] at h
    exact (c1).trans (f_m_voids_18 N  N _ _ _ _ _ h)
def S_m_waits : List (Nat × Nat) := [(49, 0), (65, 1000000), (66, 1000000), (67, 1000000)]
theorem f_m_waits_21 (N : Nat) : ∀ (w : aw_W) (y : Int) (v : aw_W), m_waits_21 N w = some (y, v) → fr_ S_m_waits w v := by
  intro w y v h
  unfold m_waits_21 at h
  cases h
  exact fr_r S_m_waits w
theorem f_m_waits (N : Nat) : ∀ (x1 x2 : Int) (w : aw_W) (y : Int) (v : aw_W), m_waits N x1 x2 w = some (y, v) → fr_ S_m_waits w v := by
  intro x1 x2 w y v h
  unfold m_waits at h
  obtain ⟨r1, w1, h1, h⟩ := aw_b2s h
  have c1 := ((fr_r S_m_waits w).up (by rfl)).trans (fr_m (by decide) (f_m_areTurns N _ _ _ _ h1))
  by_cases hc : r1 = 0
  · rw [if_pos hc] at h
    exact (c1).trans (f_m_waits_21 N  _ _ _ h)
  · rw [if_neg hc] at h
    obtain ⟨r2, w2, h2, h⟩ := aw_b2s h
    have c2 := (c1).trans (fr_m (by decide) (f_m_isStriver N _ _ _ _ h2))
    by_cases hc : r2 = 0
    · rw [if_pos hc] at h
      exact (c2).trans (f_m_waits_21 N  _ _ _ h)
    · rw [if_neg hc] at h
      obtain ⟨w3, h3, h⟩ := aw_b1s h
      have c3 := (c2).trans (fr_m (by decide) (f_m_layTurns N _ _ _ _ h3))
      obtain ⟨_, h⟩ := aw_cks h
      cases h
      exact c3
def S_m_without : List (Nat × Nat) := [(49, 0), (49, 5), (49, 8), (49, 9), (49, 10), (49, 11), (49, 12), (49, 13), (49, 14), (49, 17), (49, 31), (49, 32), (53, 1000000), (59, 1000000), (60, 1000000), (61, 1000000), (62, 1000000), (63, 1000000)]
theorem f_m_without_22 (N : Nat) : ∀ (w : aw_W) (y : Int) (v : aw_W), m_without_22 N w = some (y, v) → fr_ S_m_without w v := by
  intro w y v h
  unfold m_without_22 at h
  cases h
  exact fr_r S_m_without w
theorem f_m_without (N : Nat) : ∀ (x1 x2 x3 : Int) (w : aw_W) (y : Int) (v : aw_W), m_without N x1 x2 x3 w = some (y, v) → fr_ S_m_without w v := by
  intro x1 x2 x3 w y v h
  unfold m_without at h
  obtain ⟨r1, w1, h1, h⟩ := aw_b2s h
  have c1 := ((fr_r S_m_without w).up (by rfl)).trans (fr_m (by decide) (f_m_isRace N _ _ _ _ _ h1))
  by_cases hc : r1 = 0
  · rw [if_pos hc] at h
    exact (c1).trans (f_m_without_22 N  _ _ _ h)
  · rw [if_neg hc] at h
    obtain ⟨r2, w2, h2, h⟩ := aw_b2s h
    have c2 := (c1).trans (fr_m (by decide) (f_m_isStriver N _ _ _ _ h2))
    by_cases hc : r2 = 0
    · rw [if_pos hc] at h
      exact (c2).trans (f_m_without_22 N  _ _ _ h)
    · rw [if_neg hc] at h
      obtain ⟨w3, h3, h⟩ := aw_b1s h
      have c3 := ((c2).up (by rfl)).trans (fr_m (by decide) (f_m_run N _ _ _ _ h3))
      obtain ⟨r4, w4, h4, h⟩ := aw_b2s h
      have c4 := ((c3).up (by rfl)).trans (fr_m (by decide) (f_m_winner N _ _ _ h4))
      cases h
      exact c4
def S_m_years : List (Nat × Nat) := [(49, 0), (49, 43), (49, 44), (64, 1000000), (69, 1000000)]
theorem f_m_years_35 (N : Nat) : ∀ (w : aw_W) (y : Int) (v : aw_W), m_years_35 N w = some (y, v) → fr_ S_m_years w v := by
  intro w y v h
  unfold m_years_35 at h
  cases h
  exact fr_r S_m_years w
theorem f_m_years_139 (N : Nat) : ∀ (w : aw_W) (y : Int) (v : aw_W), m_years_139 N w = some (y, v) → fr_ S_m_years w v := by
  intro w y v h
  unfold m_years_139 at h
  cases h
  exact fr_r S_m_years w
theorem f_m_years_110 (N : Nat) (k45 : Int → Int → aw_W → Option (Int × aw_W)) (hk45 : ∀ (x1 x4 : Int) (w : aw_W) (y : Int) (v : aw_W), k45 x1 x4 w = some (y, v) → fr_ S_m_years w v) : ∀ (x1 x4 : Int) (w : aw_W) (y : Int) (v : aw_W), m_years_110 N k45 x1 x4 w = some (y, v) → fr_ S_m_years w v := by
  intro x1 x4 w y v h
  unfold m_years_110 at h
  obtain ⟨r1, w1, h1, h⟩ := aw_b2s h
  have c1 := (fr_r S_m_years w).trans (fr_m (by decide) (f_m_rowOf N _ _ _ h1))
  obtain ⟨_, h⟩ := aw_cks h
  exact (((c1).upA (by rfl)).up (by rfl)).trans (hk45 _ _ _ _ _ h)
theorem f_m_years_54 (N : Nat) (k45 : Int → Int → aw_W → Option (Int × aw_W)) (hk45 : ∀ (x1 x4 : Int) (w : aw_W) (y : Int) (v : aw_W), k45 x1 x4 w = some (y, v) → fr_ S_m_years w v) : ∀ (n : Nat) (x1 x4 x5 : Int) (w : aw_W) (y : Int) (v : aw_W), m_years_54 N k45 n x1 x4 x5 w = some (y, v) → fr_ S_m_years w v := by
  intro n
  induction n with
  | zero => intro x1 x4 x5 w y v h; rw [m_years_54] at h; cases h
  | succ n ih =>
    intro x1 x4 x5 w y v h
    rw [m_years_54] at h
    by_cases hc : (w 49 22) ≤ x5
    · rw [if_pos hc] at h
      exact (fr_r S_m_years w).trans (f_m_years_110 N  _ hk45 _ _ _ _ _ h)
    · rw [if_neg hc] at h
      obtain ⟨_, h⟩ := aw_cks h
      obtain ⟨_, h⟩ := aw_cks h
      exact (((fr_r S_m_years w).up (by rfl)).upA (by rfl)).trans (ih _ _ _ _ _ _ h)
theorem f_m_years_45 (N : Nat) : ∀ (n : Nat) (x1 x4 : Int) (w : aw_W) (y : Int) (v : aw_W), m_years_45 N n x1 x4 w = some (y, v) → fr_ S_m_years w v := by
  intro n
  induction n with
  | zero => intro x1 x4 w y v h; rw [m_years_45] at h; cases h
  | succ n ih =>
    intro x1 x4 w y v h
    rw [m_years_45] at h
    by_cases hc : x1 ≤ x4
    · rw [if_pos hc] at h
      exact (fr_r S_m_years w).trans (f_m_years_139 N  _ _ _ h)
    · rw [if_neg hc] at h
      exact (fr_r S_m_years w).trans (f_m_years_54 N  _ ih N _ _ _ _ _ _ h)
theorem f_m_years (N : Nat) : ∀ (x1 x2 : Int) (w : aw_W) (y : Int) (v : aw_W), m_years N x1 x2 w = some (y, v) → fr_ S_m_years w v := by
  intro x1 x2 w y v h
  unfold m_years at h
  by_cases hc : (w 49 22) = 0
  · rw [if_pos hc] at h
    exact ((fr_r S_m_years w).up (by rfl)).trans (f_m_years_35 N  _ _ _ h)
  · rw [if_neg hc] at h
    obtain ⟨r1, w1, h1, h⟩ := aw_b2s h
    have c1 := ((fr_r S_m_years w).up (by rfl)).trans (fr_m (by decide) (f_m_isIn N _ _ _ _ _ _ h1))
    by_cases hc : r1 = 0
    · rw [if_pos hc] at h
      exact (c1).trans (f_m_years_35 N  _ _ _ h)
    · rw [if_neg hc] at h
      by_cases hc : (aw_w ((w1 49 43) + x1)) ≤ 40
      · rw [if_pos hc] at h
        exact ((c1).up (by rfl)).trans (f_m_years_45 N  N _ _ _ _ _ h)
      · rw [if_neg hc] at h
        exact (c1).trans (f_m_years_35 N  _ _ _ h)
