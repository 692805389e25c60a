def S_x_Book_become_44_41 : List (Nat × Nat) := [(44, 4), (45, 1000000)]
theorem f_x_Book_become_44_41 (N : Nat) : ∀ (w v : aw_W), x_Book_become_44_41 N w = some v → fr_ S_x_Book_become_44_41 w v := by
  intro w v h
  unfold x_Book_become_44_41 at h
  cases h
  exact ((fr_r S_x_Book_become_44_41 w).cpy (by rfl)).up (by rfl)
def S_x_image : List (Nat × Nat) := [(0, 14), (44, 4), (45, 1000000), (47, 1000000), (48, 1000000)]
theorem f_x_image (N : Nat) : ∀ (w : aw_W) (y : Int) (v : aw_W), x_image N w = some (y, v) → fr_ S_x_image w v := by
  intro w y v h
  unfold x_image at h
  by_cases hc : (w 3 4) = 0
  · rw [if_pos hc] at h
    cases h
    exact fr_r S_x_image w
  · rw [if_neg hc] at h
    obtain ⟨w1, h1, h⟩ := aw_b1s h
    have c1 := (fr_r S_x_image w).trans (fr_m (by decide) (f_x_Book_become_44_41 N _ _ h1))
    cases h
    exact (((c1).cpy (by rfl)).cpy (by rfl)).up (by rfl)
def S_x_latest : List (Nat × Nat) := [(15, 1000000), (16, 1000000), (26, 7), (26, 8), (27, 2), (28, 1000000), (29, 1000000), (30, 1000000), (31, 1000000), (32, 1000000), (33, 1000000)]
theorem f_x_latest_18 (N : Nat) : ∀ (w : aw_W) (y : Int) (v : aw_W), x_latest_18 N w = some (y, v) → fr_ S_x_latest w v := by
  intro w y v h
  unfold x_latest_18 at h
  cases h
  exact fr_r S_x_latest w
theorem f_x_latest_65 (N : Nat) : ∀ (w : aw_W) (y : Int) (v : aw_W), x_latest_65 N w = some (y, v) → fr_ S_x_latest w v := by
  intro w y v h
  unfold x_latest_65 at h
  cases h
  exact fr_r S_x_latest w
theorem f_x_latest_57 (N : Nat) : ∀ (x2 : Int) (w : aw_W) (y : Int) (v : aw_W), x_latest_57 N x2 w = some (y, v) → fr_ S_x_latest w v := by
  intro x2 w y v h
  unfold x_latest_57 at h
  cases h
  exact fr_r S_x_latest w
theorem f_x_latest_30 (N : Nat) : ∀ (n : Nat) (x1 x2 : Int) (w : aw_W) (y : Int) (v : aw_W), x_latest_30 N n x1 x2 w = some (y, v) → fr_ S_x_latest w v := by
  intro n
  induction n with
  | zero => intro x1 x2 w y v h; rw [x_latest_30] at h; cases h
  | succ n ih =>
    intro x1 x2 w y v h
    rw [x_latest_30] at h
    by_cases hc : 99 < x2
    · rw [if_pos hc] at h
      exact (fr_r S_x_latest w).trans (f_x_latest_65 N  _ _ _ h)
    · rw [if_neg hc] at h
      obtain ⟨w1, h1, h⟩ := aw_b1s h
      have c1 := (fr_r S_x_latest w).trans (fr_m (by decide) (f_x_Race_go N _ _ _ _ _ h1))
      obtain ⟨r2, w2, h2, h⟩ := aw_b2s h
      have c2 := (c1).trans (fr_m (by decide) (f_x_Race_holder N _ _ _ h2))
      by_cases hc : r2 = (-1)
      · rw [if_pos hc] at h
        exact (c2).trans (ih _ _ _ _ _ h)
      · rw [if_neg hc] at h
        exact (c2).trans (f_x_latest_57 N  _ _ _ _ h)
theorem f_x_latest (N : Nat) : ∀ (x1 : Int) (w : aw_W) (y : Int) (v : aw_W), x_latest N x1 w = some (y, v) → fr_ S_x_latest w v := by
  intro x1 w y v h
  unfold x_latest at h
  by_cases hc : (w 3 4) = 0
  · rw [if_pos hc] at h
    exact (fr_r S_x_latest w).trans (f_x_latest_18 N  _ _ _ h)
  · rw [if_neg hc] at h
    obtain ⟨r1, w1, h1, h⟩ := aw_b2s h
    have c1 := (fr_r S_x_latest w).trans (fr_m (by decide) (f_x_mayRun N _ _ _ _ _ h1))
    by_cases hc : r1 = 0
    · rw [if_pos hc] at h
      exact (c1).trans (f_x_latest_18 N  _ _ _ h)
    · rw [if_neg hc] at h
      obtain ⟨w2, h2, h⟩ := aw_b1s h
      have c2 := (c1).trans (fr_m (by decide) (f_x_Race_rulesAsTold N _ _ h2))
      exact (c2).trans (f_x_latest_30 N  N _ _ _ _ _ h)
def S_x_law : List (Nat × Nat) := []
theorem f_x_law_32 (N : Nat) : ∀ (s0 : Int) (w : aw_W) (y : Int) (v : aw_W), x_law_32 N s0 w = some (y, v) → fr_ S_x_law w v := by
  intro s0 w y v h
  unfold x_law_32 at h
  cases h
  exact fr_r S_x_law w
theorem f_x_law_19 (N : Nat) : ∀ (w : aw_W) (y : Int) (v : aw_W), x_law_19 N w = some (y, v) → fr_ S_x_law w v := by
  intro w y v h
  unfold x_law_19 at h
  exact (fr_r S_x_law w).trans (f_x_law_32 N  _ _ _ _ h)
theorem f_x_law (N : Nat) : ∀ (x1 : Int) (w : aw_W) (y : Int) (v : aw_W), x_law N x1 w = some (y, v) → fr_ S_x_law w v := by
  intro x1 w y v h
  unfold x_law at h
  by_cases hc : (w 3 4) = 0
  · rw [if_pos hc] at h
    exact (fr_r S_x_law w).trans (f_x_law_19 N  _ _ _ h)
  · rw [if_neg hc] at h
    by_cases hc : x1 < 0
    · rw [if_pos hc] at h
      exact (fr_r S_x_law w).trans (f_x_law_19 N  _ _ _ h)
    · rw [if_neg hc] at h
      by_cases hc : x1 < 5
      · rw [if_pos hc] at h
        obtain ⟨_, h⟩ := aw_cks h
        exact (fr_r S_x_law w).trans (f_x_law_32 N  _ _ _ _ h)
      · rw [if_neg hc] at h
        exact (fr_r S_x_law w).trans (f_x_law_19 N  _ _ _ h)
def S_x_Book_countPairs : List (Nat × Nat) := [(17, 3), (17, 4), (17, 5), (17, 6), (18, 2), (19, 1000000), (20, 1000000), (21, 1000000), (43, 1000000)]
theorem f_x_Book_countPairs_111 (N : Nat) : ∀ (w v : aw_W), x_Book_countPairs_111 N w = some v → fr_ S_x_Book_countPairs w v := by
  intro w v h
  unfold x_Book_countPairs_111 at h
  cases h
  exact fr_r S_x_Book_countPairs w
theorem f_x_Book_countPairs_105 (N : Nat) (k10 : Int → aw_W → Option (aw_W)) (hk10 : ∀ (x1 : Int) (w v : aw_W), k10 x1 w = some v → fr_ S_x_Book_countPairs w v) : ∀ (x1 : Int) (w v : aw_W), x_Book_countPairs_105 N k10 x1 w = some v → fr_ S_x_Book_countPairs w v := by
  intro x1 w v h
  unfold x_Book_countPairs_105 at h
  exact (fr_r S_x_Book_countPairs w).trans (hk10 _ _ _ h)
theorem f_x_Book_countPairs_10 (N : Nat) : ∀ (n : Nat) (x1 : Int) (w v : aw_W), x_Book_countPairs_10 N n x1 w = some v → fr_ S_x_Book_countPairs w v := by
  intro n
  induction n with
  | zero => intro x1 w v h; rw [x_Book_countPairs_10] at h; cases h
  | succ n ih =>
    intro x1 w v h
    rw [x_Book_countPairs_10] at h
    by_cases hc : (w 41 4) ≤ x1
    · rw [if_pos hc] at h
      exact (fr_r S_x_Book_countPairs w).trans (f_x_Book_countPairs_111 N  _ _ h)
    · rw [if_neg hc] at h
      obtain ⟨_, h⟩ := aw_cks h
      obtain ⟨r1, w1, h1, h⟩ := aw_b2s h
      have c1 := (fr_r S_x_Book_countPairs w).trans (fr_m (by decide) (f_x_Sale_put N _ _ _ _ h1))
      obtain ⟨w2, h2, h⟩ := aw_b1s h
      have c2 := (c1).trans (fr_m (by decide) (f_x_Sale_settle N _ _ h2))
      by_cases hc : (w2 17 6) = (-1)
      · rw [if_pos hc] at h
        exact (c2).trans (f_x_Book_countPairs_105 N  _ ih _ _ _ h)
      · rw [if_neg hc] at h
        by_cases hc : (w2 17 3) = (-1)
        · rw [if_pos hc] at h
          exact (c2).trans (f_x_Book_countPairs_105 N  _ ih _ _ _ h)
        · rw [if_neg hc] at h
          by_cases hc : (w2 17 3) = (w2 17 6)
          · rw [if_pos hc] at h
            exact (c2).trans (f_x_Book_countPairs_105 N  _ ih _ _ _ h)
          · rw [if_neg hc] at h
            obtain ⟨_, h⟩ := aw_cks h
            obtain ⟨_, h⟩ := aw_cks h
            exact ((c2).upA (by rfl)).trans (f_x_Book_countPairs_105 N  _ ih _ _ _ h)
theorem f_x_Book_countPairs (N : Nat) : ∀ (w v : aw_W), x_Book_countPairs N w = some v → fr_ S_x_Book_countPairs w v := by
  intro w v h
  unfold x_Book_countPairs at h
  obtain ⟨w1, h1, h⟩ := aw_b1s h
  have c1 := (fr_r S_x_Book_countPairs w).trans (fr_m (by decide) (f_j_Arr_fill_Ii_43 N _ _ _ h1))
  exact (c1).trans (f_x_Book_countPairs_10 N  N _ _ _ h)
def S_x_Book_timesOfPair : List (Nat × Nat) := []
theorem f_x_Book_timesOfPair (N : Nat) : ∀ (x1 x2 : Int) (w : aw_W) (y : Int) (v : aw_W), x_Book_timesOfPair N x1 x2 w = some (y, v) → fr_ S_x_Book_timesOfPair w v := by
  intro x1 x2 w y v h
  unfold x_Book_timesOfPair at h
  obtain ⟨_, h⟩ := aw_cks h
  cases h
  exact fr_r S_x_Book_timesOfPair w
def S_x_made : List (Nat × Nat) := [(17, 3), (17, 4), (17, 5), (17, 6), (18, 2), (19, 1000000), (20, 1000000), (21, 1000000), (43, 1000000)]
theorem f_x_made_27 (N : Nat) : ∀ (w : aw_W) (y : Int) (v : aw_W), x_made_27 N w = some (y, v) → fr_ S_x_made w v := by
  intro w y v h
  unfold x_made_27 at h
  cases h
  exact fr_r S_x_made w
theorem f_x_made (N : Nat) : ∀ (x1 x2 : Int) (w : aw_W) (y : Int) (v : aw_W), x_made N x1 x2 w = some (y, v) → fr_ S_x_made w v := by
  intro x1 x2 w y v h
  unfold x_made at h
  obtain ⟨r1, w1, h1, h⟩ := aw_b2s h
  have c1 := (fr_r S_x_made w).trans (fr_m (by decide) (f_x_Land_holds N _ _ _ _ h1))
  by_cases hc : r1 = 0
  · rw [if_pos hc] at h
    exact (c1).trans (f_x_made_27 N  _ _ _ h)
  · rw [if_neg hc] at h
    obtain ⟨r2, w2, h2, h⟩ := aw_b2s h
    have c2 := (c1).trans (fr_m (by decide) (f_x_Land_holds N _ _ _ _ h2))
    by_cases hc : r2 = 0
    · rw [if_pos hc] at h
      exact (c2).trans (f_x_made_27 N  _ _ _ h)
    · rw [if_neg hc] at h
      by_cases hc : x1 = x2
      · rw [if_pos hc] at h
        exact (c2).trans (f_x_made_27 N  _ _ _ h)
      · rw [if_neg hc] at h
        obtain ⟨w3, h3, h⟩ := aw_b1s h
        have c3 := (c2).trans (fr_m (by decide) (f_x_Book_countPairs N _ _ h3))
        obtain ⟨r4, w4, h4, h⟩ := aw_b2s h
        have c4 := (c3).trans (fr_m (by decide) (f_x_Book_timesOfPair N _ _ _ _ _ h4))
        cases h
        exact c4
def S_x_mayPact : List (Nat × Nat) := [(21, 1000000)]
theorem f_x_mayPact_35 (N : Nat) : ∀ (s0 : Int) (w : aw_W) (y : Int) (v : aw_W), x_mayPact_35 N s0 w = some (y, v) → fr_ S_x_mayPact w v := by
  intro s0 w y v h
  unfold x_mayPact_35 at h
  obtain ⟨_, h⟩ := aw_cks h
  cases h
  exact fr_r S_x_mayPact w
theorem f_x_mayPact_34 (N : Nat) : ∀ (w : aw_W) (y : Int) (v : aw_W), x_mayPact_34 N w = some (y, v) → fr_ S_x_mayPact w v := by
  intro w y v h
  unfold x_mayPact_34 at h
  exact (fr_r S_x_mayPact w).trans (f_x_mayPact_35 N  _ _ _ _ h)
theorem f_x_mayPact (N : Nat) : ∀ (x1 x2 : Int) (w : aw_W) (y : Int) (v : aw_W), x_mayPact N x1 x2 w = some (y, v) → fr_ S_x_mayPact w v := by
  intro x1 x2 w y v h
  unfold x_mayPact at h
  obtain ⟨r1, w1, h1, h⟩ := aw_b2s h
  have c1 := (fr_r S_x_mayPact w).trans (fr_m (by decide) (f_x_Land_holdsSome N _ _ _ _ h1))
  by_cases hc : r1 = 0
  · rw [if_pos hc] at h
    exact (c1).trans (f_x_mayPact_34 N  _ _ _ h)
  · rw [if_neg hc] at h
    obtain ⟨r2, w2, h2, h⟩ := aw_b2s h
    have c2 := (c1).trans (fr_m (by decide) (f_j_Int_bitCount N _ _ _ _ h2))
    by_cases hc : 4 < r2
    · rw [if_pos hc] at h
      exact (c2).trans (f_x_mayPact_34 N  _ _ _ h)
    · rw [if_neg hc] at h
      obtain ⟨r3, w3, h3, h⟩ := aw_b2s h
      have c3 := (c2).trans (fr_m (by decide) (f_x_Sale_take N _ _ _ _ h3))
      by_cases hc : r3 = 0
      · rw [if_pos hc] at h
        exact (c3).trans (f_x_mayPact_34 N  _ _ _ h)
      · rw [if_neg hc] at h
        exact (c3).trans (f_x_mayPact_35 N  _ _ _ _ h)
def S_x_Order_placeOf : List (Nat × Nat) := []
theorem f_x_Order_placeOf_55 (N : Nat) : ∀ (w : aw_W) (y : Int) (v : aw_W), x_Order_placeOf_55 N w = some (y, v) → fr_ S_x_Order_placeOf w v := by
  intro w y v h
  unfold x_Order_placeOf_55 at h
  cases h
  exact fr_r S_x_Order_placeOf w
theorem f_x_Order_placeOf_47 (N : Nat) : ∀ (x3 : Int) (w : aw_W) (y : Int) (v : aw_W), x_Order_placeOf_47 N x3 w = some (y, v) → fr_ S_x_Order_placeOf w v := by
  intro x3 w y v h
  unfold x_Order_placeOf_47 at h
  cases h
  exact fr_r S_x_Order_placeOf w
theorem f_x_Order_placeOf_36 (N : Nat) (k5 : Int → Int → Int → Int → aw_W → Option (Int × aw_W)) (hk5 : ∀ (x1 x2 x3 x4 : Int) (w : aw_W) (y : Int) (v : aw_W), k5 x1 x2 x3 x4 w = some (y, v) → fr_ S_x_Order_placeOf w v) : ∀ (x1 x2 x3 x4 : Int) (w : aw_W) (y : Int) (v : aw_W), x_Order_placeOf_36 N k5 x1 x2 x3 x4 w = some (y, v) → fr_ S_x_Order_placeOf w v := by
  intro x1 x2 x3 x4 w y v h
  unfold x_Order_placeOf_36 at h
  obtain ⟨_, h⟩ := aw_cks h
  by_cases hc : (w 28 x4.toNat) = x1
  · rw [if_pos hc] at h
    exact (fr_r S_x_Order_placeOf w).trans (f_x_Order_placeOf_47 N  _ _ _ _ h)
  · rw [if_neg hc] at h
    exact (fr_r S_x_Order_placeOf w).trans (hk5 _ _ _ _ _ _ _ h)
theorem f_x_Order_placeOf_31 (N : Nat) (k5 : Int → Int → Int → Int → aw_W → Option (Int × aw_W)) (hk5 : ∀ (x1 x2 x3 x4 : Int) (w : aw_W) (y : Int) (v : aw_W), k5 x1 x2 x3 x4 w = some (y, v) → fr_ S_x_Order_placeOf w v) : ∀ (x1 x2 x4 : Int) (w : aw_W) (y : Int) (v : aw_W), x_Order_placeOf_31 N k5 x1 x2 x4 w = some (y, v) → fr_ S_x_Order_placeOf w v := by
  intro x1 x2 x4 w y v h
  unfold x_Order_placeOf_31 at h
  exact (fr_r S_x_Order_placeOf w).trans (f_x_Order_placeOf_36 N  _ hk5 _ _ _ _ _ _ _ h)
theorem f_x_Order_placeOf_5 (N : Nat) : ∀ (n : Nat) (x1 x2 x3 x4 : Int) (w : aw_W) (y : Int) (v : aw_W), x_Order_placeOf_5 N n x1 x2 x3 x4 w = some (y, v) → fr_ S_x_Order_placeOf w v := by
  intro n
  induction n with
  | zero => intro x1 x2 x3 x4 w y v h; rw [x_Order_placeOf_5] at h; cases h
  | succ n ih =>
    intro x1 x2 x3 x4 w y v h
    rw [x_Order_placeOf_5] at h
    by_cases hc : (w 27 2) ≤ x4
    · rw [if_pos hc] at h
      exact (fr_r S_x_Order_placeOf w).trans (f_x_Order_placeOf_55 N  _ _ _ h)
    · rw [if_neg hc] at h
      by_cases hc : x2 = 0
      · rw [if_pos hc] at h
        exact (fr_r S_x_Order_placeOf w).trans (f_x_Order_placeOf_31 N  _ ih _ _ _ _ _ _ h)
      · rw [if_neg hc] at h
        obtain ⟨r1, w1, h1, h⟩ := aw_b2s h
        have c1 := (fr_r S_x_Order_placeOf w).trans (fr_m (by decide) (f_x_Order_alike_27 N _ _ _ _ _ h1))
        by_cases hc : r1 = 0
        · rw [if_pos hc] at h
          exact (c1).trans (f_x_Order_placeOf_31 N  _ ih _ _ _ _ _ _ h)
        · rw [if_neg hc] at h
          exact (c1).trans (f_x_Order_placeOf_36 N  _ ih _ _ _ _ _ _ _ h)
theorem f_x_Order_placeOf (N : Nat) : ∀ (x1 x2 : Int) (w : aw_W) (y : Int) (v : aw_W), x_Order_placeOf N x1 x2 w = some (y, v) → fr_ S_x_Order_placeOf w v := by
  intro x1 x2 w y v h
  unfold x_Order_placeOf at h
  exact (fr_r S_x_Order_placeOf w).trans (f_x_Order_placeOf_5 N  N _ _ _ _ _ _ _ h)
def S_x_Race_placeOf : List (Nat × Nat) := [(27, 2), (28, 1000000), (29, 1000000)]
theorem f_x_Race_placeOf (N : Nat) : ∀ (x1 : Int) (w : aw_W) (y : Int) (v : aw_W), x_Race_placeOf N x1 w = some (y, v) → fr_ S_x_Race_placeOf w v := by
  intro x1 w y v h
  unfold x_Race_placeOf at h
  obtain ⟨w1, h1, h⟩ := aw_b1s h
  have c1 := (fr_r S_x_Race_placeOf w).trans (fr_m (by decide) (f_x_Race_rank N _ _ h1))
  obtain ⟨r2, w2, h2, h⟩ := aw_b2s h
  have c2 := (c1).trans (fr_m (by decide) (f_x_Order_placeOf N _ _ _ _ _ h2))
  cases h
  exact c2
def S_x_medal : List (Nat × Nat) := [(15, 1000000), (16, 1000000), (26, 7), (26, 8), (27, 2), (28, 1000000), (29, 1000000), (30, 1000000), (31, 1000000), (32, 1000000), (33, 1000000)]
theorem f_x_medal_19 (N : Nat) : ∀ (w : aw_W) (y : Int) (v : aw_W), x_medal_19 N w = some (y, v) → fr_ S_x_medal w v := by
  intro w y v h
  unfold x_medal_19 at h
  cases h
  exact fr_r S_x_medal w
theorem f_x_medal (N : Nat) : ∀ (x1 x2 x3 : Int) (w : aw_W) (y : Int) (v : aw_W), x_medal N x1 x2 x3 w = some (y, v) → fr_ S_x_medal w v := by
  intro x1 x2 x3 w y v h
  unfold x_medal at h
  obtain ⟨r1, w1, h1, h⟩ := aw_b2s h
  have c1 := (fr_r S_x_medal w).trans (fr_m (by decide) (f_x_Land_holds N _ _ _ _ h1))
  by_cases hc : r1 = 0
  · rw [if_pos hc] at h
    exact (c1).trans (f_x_medal_19 N  _ _ _ h)
  · rw [if_neg hc] at h
    obtain ⟨r2, w2, h2, h⟩ := aw_b2s h
    have c2 := (c1).trans (fr_m (by decide) (f_x_mayRun N _ _ _ _ _ h2))
    by_cases hc : r2 = 0
    · rw [if_pos hc] at h
      exact (c2).trans (f_x_medal_19 N  _ _ _ h)
    · rw [if_neg hc] at h
      obtain ⟨w3, h3, h⟩ := aw_b1s h
      have c3 := (c2).trans (fr_m (by decide) (f_x_Race_rulesAsTold N _ _ h3))
      obtain ⟨w4, h4, h⟩ := aw_b1s h
      have c4 := (c3).trans (fr_m (by decide) (f_x_Race_go N _ _ _ _ _ h4))
      obtain ⟨r5, w5, h5, h⟩ := aw_b2s h
      have c5 := (c4).trans (fr_m (by decide) (f_x_Race_placeOf N _ _ _ _ h5))
      cases h
      exact c5
def S_x_near : List (Nat × Nat) := [(17, 3), (17, 4), (17, 5), (17, 6), (18, 2), (19, 1000000), (20, 1000000), (21, 1000000)]
theorem f_x_near_34 (N : Nat) : ∀ (s0 : Int) (w : aw_W) (y : Int) (v : aw_W), x_near_34 N s0 w = some (y, v) → fr_ S_x_near w v := by
  intro s0 w y v h
  unfold x_near_34 at h
  cases h
  exact fr_r S_x_near w
theorem f_x_near_33 (N : Nat) : ∀ (w : aw_W) (y : Int) (v : aw_W), x_near_33 N w = some (y, v) → fr_ S_x_near w v := by
  intro w y v h
  unfold x_near_33 at h
  exact (fr_r S_x_near w).trans (f_x_near_34 N  _ _ _ _ h)
theorem f_x_near (N : Nat) : ∀ (x1 x2 : Int) (w : aw_W) (y : Int) (v : aw_W), x_near N x1 x2 w = some (y, v) → fr_ S_x_near w v := by
  intro x1 x2 w y v h
  unfold x_near at h
  obtain ⟨r1, w1, h1, h⟩ := aw_b2s h
  have c1 := (fr_r S_x_near w).trans (fr_m (by decide) (f_x_Land_holds N _ _ _ _ h1))
  by_cases hc : r1 = 0
  · rw [if_pos hc] at h
    exact (c1).trans (f_x_near_33 N  _ _ _ h)
  · rw [if_neg hc] at h
    obtain ⟨r2, w2, h2, h⟩ := aw_b2s h
    have c2 := (c1).trans (fr_m (by decide) (f_x_Sale_take N _ _ _ _ h2))
    by_cases hc : r2 = 0
    · rw [if_pos hc] at h
      exact (c2).trans (f_x_near_33 N  _ _ _ h)
    · rw [if_neg hc] at h
      obtain ⟨r3, w3, h3, h⟩ := aw_b2s h
      have c3 := (c2).trans (fr_m (by decide) (f_x_Replies_nearest N _ _ _ _ h3))
      exact (c3).trans (f_x_near_34 N  _ _ _ _ h)
def S_x_Book_timesOf : List (Nat × Nat) := [(17, 3), (17, 4), (17, 5), (17, 6), (18, 2), (19, 1000000), (20, 1000000), (21, 1000000)]
theorem f_x_Book_timesOf_58 (N : Nat) : ∀ (x2 : Int) (w : aw_W) (y : Int) (v : aw_W), x_Book_timesOf_58 N x2 w = some (y, v) → fr_ S_x_Book_timesOf w v := by
  intro x2 w y v h
  unfold x_Book_timesOf_58 at h
  cases h
  exact fr_r S_x_Book_timesOf w
theorem f_x_Book_timesOf_50 (N : Nat) (k4 : Int → Int → Int → aw_W → Option (Int × aw_W)) (hk4 : ∀ (x1 x2 x3 : Int) (w : aw_W) (y : Int) (v : aw_W), k4 x1 x2 x3 w = some (y, v) → fr_ S_x_Book_timesOf w v) : ∀ (x1 x3 s0 s1 : Int) (w : aw_W) (y : Int) (v : aw_W), x_Book_timesOf_50 N k4 x1 x3 s0 s1 w = some (y, v) → fr_ S_x_Book_timesOf w v := by
  intro x1 x3 s0 s1 w y v h
  unfold x_Book_timesOf_50 at h
  exact (fr_r S_x_Book_timesOf w).trans (hk4 _ _ _ _ _ _ h)
theorem f_x_Book_timesOf_4 (N : Nat) : ∀ (n : Nat) (x1 x2 x3 : Int) (w : aw_W) (y : Int) (v : aw_W), x_Book_timesOf_4 N n x1 x2 x3 w = some (y, v) → fr_ S_x_Book_timesOf w v := by
  intro n
  induction n with
  | zero => intro x1 x2 x3 w y v h; rw [x_Book_timesOf_4] at h; cases h
  | succ n ih =>
    intro x1 x2 x3 w y v h
    rw [x_Book_timesOf_4] at h
    by_cases hc : (w 41 4) ≤ x3
    · rw [if_pos hc] at h
      exact (fr_r S_x_Book_timesOf w).trans (f_x_Book_timesOf_58 N  _ _ _ _ h)
    · rw [if_neg hc] at h
      obtain ⟨_, h⟩ := aw_cks h
      obtain ⟨r1, w1, h1, h⟩ := aw_b2s h
      have c1 := (fr_r S_x_Book_timesOf w).trans (fr_m (by decide) (f_x_Sale_put N _ _ _ _ h1))
      obtain ⟨w2, h2, h⟩ := aw_b1s h
      have c2 := (c1).trans (fr_m (by decide) (f_x_Sale_settle N _ _ h2))
      by_cases hc : (w2 17 3) = x1
      · rw [if_pos hc] at h
        exact (c2).trans (f_x_Book_timesOf_50 N  _ ih _ _ _ _ _ _ _ h)
      · rw [if_neg hc] at h
        exact (c2).trans (f_x_Book_timesOf_50 N  _ ih _ _ _ _ _ _ _ h)
theorem f_x_Book_timesOf (N : Nat) : ∀ (x1 : Int) (w : aw_W) (y : Int) (v : aw_W), x_Book_timesOf N x1 w = some (y, v) → fr_ S_x_Book_timesOf w v := by
  intro x1 w y v h
  unfold x_Book_timesOf at h
  exact (fr_r S_x_Book_timesOf w).trans (f_x_Book_timesOf_4 N  N _ _ _ _ _ _ h)
def S_x_often : List (Nat × Nat) := [(17, 3), (17, 4), (17, 5), (17, 6), (18, 2), (19, 1000000), (20, 1000000), (21, 1000000)]
theorem f_x_often_23 (N : Nat) : ∀ (s0 : Int) (w : aw_W) (y : Int) (v : aw_W), x_often_23 N s0 w = some (y, v) → fr_ S_x_often w v := by
  intro s0 w y v h
  unfold x_often_23 at h
  cases h
  exact fr_r S_x_often w
theorem f_x_often (N : Nat) : ∀ (x1 : Int) (w : aw_W) (y : Int) (v : aw_W), x_often N x1 w = some (y, v) → fr_ S_x_often w v := by
  intro x1 w y v h
  unfold x_often at h
  obtain ⟨r1, w1, h1, h⟩ := aw_b2s h
  have c1 := (fr_r S_x_often w).trans (fr_m (by decide) (f_x_Land_holds N _ _ _ _ h1))
  by_cases hc : r1 = 0
  · rw [if_pos hc] at h
    exact (c1).trans (f_x_often_23 N  _ _ _ _ h)
  · rw [if_neg hc] at h
    obtain ⟨r2, w2, h2, h⟩ := aw_b2s h
    have c2 := (c1).trans (fr_m (by decide) (f_x_Book_timesOf N _ _ _ _ h2))
    exact (c2).trans (f_x_often_23 N  _ _ _ _ h)
def S_x_Book_mostOften : List (Nat × Nat) := []
theorem f_x_Book_mostOften_45 (N : Nat) : ∀ (x1 : Int) (w : aw_W) (y : Int) (v : aw_W), x_Book_mostOften_45 N x1 w = some (y, v) → fr_ S_x_Book_mostOften w v := by
  intro x1 w y v h
  unfold x_Book_mostOften_45 at h
  cases h
  exact fr_r S_x_Book_mostOften w
theorem f_x_Book_mostOften_39 (N : Nat) (k4 : Int → Int → aw_W → Option (Int × aw_W)) (hk4 : ∀ (x1 x2 : Int) (w : aw_W) (y : Int) (v : aw_W), k4 x1 x2 w = some (y, v) → fr_ S_x_Book_mostOften w v) : ∀ (x1 x2 : Int) (w : aw_W) (y : Int) (v : aw_W), x_Book_mostOften_39 N k4 x1 x2 w = some (y, v) → fr_ S_x_Book_mostOften w v := by
  intro x1 x2 w y v h
  unfold x_Book_mostOften_39 at h
  exact (fr_r S_x_Book_mostOften w).trans (hk4 _ _ _ _ _ h)
theorem f_x_Book_mostOften_34 (N : Nat) (k4 : Int → Int → aw_W → Option (Int × aw_W)) (hk4 : ∀ (x1 x2 : Int) (w : aw_W) (y : Int) (v : aw_W), k4 x1 x2 w = some (y, v) → fr_ S_x_Book_mostOften w v) : ∀ (x1 x2 s0 s1 : Int) (w : aw_W) (y : Int) (v : aw_W), x_Book_mostOften_34 N k4 x1 x2 s0 s1 w = some (y, v) → fr_ S_x_Book_mostOften w v := by
  intro x1 x2 s0 s1 w y v h
  unfold x_Book_mostOften_34 at h
  by_cases hc : s1 ≤ s0
  · rw [if_pos hc] at h
    exact (fr_r S_x_Book_mostOften w).trans (f_x_Book_mostOften_39 N  _ hk4 _ _ _ _ _ h)
  · rw [if_neg hc] at h
    exact (fr_r S_x_Book_mostOften w).trans (f_x_Book_mostOften_39 N  _ hk4 _ _ _ _ _ h)
theorem f_x_Book_mostOften_4 (N : Nat) : ∀ (n : Nat) (x1 x2 : Int) (w : aw_W) (y : Int) (v : aw_W), x_Book_mostOften_4 N n x1 x2 w = some (y, v) → fr_ S_x_Book_mostOften w v := by
  intro n
  induction n with
  | zero => intro x1 x2 w y v h; rw [x_Book_mostOften_4] at h; cases h
  | succ n ih =>
    intro x1 x2 w y v h
    rw [x_Book_mostOften_4] at h
    by_cases hc : 60 ≤ x2
    · rw [if_pos hc] at h
      exact (fr_r S_x_Book_mostOften w).trans (f_x_Book_mostOften_45 N  _ _ _ _ h)
    · rw [if_neg hc] at h
      obtain ⟨_, h⟩ := aw_cks h
      by_cases hc : x1 = (-1)
      · rw [if_pos hc] at h
        exact (fr_r S_x_Book_mostOften w).trans (f_x_Book_mostOften_34 N  _ ih _ _ _ _ _ _ _ h)
      · rw [if_neg hc] at h
        obtain ⟨_, h⟩ := aw_cks h
        exact (fr_r S_x_Book_mostOften w).trans (f_x_Book_mostOften_34 N  _ ih _ _ _ _ _ _ _ h)
theorem f_x_Book_mostOften (N : Nat) : ∀ (w : aw_W) (y : Int) (v : aw_W), x_Book_mostOften N w = some (y, v) → fr_ S_x_Book_mostOften w v := by
  intro w y v h
  unfold x_Book_mostOften at h
  exact (fr_r S_x_Book_mostOften w).trans (f_x_Book_mostOften_4 N  N _ _ _ _ _ h)
def S_x_pair : List (Nat × Nat) := [(17, 3), (17, 4), (17, 5), (17, 6), (18, 2), (19, 1000000), (20, 1000000), (21, 1000000), (43, 1000000)]
theorem f_x_pair (N : Nat) : ∀ (w : aw_W) (y : Int) (v : aw_W), x_pair N w = some (y, v) → fr_ S_x_pair w v := by
  intro w y v h
  unfold x_pair at h
  obtain ⟨w1, h1, h⟩ := aw_b1s h
  have c1 := (fr_r S_x_pair w).trans (fr_m (by decide) (f_x_Book_countPairs N _ _ h1))
  obtain ⟨r2, w2, h2, h⟩ := aw_b2s h
  have c2 := (c1).trans (fr_m (by decide) (f_x_Book_mostOften N _ _ _ h2))
  cases h
  exact c2
def S_x_race : List (Nat × Nat) := [(15, 1000000), (16, 1000000), (26, 7), (26, 8), (27, 2), (28, 1000000), (29, 1000000), (30, 1000000), (31, 1000000), (32, 1000000), (33, 1000000)]
theorem f_x_race_27 (N : Nat) : ∀ (w : aw_W) (y : Int) (v : aw_W), x_race_27 N w = some (y, v) → fr_ S_x_race w v := by
  intro w y v h
  unfold x_race_27 at h
  cases h
  exact fr_r S_x_race w
theorem f_x_race_81 (N : Nat) : ∀ (s0 : Int) (w : aw_W) (y : Int) (v : aw_W), x_race_81 N s0 w = some (y, v) → fr_ S_x_race w v := by
  intro s0 w y v h
  unfold x_race_81 at h
  cases h
  exact fr_r S_x_race w
theorem f_x_race (N : Nat) : ∀ (x1 x2 x3 : Int) (w : aw_W) (y : Int) (v : aw_W), x_race N x1 x2 x3 w = some (y, v) → fr_ S_x_race w v := by
  intro x1 x2 x3 w y v h
  unfold x_race at h
  by_cases hc : (w 3 4) = 0
  · rw [if_pos hc] at h
    exact (fr_r S_x_race w).trans (f_x_race_27 N  _ _ _ h)
  · rw [if_neg hc] at h
    obtain ⟨r1, w1, h1, h⟩ := aw_b2s h
    have c1 := (fr_r S_x_race w).trans (fr_m (by decide) (f_x_mayRun N _ _ _ _ _ h1))
    by_cases hc : r1 = 0
    · rw [if_pos hc] at h
      exact (c1).trans (f_x_race_27 N  _ _ _ h)
    · rw [if_neg hc] at h
      by_cases hc : x3 < 0
      · rw [if_pos hc] at h
        exact (c1).trans (f_x_race_27 N  _ _ _ h)
      · rw [if_neg hc] at h
        by_cases hc : x3 ≤ 2
        · rw [if_pos hc] at h
          obtain ⟨w2, h2, h⟩ := aw_b1s h
          have c2 := (c1).trans (fr_m (by decide) (f_x_Race_rulesAsTold N _ _ h2))
          obtain ⟨w3, h3, h⟩ := aw_b1s h
          have c3 := (c2).trans (fr_m (by decide) (f_x_Race_go N _ _ _ _ _ h3))
          by_cases hc : x3 = 0
          · rw [if_pos hc] at h
            obtain ⟨r4, w4, h4, h⟩ := aw_b2s h
            have c4 := (c3).trans (fr_m (by decide) (f_x_Race_holder N _ _ _ h4))
            cases h
            exact c4
          · rw [if_neg hc] at h
            by_cases hc : x3 = 1
            · rw [if_pos hc] at h
              exact (c3).trans (f_x_race_81 N  _ _ _ _ h)
            · rw [if_neg hc] at h
              exact (c3).trans (f_x_race_81 N  _ _ _ _ h)
        · rw [if_neg hc] at h
          exact (c1).trans (f_x_race_27 N  _ _ _ h)
def S_x_Sale_row : List (Nat × Nat) := []
theorem f_x_Sale_row_33 (N : Nat) : ∀ (x1 : Int) (w : aw_W) (y : Int) (v : aw_W), x_Sale_row_33 N x1 w = some (y, v) → fr_ S_x_Sale_row w v := by
  intro x1 w y v h
  unfold x_Sale_row_33 at h
  cases h
  exact fr_r S_x_Sale_row w
theorem f_x_Sale_row_4 (N : Nat) : ∀ (n : Nat) (x1 x2 : Int) (w : aw_W) (y : Int) (v : aw_W), x_Sale_row_4 N n x1 x2 w = some (y, v) → fr_ S_x_Sale_row w v := by
  intro n
  induction n with
  | zero => intro x1 x2 w y v h; rw [x_Sale_row_4] at h; cases h
  | succ n ih =>
    intro x1 x2 w y v h
    rw [x_Sale_row_4] at h
    by_cases hc : (w 3 4) ≤ x2
    · rw [if_pos hc] at h
      exact (fr_r S_x_Sale_row w).trans (f_x_Sale_row_33 N  _ _ _ _ h)
    · rw [if_neg hc] at h
      obtain ⟨_, h⟩ := aw_cks h
      exact (fr_r S_x_Sale_row w).trans (ih _ _ _ _ _ h)
theorem f_x_Sale_row (N : Nat) : ∀ (w : aw_W) (y : Int) (v : aw_W), x_Sale_row N w = some (y, v) → fr_ S_x_Sale_row w v := by
  intro w y v h
  unfold x_Sale_row at h
  exact (fr_r S_x_Sale_row w).trans (f_x_Sale_row_4 N  N _ _ _ _ _ h)
def S_x_Rests_mark : List (Nat × Nat) := [(24, 1000000)]
theorem f_x_Rests_mark_11 (N : Nat) : ∀ (w v : aw_W), x_Rests_mark_11 N w = some v → fr_ S_x_Rests_mark w v := by
  intro w v h
  unfold x_Rests_mark_11 at h
  cases h
  exact fr_r S_x_Rests_mark w
theorem f_x_Rests_mark_56 (N : Nat) : ∀ (w v : aw_W), x_Rests_mark_56 N w = some v → fr_ S_x_Rests_mark w v := by
  intro w v h
  unfold x_Rests_mark_56 at h
  cases h
  exact fr_r S_x_Rests_mark w
theorem f_x_Rests_mark (N : Nat) : ∀ (x1 x2 : Int) (w v : aw_W), x_Rests_mark N x1 x2 w = some v → fr_ S_x_Rests_mark w v := by
  intro x1 x2 w v h
  unfold x_Rests_mark at h
  by_cases hc : x1 < 0
  · rw [if_pos hc] at h
    exact (fr_r S_x_Rests_mark w).trans (f_x_Rests_mark_11 N  _ _ h)
  · rw [if_neg hc] at h
    by_cases hc : x1 < 10000
    · rw [if_pos hc] at h
      by_cases hc : x2 = 0
      · rw [if_pos hc] at h
        obtain ⟨_, h⟩ := aw_cks h
        obtain ⟨_, h⟩ := aw_cks h
        exact ((fr_r S_x_Rests_mark w).upA (by rfl)).trans (f_x_Rests_mark_56 N  _ _ h)
      · rw [if_neg hc] at h
        obtain ⟨_, h⟩ := aw_cks h
        obtain ⟨_, h⟩ := aw_cks h
        exact ((fr_r S_x_Rests_mark w).upA (by rfl)).trans (f_x_Rests_mark_56 N  _ _ h)
    · rw [if_neg hc] at h
      exact (fr_r S_x_Rests_mark w).trans (f_x_Rests_mark_11 N  _ _ h)
def S_x_Rests_markAll : List (Nat × Nat) := [(21, 1000000), (24, 1000000)]
theorem f_x_Rests_markAll_58 (N : Nat) : ∀ (w v : aw_W), x_Rests_markAll_58 N w = some v → fr_ S_x_Rests_markAll w v := by
  intro w v h
  unfold x_Rests_markAll_58 at h
  cases h
  exact fr_r S_x_Rests_markAll w
theorem f_x_Rests_markAll_27 (N : Nat) : ∀ (n : Nat) (x1 x2 x3 : Int) (w v : aw_W), x_Rests_markAll_27 N n x1 x2 x3 w = some v → fr_ S_x_Rests_markAll w v := by
  intro n
  induction n with
  | zero => intro x1 x2 x3 w v h; rw [x_Rests_markAll_27] at h; cases h
  | succ n ih =>
    intro x1 x2 x3 w v h
    rw [x_Rests_markAll_27] at h
    by_cases hc : x2 ≤ x3
    · rw [if_pos hc] at h
      exact (fr_r S_x_Rests_markAll w).trans (f_x_Rests_markAll_58 N  _ _ h)
    · rw [if_neg hc] at h
      obtain ⟨r1, w1, h1, h⟩ := aw_b2s h
      have c1 := (fr_r S_x_Rests_markAll w).trans (fr_m (by decide) (f_x_Sale_row N _ _ _ h1))
      obtain ⟨w2, h2, h⟩ := aw_b1s h
      have c2 := (c1).trans (fr_m (by decide) (f_x_Rests_mark N _ _ _ _ h2))
      obtain ⟨w3, h3, h⟩ := aw_b1s h
      have c3 := (c2).trans (fr_m (by decide) (f_x_Sale_next N _ _ _ h3))
      exact (c3).trans (ih _ _ _ _ _ h)
theorem f_x_Rests_markAll (N : Nat) : ∀ (w v : aw_W), x_Rests_markAll N w = some v → fr_ S_x_Rests_markAll w v := by
  intro w v h
  unfold x_Rests_markAll at h
  obtain ⟨r1, w1, h1, h⟩ := aw_b2s h
  have c1 := (fr_r S_x_Rests_markAll w).trans (fr_m (by decide) (f_x_Land_all N _ _ _ h1))
  obtain ⟨w2, h2, h⟩ := aw_b1s h
  have c2 := (c1).trans (fr_m (by decide) (f_x_Sale_lowest N _ _ _ h2))
  obtain ⟨r3, w3, h3, h⟩ := aw_b2s h
  have c3 := (c2).trans (fr_m (by decide) (f_x_Sale_rowsOf N _ _ _ _ h3))
  exact (c3).trans (f_x_Rests_markAll_27 N  N _ _ _ _ _ h)
def S_x_Rests_isMarked : List (Nat × Nat) := []
theorem f_x_Rests_isMarked_37 (N : Nat) : ∀ (s0 : Int) (w : aw_W) (y : Int) (v : aw_W), x_Rests_isMarked_37 N s0 w = some (y, v) → fr_ S_x_Rests_isMarked w v := by
  intro s0 w y v h
  unfold x_Rests_isMarked_37 at h
  obtain ⟨_, h⟩ := aw_cks h
  cases h
  exact fr_r S_x_Rests_isMarked w
theorem f_x_Rests_isMarked_36 (N : Nat) : ∀ (w : aw_W) (y : Int) (v : aw_W), x_Rests_isMarked_36 N w = some (y, v) → fr_ S_x_Rests_isMarked w v := by
  intro w y v h
  unfold x_Rests_isMarked_36 at h
  exact (fr_r S_x_Rests_isMarked w).trans (f_x_Rests_isMarked_37 N  _ _ _ _ h)
theorem f_x_Rests_isMarked (N : Nat) : ∀ (x1 : Int) (w : aw_W) (y : Int) (v : aw_W), x_Rests_isMarked N x1 w = some (y, v) → fr_ S_x_Rests_isMarked w v := by
  intro x1 w y v h
  unfold x_Rests_isMarked at h
  by_cases hc : x1 < 0
  · rw [if_pos hc] at h
    exact (fr_r S_x_Rests_isMarked w).trans (f_x_Rests_isMarked_36 N  _ _ _ h)
  · rw [if_neg hc] at h
    by_cases hc : 10000 ≤ x1
    · rw [if_pos hc] at h
      exact (fr_r S_x_Rests_isMarked w).trans (f_x_Rests_isMarked_36 N  _ _ _ h)
    · rw [if_neg hc] at h
      obtain ⟨_, h⟩ := aw_cks h
      by_cases hc : (aw_cmpL (aw_andL (aw_ushrL (w 24 ((aw_w (Int.tdiv x1 64)).toNat)) (aw_w (Int.tmod x1 64))) 1) 0) = 0
      · rw [if_pos hc] at h
        exact (fr_r S_x_Rests_isMarked w).trans (f_x_Rests_isMarked_36 N  _ _ _ h)
      · rw [if_neg hc] at h
        exact (fr_r S_x_Rests_isMarked w).trans (f_x_Rests_isMarked_37 N  _ _ _ _ h)
def S_x_Rests_tally : List (Nat × Nat) := [(17, 3), (17, 4), (17, 5), (17, 6), (18, 2), (19, 1000000), (20, 1000000), (21, 1000000), (23, 5), (23, 6), (23, 7)]
theorem f_x_Rests_tally_111 (N : Nat) : ∀ (w v : aw_W), x_Rests_tally_111 N w = some v → fr_ S_x_Rests_tally w v := by
  intro w v h
  unfold x_Rests_tally_111 at h
  cases h
  exact fr_r S_x_Rests_tally w
theorem f_x_Rests_tally_105 (N : Nat) (k7 : Int → aw_W → Option (aw_W)) (hk7 : ∀ (x1 : Int) (w v : aw_W), k7 x1 w = some v → fr_ S_x_Rests_tally w v) : ∀ (x1 : Int) (w v : aw_W), x_Rests_tally_105 N k7 x1 w = some v → fr_ S_x_Rests_tally w v := by
  intro x1 w v h
  unfold x_Rests_tally_105 at h
  exact (fr_r S_x_Rests_tally w).trans (hk7 _ _ _ h)
theorem f_x_Rests_tally_92 (N : Nat) (k7 : Int → aw_W → Option (aw_W)) (hk7 : ∀ (x1 : Int) (w v : aw_W), k7 x1 w = some v → fr_ S_x_Rests_tally w v) : ∀ (x1 s0 : Int) (w v : aw_W), x_Rests_tally_92 N k7 x1 s0 w = some v → fr_ S_x_Rests_tally w v := by
  intro x1 s0 w v h
  unfold x_Rests_tally_92 at h
  exact (((fr_r S_x_Rests_tally w).up (by rfl)).up (by rfl)).trans (f_x_Rests_tally_105 N  _ hk7 _ _ _ h)
theorem f_x_Rests_tally_69 (N : Nat) (k7 : Int → aw_W → Option (aw_W)) (hk7 : ∀ (x1 : Int) (w v : aw_W), k7 x1 w = some v → fr_ S_x_Rests_tally w v) : ∀ (x1 x2 s0 : Int) (w v : aw_W), x_Rests_tally_69 N k7 x1 x2 s0 w = some v → fr_ S_x_Rests_tally w v := by
  intro x1 x2 s0 w v h
  unfold x_Rests_tally_69 at h
  by_cases hc : (w 23 5) = 0
  · rw [if_pos hc] at h
    exact ((fr_r S_x_Rests_tally w).up (by rfl)).trans (f_x_Rests_tally_92 N  _ hk7 _ _ _ _ h)
  · rw [if_neg hc] at h
    exact ((fr_r S_x_Rests_tally w).up (by rfl)).trans (f_x_Rests_tally_92 N  _ hk7 _ _ _ _ h)
theorem f_x_Rests_tally_7 (N : Nat) : ∀ (n : Nat) (x1 : Int) (w v : aw_W), x_Rests_tally_7 N n x1 w = some v → fr_ S_x_Rests_tally w v := by
  intro n
  induction n with
  | zero => intro x1 w v h; rw [x_Rests_tally_7] at h; cases h
  | succ n ih =>
    intro x1 w v h
    rw [x_Rests_tally_7] at h
    by_cases hc : 10000 ≤ x1
    · rw [if_pos hc] at h
      exact (fr_r S_x_Rests_tally w).trans (f_x_Rests_tally_111 N  _ _ h)
    · rw [if_neg hc] at h
      obtain ⟨r1, w1, h1, h⟩ := aw_b2s h
      have c1 := (fr_r S_x_Rests_tally w).trans (fr_m (by decide) (f_x_Rests_isMarked N _ _ _ _ h1))
      by_cases hc : r1 = 0
      · rw [if_pos hc] at h
        exact (c1).trans (f_x_Rests_tally_105 N  _ ih _ _ _ h)
      · rw [if_neg hc] at h
        obtain ⟨r2, w2, h2, h⟩ := aw_b2s h
        have c2 := (c1).trans (fr_m (by decide) (f_x_Sale_put N _ _ _ _ h2))
        obtain ⟨w3, h3, h⟩ := aw_b1s h
        have c3 := (c2).trans (fr_m (by decide) (f_x_Sale_settle N _ _ h3))
        obtain ⟨r4, w4, h4, h⟩ := aw_b2s h
        have c4 := (c3).trans (fr_m (by decide) (f_x_Sale_takings N _ _ _ h4))
        by_cases hc : (w4 23 5) = 0
        · rw [if_pos hc] at h
          exact (c4).trans (f_x_Rests_tally_69 N  _ ih _ _ _ _ _ h)
        · rw [if_neg hc] at h
          exact (c4).trans (f_x_Rests_tally_69 N  _ ih _ _ _ _ _ h)
theorem f_x_Rests_tally (N : Nat) : ∀ (w v : aw_W), x_Rests_tally N w = some v → fr_ S_x_Rests_tally w v := by
  intro w v h
  unfold x_Rests_tally at h
  exact ((fr_r S_x_Rests_tally w).up (by rfl)).trans (f_x_Rests_tally_7 N  N _ _ _ h)
def S_x_Rests_unmarkWorse : List (Nat × Nat) := [(17, 3), (17, 4), (17, 5), (17, 6), (18, 2), (19, 1000000), (20, 1000000), (21, 1000000), (24, 1000000), (25, 1000000)]
theorem f_x_Rests_unmarkWorse_198 (N : Nat) : ∀ (w v : aw_W), x_Rests_unmarkWorse_198 N w = some v → fr_ S_x_Rests_unmarkWorse w v := by
  intro w v h
  unfold x_Rests_unmarkWorse_198 at h
  cases h
  exact fr_r S_x_Rests_unmarkWorse w
theorem f_x_Rests_unmarkWorse_184 (N : Nat) (k34 : Int → Int → Int → Int → aw_W → Option (aw_W)) (hk34 : ∀ (x1 x2 x3 x4 : Int) (w v : aw_W), k34 x1 x2 x3 x4 w = some v → fr_ S_x_Rests_unmarkWorse w v) : ∀ (x1 x2 x3 x4 : Int) (w v : aw_W), x_Rests_unmarkWorse_184 N k34 x1 x2 x3 x4 w = some v → fr_ S_x_Rests_unmarkWorse w v := by
  intro x1 x2 x3 x4 w v h
  unfold x_Rests_unmarkWorse_184 at h
  obtain ⟨w1, h1, h⟩ := aw_b1s h
  have c1 := (fr_r S_x_Rests_unmarkWorse w).trans (fr_m (by decide) (f_x_Sale_next N _ _ _ h1))
  exact (c1).trans (hk34 _ _ _ _ _ _ h)
theorem f_x_Rests_unmarkWorse_178 (N : Nat) (k34 : Int → Int → Int → Int → aw_W → Option (aw_W)) (hk34 : ∀ (x1 x2 x3 x4 : Int) (w v : aw_W), k34 x1 x2 x3 x4 w = some v → fr_ S_x_Rests_unmarkWorse w v) (k122 : Int → Int → Int → Int → Int → Int → aw_W → Option (aw_W)) (hk122 : ∀ (x1 x2 x3 x4 x5 x6 : Int) (w v : aw_W), k122 x1 x2 x3 x4 x5 x6 w = some v → fr_ S_x_Rests_unmarkWorse w v) : ∀ (x1 x2 x3 x4 x5 x6 : Int) (w v : aw_W), x_Rests_unmarkWorse_178 N k34 k122 x1 x2 x3 x4 x5 x6 w = some v → fr_ S_x_Rests_unmarkWorse w v := by
  intro x1 x2 x3 x4 x5 x6 w v h
  unfold x_Rests_unmarkWorse_178 at h
  exact (fr_r S_x_Rests_unmarkWorse w).trans (hk122 _ _ _ _ _ _ _ _ h)
theorem f_x_Rests_unmarkWorse_122 (N : Nat) (k34 : Int → Int → Int → Int → aw_W → Option (aw_W)) (hk34 : ∀ (x1 x2 x3 x4 : Int) (w v : aw_W), k34 x1 x2 x3 x4 w = some v → fr_ S_x_Rests_unmarkWorse w v) : ∀ (n : Nat) (x1 x2 x3 x4 x5 x6 : Int) (w v : aw_W), x_Rests_unmarkWorse_122 N k34 n x1 x2 x3 x4 x5 x6 w = some v → fr_ S_x_Rests_unmarkWorse w v := by
  intro n
  induction n with
  | zero => intro x1 x2 x3 x4 x5 x6 w v h; rw [x_Rests_unmarkWorse_122] at h; cases h
  | succ n ih =>
    intro x1 x2 x3 x4 x5 x6 w v h
    rw [x_Rests_unmarkWorse_122] at h
    by_cases hc : (w 5 4) < x6
    · rw [if_pos hc] at h
      exact (fr_r S_x_Rests_unmarkWorse w).trans (f_x_Rests_unmarkWorse_184 N  _ hk34 _ _ _ _ _ _ h)
    · rw [if_neg hc] at h
      by_cases hc : 10 ≤ x6
      · rw [if_pos hc] at h
        exact (fr_r S_x_Rests_unmarkWorse w).trans (f_x_Rests_unmarkWorse_184 N  _ hk34 _ _ _ _ _ _ h)
      · rw [if_neg hc] at h
        obtain ⟨_, h⟩ := aw_cks h
        by_cases hc : x5 ≤ (w 25 x6.toNat)
        · rw [if_pos hc] at h
          exact (fr_r S_x_Rests_unmarkWorse w).trans (f_x_Rests_unmarkWorse_178 N  _ hk34 _ ih _ _ _ _ _ _ _ _ h)
        · rw [if_neg hc] at h
          obtain ⟨_, h⟩ := aw_cks h
          obtain ⟨r1, w1, h1, h⟩ := aw_b2s h
          have c1 := ((fr_r S_x_Rests_unmarkWorse w).upA (by rfl)).trans (fr_m (by decide) (f_x_Sale_row N _ _ _ h1))
          obtain ⟨w2, h2, h⟩ := aw_b1s h
          have c2 := (c1).trans (fr_m (by decide) (f_x_Rests_mark N _ _ _ _ h2))
          exact (c2).trans (f_x_Rests_unmarkWorse_178 N  _ hk34 _ ih _ _ _ _ _ _ _ _ h)
theorem f_x_Rests_unmarkWorse_119 (N : Nat) (k34 : Int → Int → Int → Int → aw_W → Option (aw_W)) (hk34 : ∀ (x1 x2 x3 x4 : Int) (w v : aw_W), k34 x1 x2 x3 x4 w = some v → fr_ S_x_Rests_unmarkWorse w v) : ∀ (x1 x2 x3 x4 x5 : Int) (w v : aw_W), x_Rests_unmarkWorse_119 N k34 x1 x2 x3 x4 x5 w = some v → fr_ S_x_Rests_unmarkWorse w v := by
  intro x1 x2 x3 x4 x5 w v h
  unfold x_Rests_unmarkWorse_119 at h
  exact (fr_r S_x_Rests_unmarkWorse w).trans (f_x_Rests_unmarkWorse_122 N  _ hk34 N _ _ _ _ _ _ _ _ h)
theorem f_x_Rests_unmarkWorse_111 (N : Nat) (k34 : Int → Int → Int → Int → aw_W → Option (aw_W)) (hk34 : ∀ (x1 x2 x3 x4 : Int) (w v : aw_W), k34 x1 x2 x3 x4 w = some v → fr_ S_x_Rests_unmarkWorse w v) (k46 : Int → Int → Int → Int → Int → Int → aw_W → Option (aw_W)) (hk46 : ∀ (x1 x2 x3 x4 x5 x6 : Int) (w v : aw_W), k46 x1 x2 x3 x4 x5 x6 w = some v → fr_ S_x_Rests_unmarkWorse w v) : ∀ (x1 x2 x3 x4 x6 s0 : Int) (w v : aw_W), x_Rests_unmarkWorse_111 N k34 k46 x1 x2 x3 x4 x6 s0 w = some v → fr_ S_x_Rests_unmarkWorse w v := by
  intro x1 x2 x3 x4 x6 s0 w v h
  unfold x_Rests_unmarkWorse_111 at h
  exact (fr_r S_x_Rests_unmarkWorse w).trans (hk46 _ _ _ _ _ _ _ _ h)
theorem f_x_Rests_unmarkWorse_46 (N : Nat) (k34 : Int → Int → Int → Int → aw_W → Option (aw_W)) (hk34 : ∀ (x1 x2 x3 x4 : Int) (w v : aw_W), k34 x1 x2 x3 x4 w = some v → fr_ S_x_Rests_unmarkWorse w v) : ∀ (n : Nat) (x1 x2 x3 x4 x5 x6 : Int) (w v : aw_W), x_Rests_unmarkWorse_46 N k34 n x1 x2 x3 x4 x5 x6 w = some v → fr_ S_x_Rests_unmarkWorse w v := by
  intro n
  induction n with
  | zero => intro x1 x2 x3 x4 x5 x6 w v h; rw [x_Rests_unmarkWorse_46] at h; cases h
  | succ n ih =>
    intro x1 x2 x3 x4 x5 x6 w v h
    rw [x_Rests_unmarkWorse_46] at h
    by_cases hc : (w 5 4) < x6
    · rw [if_pos hc] at h
      exact (fr_r S_x_Rests_unmarkWorse w).trans (f_x_Rests_unmarkWorse_119 N  _ hk34 _ _ _ _ _ _ _ h)
    · rw [if_neg hc] at h
      by_cases hc : 10 ≤ x6
      · rw [if_pos hc] at h
        exact (fr_r S_x_Rests_unmarkWorse w).trans (f_x_Rests_unmarkWorse_119 N  _ hk34 _ _ _ _ _ _ _ h)
      · rw [if_neg hc] at h
        obtain ⟨r1, w1, h1, h⟩ := aw_b2s h
        have c1 := (fr_r S_x_Rests_unmarkWorse w).trans (fr_m (by decide) (f_x_Sale_gainWith N _ _ _ _ _ h1))
        obtain ⟨_, h⟩ := aw_cks h
        by_cases hc : x6 = 0
        · rw [if_pos hc] at h
          obtain ⟨_, h⟩ := aw_cks h
          exact ((c1).upA (by rfl)).trans (f_x_Rests_unmarkWorse_111 N  _ hk34 _ ih _ _ _ _ _ _ _ _ h)
        · rw [if_neg hc] at h
          obtain ⟨_, h⟩ := aw_cks h
          exact ((c1).upA (by rfl)).trans (f_x_Rests_unmarkWorse_111 N  _ hk34 _ ih _ _ _ _ _ _ _ _ h)
theorem f_x_Rests_unmarkWorse_34 (N : Nat) : ∀ (n : Nat) (x1 x2 x3 x4 : Int) (w v : aw_W), x_Rests_unmarkWorse_34 N n x1 x2 x3 x4 w = some v → fr_ S_x_Rests_unmarkWorse w v := by
  intro n
  induction n with
  | zero => intro x1 x2 x3 x4 w v h; rw [x_Rests_unmarkWorse_34] at h; cases h
  | succ n ih =>
    intro x1 x2 x3 x4 w v h
    rw [x_Rests_unmarkWorse_34] at h
    by_cases hc : x3 ≤ x4
    · rw [if_pos hc] at h
      exact (fr_r S_x_Rests_unmarkWorse w).trans (f_x_Rests_unmarkWorse_198 N  _ _ h)
    · rw [if_neg hc] at h
      exact (fr_r S_x_Rests_unmarkWorse w).trans (f_x_Rests_unmarkWorse_46 N  _ ih N _ _ _ _ _ _ _ _ h)
theorem f_x_Rests_unmarkWorse (N : Nat) : ∀ (x1 : Int) (w v : aw_W), x_Rests_unmarkWorse N x1 w = some v → fr_ S_x_Rests_unmarkWorse w v := by
  intro x1 w v h
  unfold x_Rests_unmarkWorse at h
  obtain ⟨r1, w1, h1, h⟩ := aw_b2s h
  have c1 := (fr_r S_x_Rests_unmarkWorse w).trans (fr_m (by decide) (f_x_Land_all N _ _ _ h1))
  obtain ⟨w2, h2, h⟩ := aw_b1s h
  have c2 := (c1).trans (fr_m (by decide) (f_x_Sale_lowest N _ _ _ h2))
  obtain ⟨r3, w3, h3, h⟩ := aw_b2s h
  have c3 := (c2).trans (fr_m (by decide) (f_x_Sale_rowsOf N _ _ _ _ h3))
  exact (c3).trans (f_x_Rests_unmarkWorse_34 N  N _ _ _ _ _ _ h)
def S_x_Rests_find : List (Nat × Nat) := [(17, 3), (17, 4), (17, 5), (17, 6), (18, 2), (19, 1000000), (20, 1000000), (21, 1000000), (23, 4), (23, 5), (23, 6), (23, 7), (24, 1000000), (25, 1000000)]
theorem f_x_Rests_find_18 (N : Nat) : ∀ (w v : aw_W), x_Rests_find_18 N w = some v → fr_ S_x_Rests_find w v := by
  intro w v h
  unfold x_Rests_find_18 at h
  cases h
  exact fr_r S_x_Rests_find w
theorem f_x_Rests_find_55 (N : Nat) : ∀ (w v : aw_W), x_Rests_find_55 N w = some v → fr_ S_x_Rests_find w v := by
  intro w v h
  unfold x_Rests_find_55 at h
  obtain ⟨w1, h1, h⟩ := aw_b1s h
  have c1 := (fr_r S_x_Rests_find w).trans (fr_m (by decide) (f_x_Rests_tally N _ _ h1))
  cases h
  exact (c1).up (by rfl)
theorem f_x_Rests_find_33 (N : Nat) : ∀ (n : Nat) (x1 : Int) (w v : aw_W), x_Rests_find_33 N n x1 w = some v → fr_ S_x_Rests_find w v := by
  intro n
  induction n with
  | zero => intro x1 w v h; rw [x_Rests_find_33] at h; cases h
  | succ n ih =>
    intro x1 w v h
    rw [x_Rests_find_33] at h
    by_cases hc : (w 3 4) ≤ x1
    · rw [if_pos hc] at h
      exact (fr_r S_x_Rests_find w).trans (f_x_Rests_find_55 N  _ _ h)
    · rw [if_neg hc] at h
      obtain ⟨w1, h1, h⟩ := aw_b1s h
      have c1 := (fr_r S_x_Rests_find w).trans (fr_m (by decide) (f_x_Rests_unmarkWorse N _ _ _ h1))
      exact (c1).trans (ih _ _ _ h)
theorem f_x_Rests_find (N : Nat) : ∀ (w v : aw_W), x_Rests_find N w = some v → fr_ S_x_Rests_find w v := by
  intro w v h
  unfold x_Rests_find at h
  by_cases hc : (w 23 4) = 0
  · rw [if_pos hc] at h
    by_cases hc : (w 3 4) ≤ 4
    · rw [if_pos hc] at h
      obtain ⟨w1, h1, h⟩ := aw_b1s h
      have c1 := (fr_r S_x_Rests_find w).trans (fr_m (by decide) (f_j_Arr_fill_Ll N _ _ _ h1))
      obtain ⟨w2, h2, h⟩ := aw_b1s h
      have c2 := (c1).trans (fr_m (by decide) (f_x_Rests_markAll N _ _ h2))
      exact (c2).trans (f_x_Rests_find_33 N  N _ _ _ h)
    · rw [if_neg hc] at h
      exact (fr_r S_x_Rests_find w).trans (f_x_Rests_find_18 N  _ _ h)
  · rw [if_neg hc] at h
    exact (fr_r S_x_Rests_find w).trans (f_x_Rests_find_18 N  _ _ h)
def S_x_Rests_nth : List (Nat × Nat) := []
theorem f_x_Rests_nth_12 (N : Nat) : ∀ (w : aw_W) (y : Int) (v : aw_W), x_Rests_nth_12 N w = some (y, v) → fr_ S_x_Rests_nth w v := by
  intro w y v h
  unfold x_Rests_nth_12 at h
  cases h
  exact fr_r S_x_Rests_nth w
theorem f_x_Rests_nth_102 (N : Nat) : ∀ (w : aw_W) (y : Int) (v : aw_W), x_Rests_nth_102 N w = some (y, v) → fr_ S_x_Rests_nth w v := by
  intro w y v h
  unfold x_Rests_nth_102 at h
  cases h
  exact fr_r S_x_Rests_nth w
theorem f_x_Rests_nth_93 (N : Nat) : ∀ (x4 : Int) (w : aw_W) (y : Int) (v : aw_W), x_Rests_nth_93 N x4 w = some (y, v) → fr_ S_x_Rests_nth w v := by
  intro x4 w y v h
  unfold x_Rests_nth_93 at h
  cases h
  exact fr_r S_x_Rests_nth w
theorem f_x_Rests_nth_87 (N : Nat) (k64 : Int → Int → aw_W → Option (Int × aw_W)) (hk64 : ∀ (x2 x4 : Int) (w : aw_W) (y : Int) (v : aw_W), k64 x2 x4 w = some (y, v) → fr_ S_x_Rests_nth w v) : ∀ (x4 s0 s1 : Int) (w : aw_W) (y : Int) (v : aw_W), x_Rests_nth_87 N k64 x4 s0 s1 w = some (y, v) → fr_ S_x_Rests_nth w v := by
  intro x4 s0 s1 w y v h
  unfold x_Rests_nth_87 at h
  by_cases hc : 0 ≤ (aw_w (s1 - s0))
  · rw [if_pos hc] at h
    exact (fr_r S_x_Rests_nth w).trans (hk64 _ _ _ _ _ h)
  · rw [if_neg hc] at h
    exact (fr_r S_x_Rests_nth w).trans (f_x_Rests_nth_93 N  _ _ _ _ h)
theorem f_x_Rests_nth_64 (N : Nat) : ∀ (n : Nat) (x2 x4 : Int) (w : aw_W) (y : Int) (v : aw_W), x_Rests_nth_64 N n x2 x4 w = some (y, v) → fr_ S_x_Rests_nth w v := by
  intro n
  induction n with
  | zero => intro x2 x4 w y v h; rw [x_Rests_nth_64] at h; cases h
  | succ n ih =>
    intro x2 x4 w y v h
    rw [x_Rests_nth_64] at h
    by_cases hc : 10000 ≤ x4
    · rw [if_pos hc] at h
      exact (fr_r S_x_Rests_nth w).trans (f_x_Rests_nth_102 N  _ _ _ h)
    · rw [if_neg hc] at h
      obtain ⟨r1, w1, h1, h⟩ := aw_b2s h
      have c1 := (fr_r S_x_Rests_nth w).trans (fr_m (by decide) (f_x_Rests_isMarked N _ _ _ _ h1))
      by_cases hc : r1 = 0
      · rw [if_pos hc] at h
        exact (c1).trans (f_x_Rests_nth_87 N  _ ih _ _ _ _ _ _ h)
      · rw [if_neg hc] at h
        exact (c1).trans (f_x_Rests_nth_87 N  _ ih _ _ _ _ _ _ h)
theorem f_x_Rests_nth_58 (N : Nat) : ∀ (x2 x3 : Int) (w : aw_W) (y : Int) (v : aw_W), x_Rests_nth_58 N x2 x3 w = some (y, v) → fr_ S_x_Rests_nth w v := by
  intro x2 x3 w y v h
  unfold x_Rests_nth_58 at h
  exact (fr_r S_x_Rests_nth w).trans (f_x_Rests_nth_64 N  N _ _ _ _ _ h)
theorem f_x_Rests_nth_18 (N : Nat) : ∀ (n : Nat) (x2 x3 : Int) (w : aw_W) (y : Int) (v : aw_W), x_Rests_nth_18 N n x2 x3 w = some (y, v) → fr_ S_x_Rests_nth w v := by
  intro n
  induction n with
  | zero => intro x2 x3 w y v h; rw [x_Rests_nth_18] at h; cases h
  | succ n ih =>
    intro x2 x3 w y v h
    rw [x_Rests_nth_18] at h
    by_cases hc : 157 ≤ x3
    · rw [if_pos hc] at h
      exact (fr_r S_x_Rests_nth w).trans (f_x_Rests_nth_58 N  _ _ _ _ _ h)
    · rw [if_neg hc] at h
      obtain ⟨_, h⟩ := aw_cks h
      obtain ⟨r1, w1, h1, h⟩ := aw_b2s h
      have c1 := (fr_r S_x_Rests_nth w).trans (fr_m (by decide) (f_j_Long_bitCount N _ _ _ _ h1))
      by_cases hc : x2 < r1
      · rw [if_pos hc] at h
        exact (c1).trans (f_x_Rests_nth_58 N  _ _ _ _ _ h)
      · rw [if_neg hc] at h
        obtain ⟨_, h⟩ := aw_cks h
        obtain ⟨r2, w2, h2, h⟩ := aw_b2s h
        have c2 := (c1).trans (fr_m (by decide) (f_j_Long_bitCount N _ _ _ _ h2))
        exact (c2).trans (ih _ _ _ _ _ h)
theorem f_x_Rests_nth (N : Nat) : ∀ (x1 : Int) (w : aw_W) (y : Int) (v : aw_W), x_Rests_nth N x1 w = some (y, v) → fr_ S_x_Rests_nth w v := by
  intro x1 w y v h
  unfold x_Rests_nth at h
  by_cases hc : x1 < 0
  · rw [if_pos hc] at h
    exact (fr_r S_x_Rests_nth w).trans (f_x_Rests_nth_12 N  _ _ _ h)
  · rw [if_neg hc] at h
    by_cases hc : x1 < (w 23 5)
    · rw [if_pos hc] at h
      exact (fr_r S_x_Rests_nth w).trans (f_x_Rests_nth_18 N  N _ _ _ _ _ h)
    · rw [if_neg hc] at h
      exact (fr_r S_x_Rests_nth w).trans (f_x_Rests_nth_12 N  _ _ _ h)
def S_x_rests : List (Nat × Nat) := [(17, 3), (17, 4), (17, 5), (17, 6), (18, 2), (19, 1000000), (20, 1000000), (21, 1000000), (23, 4), (23, 5), (23, 6), (23, 7), (24, 1000000), (25, 1000000)]
theorem f_x_rests_40 (N : Nat) : ∀ (s0 : Int) (w : aw_W) (y : Int) (v : aw_W), x_rests_40 N s0 w = some (y, v) → fr_ S_x_rests w v := by
  intro s0 w y v h
  unfold x_rests_40 at h
  cases h
  exact fr_r S_x_rests w
theorem f_x_rests (N : Nat) : ∀ (x1 : Int) (w : aw_W) (y : Int) (v : aw_W), x_rests N x1 w = some (y, v) → fr_ S_x_rests w v := by
  intro x1 w y v h
  unfold x_rests at h
  obtain ⟨r1, w1, h1, h⟩ := aw_b2s h
  have c1 := (fr_r S_x_rests w).trans (fr_m (by decide) (f_x_isSmall N _ _ _ h1))
  by_cases hc : r1 = 0
  · rw [if_pos hc] at h
    cases h
    exact c1
  · rw [if_neg hc] at h
    obtain ⟨w2, h2, h⟩ := aw_b1s h
    have c2 := (c1).trans (fr_m (by decide) (f_x_Rests_find N _ _ h2))
    by_cases hc : x1 = (-1)
    · rw [if_pos hc] at h
      exact (c2).trans (f_x_rests_40 N  _ _ _ _ h)
    · rw [if_neg hc] at h
      obtain ⟨r3, w3, h3, h⟩ := aw_b2s h
      have c3 := (c2).trans (fr_m (by decide) (f_x_Rests_nth N _ _ _ _ h3))
      exact (c3).trans (f_x_rests_40 N  _ _ _ _ h)
def S_x_Rounds_told : List (Nat × Nat) := []
theorem f_x_Rounds_told (N : Nat) : ∀ (x1 : Int) (w : aw_W) (y : Int) (v : aw_W), x_Rounds_told N x1 w = some (y, v) → fr_ S_x_Rounds_told w v := by
  intro x1 w y v h
  unfold x_Rounds_told at h
  obtain ⟨r1, w1, h1, h⟩ := aw_b2s h
  have c1 := (fr_r S_x_Rounds_told w).trans (fr_m (by decide) (f_x_Land_item N _ _ _ _ _ h1))
  cases h
  exact c1
def S_x_Rounds_bidAnew : List (Nat × Nat) := [(17, 3), (17, 4), (17, 5), (17, 6), (17, 7), (18, 2), (19, 1000000), (20, 1000000), (21, 1000000)]
theorem f_x_Rounds_bidAnew_114 (N : Nat) : ∀ (s0 : Int) (w : aw_W) (y : Int) (v : aw_W), x_Rounds_bidAnew_114 N s0 w = some (y, v) → fr_ S_x_Rounds_bidAnew w v := by
  intro s0 w y v h
  unfold x_Rounds_bidAnew_114 at h
  cases h
  exact fr_r S_x_Rounds_bidAnew w
theorem f_x_Rounds_bidAnew_83 (N : Nat) : ∀ (s0 : Int) (w : aw_W) (y : Int) (v : aw_W), x_Rounds_bidAnew_83 N s0 w = some (y, v) → fr_ S_x_Rounds_bidAnew w v := by
  intro s0 w y v h
  unfold x_Rounds_bidAnew_83 at h
  obtain ⟨_, h⟩ := aw_cks h
  cases h
  exact fr_r S_x_Rounds_bidAnew w
theorem f_x_Rounds_bidAnew (N : Nat) : ∀ (x1 : Int) (w : aw_W) (y : Int) (v : aw_W), x_Rounds_bidAnew N x1 w = some (y, v) → fr_ S_x_Rounds_bidAnew w v := by
  intro x1 w y v h
  unfold x_Rounds_bidAnew at h
  obtain ⟨r1, w1, h1, h⟩ := aw_b2s h
  have c1 := (fr_r S_x_Rounds_bidAnew w).trans (fr_m (by decide) (f_x_Land_item N _ _ _ _ _ h1))
  by_cases hc : r1 = 1
  · rw [if_pos hc] at h
    obtain ⟨r3, w3, h3, h⟩ := aw_b2s h
    have c3 := (c1).trans (fr_m (by decide) (f_x_Sale_bestBid N _ _ _ _ h3))
    cases h
    exact c3
  · rw [if_neg hc] at h
    by_cases hc : r1 = 2
    · rw [if_pos hc] at h
      by_cases hc : x1 = 0
      · rw [if_pos hc] at h
        exact (c1).trans (f_x_Rounds_bidAnew_83 N  _ _ _ _ h)
      · rw [if_neg hc] at h
        exact (c1).trans (f_x_Rounds_bidAnew_83 N  _ _ _ _ h)
    · rw [if_neg hc] at h
      by_cases hc : r1 = 3
      · rw [if_pos hc] at h
        cases h
        exact c1
      · rw [if_neg hc] at h
        by_cases hc : r1 = 4
        · rw [if_pos hc] at h
          obtain ⟨_, h⟩ := aw_cks h
          by_cases hc : (w1 21 x1.toNat) = 0
          · rw [if_pos hc] at h
            exact (c1).trans (f_x_Rounds_bidAnew_114 N  _ _ _ _ h)
          · rw [if_neg hc] at h
            obtain ⟨_, h⟩ := aw_cks h
            exact (c1).trans (f_x_Rounds_bidAnew_114 N  _ _ _ _ h)
        · rw [if_neg hc] at h
          obtain ⟨r2, w2, h2, h⟩ := aw_b2s h
          have c2 := (c1).trans (fr_m (by decide) (f_x_Rounds_told N _ _ _ _ h2))
          cases h
          exact c2
def S_x_Rounds_rowBehind : List (Nat × Nat) := [(17, 3), (17, 4), (17, 5), (17, 6), (17, 7), (18, 2), (19, 1000000), (20, 1000000), (21, 1000000), (40, 1000000)]
theorem f_x_Rounds_rowBehind_39 (N : Nat) : ∀ (w : aw_W) (y : Int) (v : aw_W), x_Rounds_rowBehind_39 N w = some (y, v) → fr_ S_x_Rounds_rowBehind w v := by
  intro w y v h
  unfold x_Rounds_rowBehind_39 at h
  obtain ⟨_, h⟩ := aw_cks h
  obtain ⟨r1, w1, h1, h⟩ := aw_b2s h
  have c1 := ((fr_r S_x_Rounds_rowBehind w).cpy (by rfl)).trans (fr_m (by decide) (f_x_Sale_row N _ _ _ h1))
  cases h
  exact c1
theorem f_x_Rounds_rowBehind_11 (N : Nat) : ∀ (n : Nat) (x2 : Int) (w : aw_W) (y : Int) (v : aw_W), x_Rounds_rowBehind_11 N n x2 w = some (y, v) → fr_ S_x_Rounds_rowBehind w v := by
  intro n
  induction n with
  | zero => intro x2 w y v h; rw [x_Rounds_rowBehind_11] at h; cases h
  | succ n ih =>
    intro x2 w y v h
    rw [x_Rounds_rowBehind_11] at h
    by_cases hc : (w 3 4) ≤ x2
    · rw [if_pos hc] at h
      exact (fr_r S_x_Rounds_rowBehind w).trans (f_x_Rounds_rowBehind_39 N  _ _ _ h)
    · rw [if_neg hc] at h
      obtain ⟨r1, w1, h1, h⟩ := aw_b2s h
      have c1 := (fr_r S_x_Rounds_rowBehind w).trans (fr_m (by decide) (f_x_Rounds_bidAnew N _ _ _ _ h1))
      obtain ⟨_, h⟩ := aw_cks h
      exact ((c1).upA (by rfl)).trans (ih _ _ _ _ h)
theorem f_x_Rounds_rowBehind (N : Nat) : ∀ (x1 : Int) (w : aw_W) (y : Int) (v : aw_W), x_Rounds_rowBehind N x1 w = some (y, v) → fr_ S_x_Rounds_rowBehind w v := by
  intro x1 w y v h
  unfold x_Rounds_rowBehind at h
  obtain ⟨r1, w1, h1, h⟩ := aw_b2s h
  have c1 := (fr_r S_x_Rounds_rowBehind w).trans (fr_m (by decide) (f_x_Sale_put N _ _ _ _ h1))
  exact (c1).trans (f_x_Rounds_rowBehind_11 N  N _ _ _ _ h)
def S_x_Rounds_go : List (Nat × Nat) := [(17, 3), (17, 4), (17, 5), (17, 6), (17, 7), (18, 2), (19, 1000000), (20, 1000000), (21, 1000000), (39, 3), (39, 4), (40, 1000000)]
theorem f_x_Rounds_go_107 (N : Nat) : ∀ (w v : aw_W), x_Rounds_go_107 N w = some v → fr_ S_x_Rounds_go w v := by
  intro w v h
  unfold x_Rounds_go_107 at h
  cases h
  exact fr_r S_x_Rounds_go w
theorem f_x_Rounds_go_101 (N : Nat) (k51 : Int → aw_W → Option (aw_W)) (hk51 : ∀ (x1 : Int) (w v : aw_W), k51 x1 w = some v → fr_ S_x_Rounds_go w v) : ∀ (x1 : Int) (w v : aw_W), x_Rounds_go_101 N k51 x1 w = some v → fr_ S_x_Rounds_go w v := by
  intro x1 w v h
  unfold x_Rounds_go_101 at h
  exact (fr_r S_x_Rounds_go w).trans (hk51 _ _ _ h)
theorem f_x_Rounds_go_51 (N : Nat) : ∀ (n : Nat) (x1 : Int) (w v : aw_W), x_Rounds_go_51 N n x1 w = some v → fr_ S_x_Rounds_go w v := by
  intro n
  induction n with
  | zero => intro x1 w v h; rw [x_Rounds_go_51] at h; cases h
  | succ n ih =>
    intro x1 w v h
    rw [x_Rounds_go_51] at h
    by_cases hc : 100 < x1
    · rw [if_pos hc] at h
      exact (fr_r S_x_Rounds_go w).trans (f_x_Rounds_go_107 N  _ _ h)
    · rw [if_neg hc] at h
      by_cases hc : (w 39 3) = (-1)
      · rw [if_pos hc] at h
        obtain ⟨r1, w1, h1, h⟩ := aw_b2s h
        have c1 := (fr_r S_x_Rounds_go w).trans (fr_m (by decide) (f_x_Rounds_rowBehind N _ _ _ _ h1))
        by_cases hc : r1 = (w1 39 4)
        · rw [if_pos hc] at h
          exact ((c1).up (by rfl)).trans (f_x_Rounds_go_101 N  _ ih _ _ _ h)
        · rw [if_neg hc] at h
          by_cases hc : 100 ≤ x1
          · rw [if_pos hc] at h
            exact (c1).trans (f_x_Rounds_go_101 N  _ ih _ _ _ h)
          · rw [if_neg hc] at h
            exact ((c1).up (by rfl)).trans (f_x_Rounds_go_101 N  _ ih _ _ _ h)
      · rw [if_neg hc] at h
        exact (fr_r S_x_Rounds_go w).trans (f_x_Rounds_go_107 N  _ _ h)
theorem f_x_Rounds_go_33 (N : Nat) : ∀ (w v : aw_W), x_Rounds_go_33 N w = some v → fr_ S_x_Rounds_go w v := by
  intro w v h
  unfold x_Rounds_go_33 at h
  obtain ⟨r1, w1, h1, h⟩ := aw_b2s h
  have c1 := (fr_r S_x_Rounds_go w).trans (fr_m (by decide) (f_x_Sale_row N _ _ _ h1))
  exact (((c1).up (by rfl)).up (by rfl)).trans (f_x_Rounds_go_51 N  N _ _ _ h)
theorem f_x_Rounds_go_2 (N : Nat) : ∀ (n : Nat) (x1 : Int) (w v : aw_W), x_Rounds_go_2 N n x1 w = some v → fr_ S_x_Rounds_go w v := by
  intro n
  induction n with
  | zero => intro x1 w v h; rw [x_Rounds_go_2] at h; cases h
  | succ n ih =>
    intro x1 w v h
    rw [x_Rounds_go_2] at h
    by_cases hc : (w 3 4) ≤ x1
    · rw [if_pos hc] at h
      exact (fr_r S_x_Rounds_go w).trans (f_x_Rounds_go_33 N  _ _ h)
    · rw [if_neg hc] at h
      obtain ⟨r1, w1, h1, h⟩ := aw_b2s h
      have c1 := (fr_r S_x_Rounds_go w).trans (fr_m (by decide) (f_x_Rounds_told N _ _ _ _ h1))
      obtain ⟨_, h⟩ := aw_cks h
      exact ((c1).upA (by rfl)).trans (ih _ _ _ h)
theorem f_x_Rounds_go (N : Nat) : ∀ (w v : aw_W), x_Rounds_go N w = some v → fr_ S_x_Rounds_go w v := by
  intro w v h
  unfold x_Rounds_go at h
  exact (fr_r S_x_Rounds_go w).trans (f_x_Rounds_go_2 N  N _ _ _ h)
def S_x_Rounds_ring : List (Nat × Nat) := [(17, 3), (17, 4), (17, 5), (17, 6), (17, 7), (18, 2), (19, 1000000), (20, 1000000), (21, 1000000), (40, 1000000)]
theorem f_x_Rounds_ring_63 (N : Nat) : ∀ (w : aw_W) (y : Int) (v : aw_W), x_Rounds_ring_63 N w = some (y, v) → fr_ S_x_Rounds_ring w v := by
  intro w y v h
  unfold x_Rounds_ring_63 at h
  cases h
  exact fr_r S_x_Rounds_ring w
theorem f_x_Rounds_ring_57 (N : Nat) (k18 : Int → Int → Int → Int → Int → aw_W → Option (Int × aw_W)) (hk18 : ∀ (x1 x2 x3 x4 x5 : Int) (w : aw_W) (y : Int) (v : aw_W), k18 x1 x2 x3 x4 x5 w = some (y, v) → fr_ S_x_Rounds_ring w v) : ∀ (x1 x2 x3 x4 x5 : Int) (w : aw_W) (y : Int) (v : aw_W), x_Rounds_ring_57 N k18 x1 x2 x3 x4 x5 w = some (y, v) → fr_ S_x_Rounds_ring w v := by
  intro x1 x2 x3 x4 x5 w y v h
  unfold x_Rounds_ring_57 at h
  exact (fr_r S_x_Rounds_ring w).trans (hk18 _ _ _ _ _ _ _ _ h)
theorem f_x_Rounds_ring_39 (N : Nat) : ∀ (x4 : Int) (w : aw_W) (y : Int) (v : aw_W), x_Rounds_ring_39 N x4 w = some (y, v) → fr_ S_x_Rounds_ring w v := by
  intro x4 w y v h
  unfold x_Rounds_ring_39 at h
  cases h
  exact fr_r S_x_Rounds_ring w
theorem f_x_Rounds_ring_18 (N : Nat) : ∀ (n : Nat) (x1 x2 x3 x4 x5 : Int) (w : aw_W) (y : Int) (v : aw_W), x_Rounds_ring_18 N n x1 x2 x3 x4 x5 w = some (y, v) → fr_ S_x_Rounds_ring w v := by
  intro n
  induction n with
  | zero => intro x1 x2 x3 x4 x5 w y v h; rw [x_Rounds_ring_18] at h; cases h
  | succ n ih =>
    intro x1 x2 x3 x4 x5 w y v h
    rw [x_Rounds_ring_18] at h
    by_cases hc : 4000000 ≤ x5
    · rw [if_pos hc] at h
      exact (fr_r S_x_Rounds_ring w).trans (f_x_Rounds_ring_63 N  _ _ _ h)
    · rw [if_neg hc] at h
      obtain ⟨r1, w1, h1, h⟩ := aw_b2s h
      have c1 := (fr_r S_x_Rounds_ring w).trans (fr_m (by decide) (f_x_Rounds_rowBehind N _ _ _ _ h1))
      by_cases hc : r1 = x1
      · rw [if_pos hc] at h
        exact (c1).trans (f_x_Rounds_ring_39 N  _ _ _ _ h)
      · rw [if_neg hc] at h
        by_cases hc : (aw_w (x4 + 1)) = x3
        · rw [if_pos hc] at h
          exact (c1).trans (f_x_Rounds_ring_57 N  _ ih _ _ _ _ _ _ _ _ h)
        · rw [if_neg hc] at h
          exact (c1).trans (f_x_Rounds_ring_57 N  _ ih _ _ _ _ _ _ _ _ h)
theorem f_x_Rounds_ring (N : Nat) : ∀ (w : aw_W) (y : Int) (v : aw_W), x_Rounds_ring N w = some (y, v) → fr_ S_x_Rounds_ring w v := by
  intro w y v h
  unfold x_Rounds_ring at h
  exact (fr_r S_x_Rounds_ring w).trans (f_x_Rounds_ring_18 N  N _ _ _ _ _ _ _ _ h)
def S_x_rounds : List (Nat × Nat) := [(17, 3), (17, 4), (17, 5), (17, 6), (17, 7), (18, 2), (19, 1000000), (20, 1000000), (21, 1000000), (39, 3), (39, 4), (40, 1000000)]
theorem f_x_rounds_19 (N : Nat) : ∀ (w : aw_W) (y : Int) (v : aw_W), x_rounds_19 N w = some (y, v) → fr_ S_x_rounds w v := by
  intro w y v h
  unfold x_rounds_19 at h
  cases h
  exact fr_r S_x_rounds w
theorem f_x_rounds_63 (N : Nat) : ∀ (s0 : Int) (w : aw_W) (y : Int) (v : aw_W), x_rounds_63 N s0 w = some (y, v) → fr_ S_x_rounds w v := by
  intro s0 w y v h
  unfold x_rounds_63 at h
  cases h
  exact fr_r S_x_rounds w
theorem f_x_rounds (N : Nat) : ∀ (x1 : Int) (w : aw_W) (y : Int) (v : aw_W), x_rounds N x1 w = some (y, v) → fr_ S_x_rounds w v := by
  intro x1 w y v h
  unfold x_rounds at h
  by_cases hc : (w 3 4) = 0
  · rw [if_pos hc] at h
    exact (fr_r S_x_rounds w).trans (f_x_rounds_19 N  _ _ _ h)
  · rw [if_neg hc] at h
    by_cases hc : x1 < 0
    · rw [if_pos hc] at h
      exact (fr_r S_x_rounds w).trans (f_x_rounds_19 N  _ _ _ h)
    · rw [if_neg hc] at h
      by_cases hc : x1 ≤ 2
      · rw [if_pos hc] at h
        obtain ⟨w1, h1, h⟩ := aw_b1s h
        have c1 := (fr_r S_x_rounds w).trans (fr_m (by decide) (f_x_Rounds_go N _ _ h1))
        by_cases hc : x1 = 0
        · rw [if_pos hc] at h
          cases h
          exact c1
        · rw [if_neg hc] at h
          by_cases hc : x1 = 1
          · rw [if_pos hc] at h
            exact (c1).trans (f_x_rounds_63 N  _ _ _ _ h)
          · rw [if_neg hc] at h
            obtain ⟨r2, w2, h2, h⟩ := aw_b2s h
            have c2 := (c1).trans (fr_m (by decide) (f_x_Rounds_ring N _ _ _ h2))
            exact (c2).trans (f_x_rounds_63 N  _ _ _ _ h)
      · rw [if_neg hc] at h
        exact (fr_r S_x_rounds w).trans (f_x_rounds_19 N  _ _ _ h)
def S_x_rule : List (Nat × Nat) := [(6, 1000000)]
theorem f_x_rule_27 (N : Nat) : ∀ (w : aw_W) (y : Int) (v : aw_W), x_rule_27 N w = some (y, v) → fr_ S_x_rule w v := by
  intro w y v h
  unfold x_rule_27 at h
  cases h
  exact fr_r S_x_rule w
theorem f_x_rule_29 (N : Nat) : ∀ (x1 x2 : Int) (w : aw_W) (y : Int) (v : aw_W), x_rule_29 N x1 x2 w = some (y, v) → fr_ S_x_rule w v := by
  intro x1 x2 w y v h
  unfold x_rule_29 at h
  obtain ⟨_, h⟩ := aw_cks h
  cases h
  exact (fr_r S_x_rule w).upA (by rfl)
theorem f_x_rule (N : Nat) : ∀ (x1 x2 : Int) (w : aw_W) (y : Int) (v : aw_W), x_rule N x1 x2 w = some (y, v) → fr_ S_x_rule w v := by
  intro x1 x2 w y v h
  unfold x_rule at h
  obtain ⟨r1, w1, h1, h⟩ := aw_b2s h
  have c1 := (fr_r S_x_rule w).trans (fr_m (by decide) (f_x_Land_holds N _ _ _ _ h1))
  by_cases hc : r1 = 0
  · rw [if_pos hc] at h
    exact (c1).trans (f_x_rule_27 N  _ _ _ h)
  · rw [if_neg hc] at h
    by_cases hc : x2 = (-1)
    · rw [if_pos hc] at h
      exact (c1).trans (f_x_rule_29 N  _ _ _ _ _ h)
    · rw [if_neg hc] at h
      obtain ⟨r2, w2, h2, h⟩ := aw_b2s h
      have c2 := (c1).trans (fr_m (by decide) (f_x_Rules_holds N _ _ _ _ h2))
      by_cases hc : r2 = 0
      · rw [if_pos hc] at h
        exact (c2).trans (f_x_rule_27 N  _ _ _ h)
      · rw [if_neg hc] at h
        exact (c2).trans (f_x_rule_29 N  _ _ _ _ _ h)
def S_x_seller : List (Nat × Nat) := [(17, 3), (17, 4), (17, 5), (17, 6), (18, 2), (19, 1000000), (20, 1000000), (21, 1000000), (23, 4), (23, 5), (23, 6), (23, 7), (24, 1000000), (25, 1000000)]
theorem f_x_seller_16 (N : Nat) : ∀ (w : aw_W) (y : Int) (v : aw_W), x_seller_16 N w = some (y, v) → fr_ S_x_seller w v := by
  intro w y v h
  unfold x_seller_16 at h
  cases h
  exact fr_r S_x_seller w
theorem f_x_seller_59 (N : Nat) : ∀ (s0 : Int) (w : aw_W) (y : Int) (v : aw_W), x_seller_59 N s0 w = some (y, v) → fr_ S_x_seller w v := by
  intro s0 w y v h
  unfold x_seller_59 at h
  cases h
  exact fr_r S_x_seller w
theorem f_x_seller (N : Nat) : ∀ (x1 : Int) (w : aw_W) (y : Int) (v : aw_W), x_seller N x1 w = some (y, v) → fr_ S_x_seller w v := by
  intro x1 w y v h
  unfold x_seller at h
  obtain ⟨r1, w1, h1, h⟩ := aw_b2s h
  have c1 := (fr_r S_x_seller w).trans (fr_m (by decide) (f_x_isSmall N _ _ _ h1))
  by_cases hc : r1 = 0
  · rw [if_pos hc] at h
    exact (c1).trans (f_x_seller_16 N  _ _ _ h)
  · rw [if_neg hc] at h
    by_cases hc : x1 < 0
    · rw [if_pos hc] at h
      exact (c1).trans (f_x_seller_16 N  _ _ _ h)
    · rw [if_neg hc] at h
      by_cases hc : x1 ≤ 1
      · rw [if_pos hc] at h
        obtain ⟨w2, h2, h⟩ := aw_b1s h
        have c2 := (c1).trans (fr_m (by decide) (f_x_Rests_find N _ _ h2))
        by_cases hc : (w2 23 5) = 0
        · rw [if_pos hc] at h
          cases h
          exact c2
        · rw [if_neg hc] at h
          by_cases hc : x1 = 0
          · rw [if_pos hc] at h
            exact (c2).trans (f_x_seller_59 N  _ _ _ _ h)
          · rw [if_neg hc] at h
            exact (c2).trans (f_x_seller_59 N  _ _ _ _ h)
      · rw [if_neg hc] at h
        exact (c1).trans (f_x_seller_16 N  _ _ _ h)
def S_x_Waiting_decide : List (Nat × Nat) := [(35, 1000000), (36, 1000000)]
theorem f_x_Waiting_decide_111 (N : Nat) : ∀ (w v : aw_W), x_Waiting_decide_111 N w = some v → fr_ S_x_Waiting_decide w v := by
  intro w v h
  unfold x_Waiting_decide_111 at h
  cases h
  exact fr_r S_x_Waiting_decide w
theorem f_x_Waiting_decide_110 (N : Nat) : ∀ (s0 s1 : Int) (w v : aw_W), x_Waiting_decide_110 N s0 s1 w = some v → fr_ S_x_Waiting_decide w v := by
  intro s0 s1 w v h
  unfold x_Waiting_decide_110 at h
  obtain ⟨_, h⟩ := aw_cks h
  exact ((fr_r S_x_Waiting_decide w).upA (by rfl)).trans (f_x_Waiting_decide_111 N  _ _ h)
theorem f_x_Waiting_decide_65 (N : Nat) : ∀ (x1 x2 x3 x4 x6 s0 : Int) (w v : aw_W), x_Waiting_decide_65 N x1 x2 x3 x4 x6 s0 w = some v → fr_ S_x_Waiting_decide w v := by
  intro x1 x2 x3 x4 x6 s0 w v h
  unfold x_Waiting_decide_65 at h
  by_cases hc : x6 ≤ s0
  · rw [if_pos hc] at h
    exact (fr_r S_x_Waiting_decide w).trans (f_x_Waiting_decide_111 N  _ _ h)
  · rw [if_neg hc] at h
    obtain ⟨_, h⟩ := aw_cks h
    obtain ⟨_, h⟩ := aw_cks h
    by_cases hc : x4 = 0
    · rw [if_pos hc] at h
      obtain ⟨_, h⟩ := aw_cks h
      exact ((fr_r S_x_Waiting_decide w).upA (by rfl)).trans (f_x_Waiting_decide_110 N  _ _ _ _ h)
    · rw [if_neg hc] at h
      exact ((fr_r S_x_Waiting_decide w).upA (by rfl)).trans (f_x_Waiting_decide_110 N  _ _ _ _ h)
theorem f_x_Waiting_decide_47 (N : Nat) : ∀ (x1 x2 x3 x4 x5 s0 : Int) (w v : aw_W), x_Waiting_decide_47 N x1 x2 x3 x4 x5 s0 w = some v → fr_ S_x_Waiting_decide w v := by
  intro x1 x2 x3 x4 x5 s0 w v h
  unfold x_Waiting_decide_47 at h
  obtain ⟨_, h⟩ := aw_cks h
  by_cases hc : (w 35 x3.toNat) = x2
  · rw [if_pos hc] at h
    exact (fr_r S_x_Waiting_decide w).trans (f_x_Waiting_decide_65 N  _ _ _ _ _ _ _ _ h)
  · rw [if_neg hc] at h
    exact (fr_r S_x_Waiting_decide w).trans (f_x_Waiting_decide_65 N  _ _ _ _ _ _ _ _ h)
theorem f_x_Waiting_decide_23 (N : Nat) : ∀ (x1 x2 x3 s0 : Int) (w v : aw_W), x_Waiting_decide_23 N x1 x2 x3 s0 w = some v → fr_ S_x_Waiting_decide w v := by
  intro x1 x2 x3 s0 w v h
  unfold x_Waiting_decide_23 at h
  obtain ⟨r1, w1, h1, h⟩ := aw_b2s h
  have c1 := (fr_r S_x_Waiting_decide w).trans (fr_m (by decide) (f_x_Land_item N _ _ _ _ _ h1))
  by_cases hc : s0 = 0
  · rw [if_pos hc] at h
    exact (c1).trans (f_x_Waiting_decide_47 N  _ _ _ _ _ _ _ _ h)
  · rw [if_neg hc] at h
    exact (c1).trans (f_x_Waiting_decide_47 N  _ _ _ _ _ _ _ _ h)
theorem f_x_Waiting_decide (N : Nat) : ∀ (x1 x2 x3 : Int) (w v : aw_W), x_Waiting_decide N x1 x2 x3 w = some v → fr_ S_x_Waiting_decide w v := by
  intro x1 x2 x3 w v h
  unfold x_Waiting_decide at h
  obtain ⟨r1, w1, h1, h⟩ := aw_b2s h
  have c1 := (fr_r S_x_Waiting_decide w).trans (fr_m (by decide) (f_j_Int_bitCount N _ _ _ _ h1))
  by_cases hc : r1 = (aw_w ((w1 5 0) - 1))
  · rw [if_pos hc] at h
    exact (c1).trans (f_x_Waiting_decide_23 N  _ _ _ _ _ _ h)
  · rw [if_neg hc] at h
    exact (c1).trans (f_x_Waiting_decide_23 N  _ _ _ _ _ _ h)
def S_x_Waiting_behindTheFirst : List (Nat × Nat) := [(35, 1000000), (36, 1000000), (37, 1000000)]
theorem f_x_Waiting_behindTheFirst_133 (N : Nat) : ∀ (w v : aw_W), x_Waiting_behindTheFirst_133 N w = some v → fr_ S_x_Waiting_behindTheFirst w v := by
  intro w v h
  unfold x_Waiting_behindTheFirst_133 at h
  cases h
  exact fr_r S_x_Waiting_behindTheFirst w
theorem f_x_Waiting_behindTheFirst_127 (N : Nat) (k17 : Int → aw_W → Option (aw_W)) (hk17 : ∀ (x2 : Int) (w v : aw_W), k17 x2 w = some v → fr_ S_x_Waiting_behindTheFirst w v) : ∀ (x2 : Int) (w v : aw_W), x_Waiting_behindTheFirst_127 N k17 x2 w = some v → fr_ S_x_Waiting_behindTheFirst w v := by
  intro x2 w v h
  unfold x_Waiting_behindTheFirst_127 at h
  exact (fr_r S_x_Waiting_behindTheFirst w).trans (hk17 _ _ _ h)
theorem f_x_Waiting_behindTheFirst_121 (N : Nat) (k17 : Int → aw_W → Option (aw_W)) (hk17 : ∀ (x2 : Int) (w v : aw_W), k17 x2 w = some v → fr_ S_x_Waiting_behindTheFirst w v) (k82 : Int → Int → Int → aw_W → Option (aw_W)) (hk82 : ∀ (x2 x3 x4 : Int) (w v : aw_W), k82 x2 x3 x4 w = some v → fr_ S_x_Waiting_behindTheFirst w v) : ∀ (x2 x3 x4 : Int) (w v : aw_W), x_Waiting_behindTheFirst_121 N k17 k82 x2 x3 x4 w = some v → fr_ S_x_Waiting_behindTheFirst w v := by
  intro x2 x3 x4 w v h
  unfold x_Waiting_behindTheFirst_121 at h
  exact (fr_r S_x_Waiting_behindTheFirst w).trans (hk82 _ _ _ _ _ h)
theorem f_x_Waiting_behindTheFirst_82 (N : Nat) (k17 : Int → aw_W → Option (aw_W)) (hk17 : ∀ (x2 : Int) (w v : aw_W), k17 x2 w = some v → fr_ S_x_Waiting_behindTheFirst w v) : ∀ (n : Nat) (x2 x3 x4 : Int) (w v : aw_W), x_Waiting_behindTheFirst_82 N k17 n x2 x3 x4 w = some v → fr_ S_x_Waiting_behindTheFirst w v := by
  intro n
  induction n with
  | zero => intro x2 x3 x4 w v h; rw [x_Waiting_behindTheFirst_82] at h; cases h
  | succ n ih =>
    intro x2 x3 x4 w v h
    rw [x_Waiting_behindTheFirst_82] at h
    obtain ⟨r1, w1, h1, h⟩ := aw_b2s h
    have c1 := (fr_r S_x_Waiting_behindTheFirst w).trans (fr_m (by decide) (f_x_Land_all N _ _ _ h1))
    by_cases hc : r1 < x4
    · rw [if_pos hc] at h
      exact (c1).trans (f_x_Waiting_behindTheFirst_127 N  _ hk17 _ _ _ h)
    · rw [if_neg hc] at h
      by_cases hc : 64 ≤ x4
      · rw [if_pos hc] at h
        exact (c1).trans (f_x_Waiting_behindTheFirst_127 N  _ hk17 _ _ _ h)
      · rw [if_neg hc] at h
        by_cases hc : (aw_and (aw_shr x4 x3) 1) = 0
        · rw [if_pos hc] at h
          obtain ⟨w2, h2, h⟩ := aw_b1s h
          have c2 := (c1).trans (fr_m (by decide) (f_x_Waiting_decide N _ _ _ _ _ h2))
          exact (c2).trans (f_x_Waiting_behindTheFirst_121 N  _ hk17 _ ih _ _ _ _ _ h)
        · rw [if_neg hc] at h
          exact (c1).trans (f_x_Waiting_behindTheFirst_121 N  _ hk17 _ ih _ _ _ _ _ h)
theorem f_x_Waiting_behindTheFirst_71 (N : Nat) (k17 : Int → aw_W → Option (aw_W)) (hk17 : ∀ (x2 : Int) (w v : aw_W), k17 x2 w = some v → fr_ S_x_Waiting_behindTheFirst w v) : ∀ (x2 x3 s0 s1 : Int) (w v : aw_W), x_Waiting_behindTheFirst_71 N k17 x2 x3 s0 s1 w = some v → fr_ S_x_Waiting_behindTheFirst w v := by
  intro x2 x3 s0 s1 w v h
  unfold x_Waiting_behindTheFirst_71 at h
  obtain ⟨_, h⟩ := aw_cks h
  obtain ⟨_, h⟩ := aw_cks h
  exact (((fr_r S_x_Waiting_behindTheFirst w).upA (by rfl)).upA (by rfl)).trans (f_x_Waiting_behindTheFirst_82 N  _ hk17 N _ _ _ _ _ h)
theorem f_x_Waiting_behindTheFirst_17 (N : Nat) : ∀ (n : Nat) (x2 : Int) (w v : aw_W), x_Waiting_behindTheFirst_17 N n x2 w = some v → fr_ S_x_Waiting_behindTheFirst w v := by
  intro n
  induction n with
  | zero => intro x2 w v h; rw [x_Waiting_behindTheFirst_17] at h; cases h
  | succ n ih =>
    intro x2 w v h
    rw [x_Waiting_behindTheFirst_17] at h
    by_cases hc : x2 < 0
    · rw [if_pos hc] at h
      exact (fr_r S_x_Waiting_behindTheFirst w).trans (f_x_Waiting_behindTheFirst_133 N  _ _ h)
    · rw [if_neg hc] at h
      by_cases hc : (w 3 4) ≤ 0
      · rw [if_pos hc] at h
        exact (fr_r S_x_Waiting_behindTheFirst w).trans (f_x_Waiting_behindTheFirst_133 N  _ _ h)
      · rw [if_neg hc] at h
        obtain ⟨_, h⟩ := aw_cks h
        by_cases hc : (w 5 0) = 1
        · rw [if_pos hc] at h
          exact (fr_r S_x_Waiting_behindTheFirst w).trans (f_x_Waiting_behindTheFirst_71 N  _ ih _ _ _ _ _ _ h)
        · rw [if_neg hc] at h
          obtain ⟨_, h⟩ := aw_cks h
          exact (fr_r S_x_Waiting_behindTheFirst w).trans (f_x_Waiting_behindTheFirst_71 N  _ ih _ _ _ _ _ _ h)
theorem f_x_Waiting_behindTheFirst (N : Nat) : ∀ (x1 : Int) (w v : aw_W), x_Waiting_behindTheFirst N x1 w = some v → fr_ S_x_Waiting_behindTheFirst w v := by
  intro x1 w v h
  unfold x_Waiting_behindTheFirst at h
  obtain ⟨w1, h1, h⟩ := aw_b1s h
  have c1 := (fr_r S_x_Waiting_behindTheFirst w).trans (fr_m (by decide) (f_j_Arr_fill_Ii_35 N _ _ _ h1))
  exact (c1).trans (f_x_Waiting_behindTheFirst_17 N  N _ _ _ h)
def S_x_Waiting_tillTheFirst : List (Nat × Nat) := [(38, 1000000)]
theorem f_x_Waiting_tillTheFirst_151 (N : Nat) : ∀ (x4 : Int) (w : aw_W) (y : Int) (v : aw_W), x_Waiting_tillTheFirst_151 N x4 w = some (y, v) → fr_ S_x_Waiting_tillTheFirst w v := by
  intro x4 w y v h
  unfold x_Waiting_tillTheFirst_151 at h
  cases h
  exact fr_r S_x_Waiting_tillTheFirst w
theorem f_x_Waiting_tillTheFirst_145 (N : Nat) (k15 : Int → Int → Int → Int → aw_W → Option (Int × aw_W)) (hk15 : ∀ (x2 x3 x4 x5 : Int) (w : aw_W) (y : Int) (v : aw_W), k15 x2 x3 x4 x5 w = some (y, v) → fr_ S_x_Waiting_tillTheFirst w v) : ∀ (x2 x3 x4 x5 : Int) (w : aw_W) (y : Int) (v : aw_W), x_Waiting_tillTheFirst_145 N k15 x2 x3 x4 x5 w = some (y, v) → fr_ S_x_Waiting_tillTheFirst w v := by
  intro x2 x3 x4 x5 w y v h
  unfold x_Waiting_tillTheFirst_145 at h
  exact (fr_r S_x_Waiting_tillTheFirst w).trans (hk15 _ _ _ _ _ _ _ h)
theorem f_x_Waiting_tillTheFirst_122 (N : Nat) (k15 : Int → Int → Int → Int → aw_W → Option (Int × aw_W)) (hk15 : ∀ (x2 x3 x4 x5 : Int) (w : aw_W) (y : Int) (v : aw_W), k15 x2 x3 x4 x5 w = some (y, v) → fr_ S_x_Waiting_tillTheFirst w v) : ∀ (x2 x3 x4 x5 x6 s0 s1 : Int) (w : aw_W) (y : Int) (v : aw_W), x_Waiting_tillTheFirst_122 N k15 x2 x3 x4 x5 x6 s0 s1 w = some (y, v) → fr_ S_x_Waiting_tillTheFirst w v := by
  intro x2 x3 x4 x5 x6 s0 s1 w y v h
  unfold x_Waiting_tillTheFirst_122 at h
  obtain ⟨_, h⟩ := aw_cks h
  obtain ⟨_, h⟩ := aw_cks h
  obtain ⟨_, h⟩ := aw_cks h
  by_cases hc : ((aw_up w 38 s1.toNat s0) 38 x5.toNat) = 0
  · rw [if_pos hc] at h
    exact ((fr_r S_x_Waiting_tillTheFirst w).upA (by rfl)).trans (f_x_Waiting_tillTheFirst_145 N  _ hk15 _ _ _ _ _ _ _ h)
  · rw [if_neg hc] at h
    obtain ⟨_, h⟩ := aw_cks h
    exact ((fr_r S_x_Waiting_tillTheFirst w).upA (by rfl)).trans (f_x_Waiting_tillTheFirst_145 N  _ hk15 _ _ _ _ _ _ _ h)
theorem f_x_Waiting_tillTheFirst_101 (N : Nat) (k15 : Int → Int → Int → Int → aw_W → Option (Int × aw_W)) (hk15 : ∀ (x2 x3 x4 x5 : Int) (w : aw_W) (y : Int) (v : aw_W), k15 x2 x3 x4 x5 w = some (y, v) → fr_ S_x_Waiting_tillTheFirst w v) : ∀ (x2 x3 x4 x5 x6 x8 s0 s1 : Int) (w : aw_W) (y : Int) (v : aw_W), x_Waiting_tillTheFirst_101 N k15 x2 x3 x4 x5 x6 x8 s0 s1 w = some (y, v) → fr_ S_x_Waiting_tillTheFirst w v := by
  intro x2 x3 x4 x5 x6 x8 s0 s1 w y v h
  unfold x_Waiting_tillTheFirst_101 at h
  by_cases hc : x8 ≤ (aw_w (s1 - s0))
  · rw [if_pos hc] at h
    exact (fr_r S_x_Waiting_tillTheFirst w).trans (f_x_Waiting_tillTheFirst_122 N  _ hk15 _ _ _ _ _ _ _ _ _ _ h)
  · rw [if_neg hc] at h
    exact (fr_r S_x_Waiting_tillTheFirst w).trans (f_x_Waiting_tillTheFirst_122 N  _ hk15 _ _ _ _ _ _ _ _ _ _ h)
theorem f_x_Waiting_tillTheFirst_90 (N : Nat) (k15 : Int → Int → Int → Int → aw_W → Option (Int × aw_W)) (hk15 : ∀ (x2 x3 x4 x5 : Int) (w : aw_W) (y : Int) (v : aw_W), k15 x2 x3 x4 x5 w = some (y, v) → fr_ S_x_Waiting_tillTheFirst w v) : ∀ (x2 x3 x4 x5 x6 x8 s0 : Int) (w : aw_W) (y : Int) (v : aw_W), x_Waiting_tillTheFirst_90 N k15 x2 x3 x4 x5 x6 x8 s0 w = some (y, v) → fr_ S_x_Waiting_tillTheFirst w v := by
  intro x2 x3 x4 x5 x6 x8 s0 w y v h
  unfold x_Waiting_tillTheFirst_90 at h
  by_cases hc : x3 = x6
  · rw [if_pos hc] at h
    exact (fr_r S_x_Waiting_tillTheFirst w).trans (f_x_Waiting_tillTheFirst_101 N  _ hk15 _ _ _ _ _ _ _ _ _ _ _ h)
  · rw [if_neg hc] at h
    exact (fr_r S_x_Waiting_tillTheFirst w).trans (f_x_Waiting_tillTheFirst_101 N  _ hk15 _ _ _ _ _ _ _ _ _ _ _ h)
theorem f_x_Waiting_tillTheFirst_73 (N : Nat) (k15 : Int → Int → Int → Int → aw_W → Option (Int × aw_W)) (hk15 : ∀ (x2 x3 x4 x5 : Int) (w : aw_W) (y : Int) (v : aw_W), k15 x2 x3 x4 x5 w = some (y, v) → fr_ S_x_Waiting_tillTheFirst w v) : ∀ (x2 x3 x4 x5 x6 x7 s0 : Int) (w : aw_W) (y : Int) (v : aw_W), x_Waiting_tillTheFirst_73 N k15 x2 x3 x4 x5 x6 x7 s0 w = some (y, v) → fr_ S_x_Waiting_tillTheFirst w v := by
  intro x2 x3 x4 x5 x6 x7 s0 w y v h
  unfold x_Waiting_tillTheFirst_73 at h
  by_cases hc : x4 = x6
  · rw [if_pos hc] at h
    exact (fr_r S_x_Waiting_tillTheFirst w).trans (f_x_Waiting_tillTheFirst_90 N  _ hk15 _ _ _ _ _ _ _ _ _ _ h)
  · rw [if_neg hc] at h
    exact (fr_r S_x_Waiting_tillTheFirst w).trans (f_x_Waiting_tillTheFirst_90 N  _ hk15 _ _ _ _ _ _ _ _ _ _ h)
theorem f_x_Waiting_tillTheFirst_15 (N : Nat) : ∀ (n : Nat) (x2 x3 x4 x5 : Int) (w : aw_W) (y : Int) (v : aw_W), x_Waiting_tillTheFirst_15 N n x2 x3 x4 x5 w = some (y, v) → fr_ S_x_Waiting_tillTheFirst w v := by
  intro n
  induction n with
  | zero => intro x2 x3 x4 x5 w y v h; rw [x_Waiting_tillTheFirst_15] at h; cases h
  | succ n ih =>
    intro x2 x3 x4 x5 w y v h
    rw [x_Waiting_tillTheFirst_15] at h
    by_cases hc : x5 < 0
    · rw [if_pos hc] at h
      exact (fr_r S_x_Waiting_tillTheFirst w).trans (f_x_Waiting_tillTheFirst_151 N  _ _ _ _ h)
    · rw [if_neg hc] at h
      by_cases hc : (w 3 4) ≤ 0
      · rw [if_pos hc] at h
        exact (fr_r S_x_Waiting_tillTheFirst w).trans (f_x_Waiting_tillTheFirst_151 N  _ _ _ _ h)
      · rw [if_neg hc] at h
        obtain ⟨_, h⟩ := aw_cks h
        obtain ⟨r1, w1, h1, h⟩ := aw_b2s h
        have c1 := (fr_r S_x_Waiting_tillTheFirst w).trans (fr_m (by decide) (f_x_Land_item N _ _ _ _ _ h1))
        by_cases hc : (w1 5 0) = 1
        · rw [if_pos hc] at h
          exact (c1).trans (f_x_Waiting_tillTheFirst_73 N  _ ih _ _ _ _ _ _ _ _ _ _ h)
        · rw [if_neg hc] at h
          exact (c1).trans (f_x_Waiting_tillTheFirst_73 N  _ ih _ _ _ _ _ _ _ _ _ _ h)
theorem f_x_Waiting_tillTheFirst (N : Nat) : ∀ (x1 x2 : Int) (w : aw_W) (y : Int) (v : aw_W), x_Waiting_tillTheFirst N x1 x2 w = some (y, v) → fr_ S_x_Waiting_tillTheFirst w v := by
  intro x1 x2 w y v h
  unfold x_Waiting_tillTheFirst at h
  exact (fr_r S_x_Waiting_tillTheFirst w).trans (f_x_Waiting_tillTheFirst_15 N  N _ _ _ _ _ _ _ h)
def S_x_spur : List (Nat × Nat) := [(35, 1000000), (36, 1000000), (37, 1000000), (38, 1000000)]
theorem f_x_spur_21 (N : Nat) : ∀ (w : aw_W) (y : Int) (v : aw_W), x_spur_21 N w = some (y, v) → fr_ S_x_spur w v := by
  intro w y v h
  unfold x_spur_21 at h
  cases h
  exact fr_r S_x_spur w
theorem f_x_spur_62 (N : Nat) : ∀ (w : aw_W) (y : Int) (v : aw_W), x_spur_62 N w = some (y, v) → fr_ S_x_spur w v := by
  intro w y v h
  unfold x_spur_62 at h
  cases h
  exact fr_r S_x_spur w
theorem f_x_spur_54 (N : Nat) : ∀ (x2 : Int) (w : aw_W) (y : Int) (v : aw_W), x_spur_54 N x2 w = some (y, v) → fr_ S_x_spur w v := by
  intro x2 w y v h
  unfold x_spur_54 at h
  cases h
  exact fr_r S_x_spur w
theorem f_x_spur_35 (N : Nat) : ∀ (n : Nat) (x1 x2 : Int) (w : aw_W) (y : Int) (v : aw_W), x_spur_35 N n x1 x2 w = some (y, v) → fr_ S_x_spur w v := by
  intro n
  induction n with
  | zero => intro x1 x2 w y v h; rw [x_spur_35] at h; cases h
  | succ n ih =>
    intro x1 x2 w y v h
    rw [x_spur_35] at h
    by_cases hc : x2 < (-99)
    · rw [if_pos hc] at h
      exact (fr_r S_x_spur w).trans (f_x_spur_62 N  _ _ _ h)
    · rw [if_neg hc] at h
      obtain ⟨r1, w1, h1, h⟩ := aw_b2s h
      have c1 := (fr_r S_x_spur w).trans (fr_m (by decide) (f_x_Waiting_tillTheFirst N _ _ _ _ _ h1))
      by_cases hc : r1 = (-1)
      · rw [if_pos hc] at h
        exact (c1).trans (ih _ _ _ _ _ h)
      · rw [if_neg hc] at h
        exact (c1).trans (f_x_spur_54 N  _ _ _ _ h)
theorem f_x_spur (N : Nat) : ∀ (x1 : Int) (w : aw_W) (y : Int) (v : aw_W), x_spur N x1 w = some (y, v) → fr_ S_x_spur w v := by
  intro x1 w y v h
  unfold x_spur at h
  by_cases hc : (w 3 4) = 0
  · rw [if_pos hc] at h
    exact (fr_r S_x_spur w).trans (f_x_spur_21 N  _ _ _ h)
  · rw [if_neg hc] at h
    by_cases hc : x1 < 1
    · rw [if_pos hc] at h
      exact (fr_r S_x_spur w).trans (f_x_spur_21 N  _ _ _ h)
    · rw [if_neg hc] at h
      by_cases hc : x1 ≤ 60
      · rw [if_pos hc] at h
        obtain ⟨w1, h1, h⟩ := aw_b1s h
        have c1 := (fr_r S_x_spur w).trans (fr_m (by decide) (f_x_Waiting_behindTheFirst N _ _ _ h1))
        exact (c1).trans (f_x_spur_35 N  N _ _ _ _ _ h)
      · rw [if_neg hc] at h
        exact (fr_r S_x_spur w).trans (f_x_spur_21 N  _ _ _ h)
def S_x_step : List (Nat × Nat) := [(15, 1000000), (16, 1000000), (26, 7), (26, 8), (30, 1000000), (31, 1000000), (32, 1000000), (33, 1000000)]
theorem f_x_step_30 (N : Nat) : ∀ (w : aw_W) (y : Int) (v : aw_W), x_step_30 N w = some (y, v) → fr_ S_x_step w v := by
  intro w y v h
  unfold x_step_30 at h
  cases h
  exact fr_r S_x_step w
theorem f_x_step (N : Nat) : ∀ (x1 x2 x3 x4 : Int) (w : aw_W) (y : Int) (v : aw_W), x_step N x1 x2 x3 x4 w = some (y, v) → fr_ S_x_step w v := by
  intro x1 x2 x3 x4 w y v h
  unfold x_step at h
  obtain ⟨r1, w1, h1, h⟩ := aw_b2s h
  have c1 := (fr_r S_x_step w).trans (fr_m (by decide) (f_x_Land_holds N _ _ _ _ h1))
  by_cases hc : r1 = 0
  · rw [if_pos hc] at h
    exact (c1).trans (f_x_step_30 N  _ _ _ h)
  · rw [if_neg hc] at h
    obtain ⟨r2, w2, h2, h⟩ := aw_b2s h
    have c2 := (c1).trans (fr_m (by decide) (f_x_mayRun N _ _ _ _ _ h2))
    by_cases hc : r2 = 0
    · rw [if_pos hc] at h
      exact (c2).trans (f_x_step_30 N  _ _ _ h)
    · rw [if_neg hc] at h
      by_cases hc : x4 < 0
      · rw [if_pos hc] at h
        exact (c2).trans (f_x_step_30 N  _ _ _ h)
      · rw [if_neg hc] at h
        by_cases hc : x4 ≤ x2
        · rw [if_pos hc] at h
          obtain ⟨w3, h3, h⟩ := aw_b1s h
          have c3 := (c2).trans (fr_m (by decide) (f_x_Race_rulesAsTold N _ _ h3))
          obtain ⟨w4, h4, h⟩ := aw_b1s h
          have c4 := (c3).trans (fr_m (by decide) (f_x_Race_go N _ _ _ _ _ h4))
          obtain ⟨_, h⟩ := aw_cks h
          cases h
          exact c4
        · rw [if_neg hc] at h
          exact (c2).trans (f_x_step_30 N  _ _ _ h)
def S_x_Book_gainsOf : List (Nat × Nat) := [(17, 3), (17, 4), (17, 5), (17, 6), (18, 2), (19, 1000000), (20, 1000000), (21, 1000000)]
theorem f_x_Book_gainsOf_50 (N : Nat) : ∀ (x2 : Int) (w : aw_W) (y : Int) (v : aw_W), x_Book_gainsOf_50 N x2 w = some (y, v) → fr_ S_x_Book_gainsOf w v := by
  intro x2 w y v h
  unfold x_Book_gainsOf_50 at h
  cases h
  exact fr_r S_x_Book_gainsOf w
theorem f_x_Book_gainsOf_4 (N : Nat) : ∀ (n : Nat) (x1 x2 x3 : Int) (w : aw_W) (y : Int) (v : aw_W), x_Book_gainsOf_4 N n x1 x2 x3 w = some (y, v) → fr_ S_x_Book_gainsOf w v := by
  intro n
  induction n with
  | zero => intro x1 x2 x3 w y v h; rw [x_Book_gainsOf_4] at h; cases h
  | succ n ih =>
    intro x1 x2 x3 w y v h
    rw [x_Book_gainsOf_4] at h
    by_cases hc : (w 41 4) ≤ x3
    · rw [if_pos hc] at h
      exact (fr_r S_x_Book_gainsOf w).trans (f_x_Book_gainsOf_50 N  _ _ _ _ h)
    · rw [if_neg hc] at h
      obtain ⟨_, h⟩ := aw_cks h
      obtain ⟨r1, w1, h1, h⟩ := aw_b2s h
      have c1 := (fr_r S_x_Book_gainsOf w).trans (fr_m (by decide) (f_x_Sale_put N _ _ _ _ h1))
      obtain ⟨w2, h2, h⟩ := aw_b1s h
      have c2 := (c1).trans (fr_m (by decide) (f_x_Sale_settle N _ _ h2))
      obtain ⟨r3, w3, h3, h⟩ := aw_b2s h
      have c3 := (c2).trans (fr_m (by decide) (f_x_Sale_gainOf N _ _ _ _ h3))
      exact (c3).trans (ih _ _ _ _ _ _ h)
theorem f_x_Book_gainsOf (N : Nat) : ∀ (x1 : Int) (w : aw_W) (y : Int) (v : aw_W), x_Book_gainsOf N x1 w = some (y, v) → fr_ S_x_Book_gainsOf w v := by
  intro x1 w y v h
  unfold x_Book_gainsOf at h
  exact (fr_r S_x_Book_gainsOf w).trans (f_x_Book_gainsOf_4 N  N _ _ _ _ _ _ h)
def S_x_sum : List (Nat × Nat) := [(17, 3), (17, 4), (17, 5), (17, 6), (18, 2), (19, 1000000), (20, 1000000), (21, 1000000)]
theorem f_x_sum_24 (N : Nat) : ∀ (s0 : Int) (w : aw_W) (y : Int) (v : aw_W), x_sum_24 N s0 w = some (y, v) → fr_ S_x_sum w v := by
  intro s0 w y v h
  unfold x_sum_24 at h
  cases h
  exact fr_r S_x_sum w
theorem f_x_sum (N : Nat) : ∀ (x1 : Int) (w : aw_W) (y : Int) (v : aw_W), x_sum N x1 w = some (y, v) → fr_ S_x_sum w v := by
  intro x1 w y v h
  unfold x_sum at h
  obtain ⟨r1, w1, h1, h⟩ := aw_b2s h
  have c1 := (fr_r S_x_sum w).trans (fr_m (by decide) (f_x_Land_holds N _ _ _ _ h1))
  by_cases hc : r1 = 0
  · rw [if_pos hc] at h
    exact (c1).trans (f_x_sum_24 N  _ _ _ _ h)
  · rw [if_neg hc] at h
    obtain ⟨r2, w2, h2, h⟩ := aw_b2s h
    have c2 := (c1).trans (fr_m (by decide) (f_x_Book_gainsOf N _ _ _ _ h2))
    exact (c2).trans (f_x_sum_24 N  _ _ _ _ h)
def S_x_Rules_keep : List (Nat × Nat) := [(11, 6), (12, 1000000), (13, 1000000)]
theorem f_x_Rules_keep (N : Nat) : ∀ (w : aw_W) (y : Int) (v : aw_W), x_Rules_keep N w = some (y, v) → fr_ S_x_Rules_keep w v := by
  intro w y v h
  unfold x_Rules_keep at h
  by_cases hc : (w 11 6) < 4
  · rw [if_pos hc] at h
    obtain ⟨_, h⟩ := aw_cks h
    obtain ⟨_, h⟩ := aw_cks h
    cases h
    exact (((fr_r S_x_Rules_keep w).cpy (by rfl)).upA (by rfl)).up (by rfl)
  · rw [if_neg hc] at h
    cases h
    exact fr_r S_x_Rules_keep w
def S_x_text : List (Nat × Nat) := [(0, 14), (1, 1), (1, 2), (3, 4), (4, 1000000), (5, 1000000), (6, 1000000), (7, 3), (7, 4), (8, 1000000), (9, 1000000), (11, 5), (11, 6), (12, 1000000), (13, 1000000), (14, 1000000), (23, 4), (41, 4)]
theorem f_x_text_71 (N : Nat) : ∀ (w : aw_W) (y : Int) (v : aw_W), x_text_71 N w = some (y, v) → fr_ S_x_text w v := by
  intro w y v h
  unfold x_text_71 at h
  cases h
  exact fr_r S_x_text w
theorem f_x_text_24 (N : Nat) : ∀ (x1 : Int) (w : aw_W) (y : Int) (v : aw_W), x_text_24 N x1 w = some (y, v) → fr_ S_x_text w v := by
  intro x1 w y v h
  unfold x_text_24 at h
  by_cases hc : x1 = 1
  · rw [if_pos hc] at h
    by_cases hc : 4 ≤ (w 11 6)
    · rw [if_pos hc] at h
      exact (fr_r S_x_text w).trans (f_x_text_71 N  _ _ _ h)
    · rw [if_neg hc] at h
      obtain ⟨r1, w1, h1, h⟩ := aw_b2s h
      have c1 := (fr_r S_x_text w).trans (fr_m (by decide) (f_x_Rules_read N _ _ _ h1))
      by_cases hc : r1 = (-1)
      · rw [if_pos hc] at h
        obtain ⟨r2, w2, h2, h⟩ := aw_b2s h
        have c2 := ((c1).up (by rfl)).trans (fr_m (by decide) (f_x_Rules_keep N _ _ _ h2))
        cases h
        exact c2
      · rw [if_neg hc] at h
        exact (c1).trans (f_x_text_71 N  _ _ _ h)
  · rw [if_neg hc] at h
    exact (fr_r S_x_text w).trans (f_x_text_71 N  _ _ _ h)
theorem f_x_text (N : Nat) : ∀ (x1 : Int) (w : aw_W) (y : Int) (v : aw_W), x_text N x1 w = some (y, v) → fr_ S_x_text w v := by
  intro x1 w y v h
  unfold x_text at h
  by_cases hc : x1 = 0
  · rw [if_pos hc] at h
    obtain ⟨r1, w1, h1, h⟩ := aw_b2s h
    have c1 := (fr_r S_x_text w).trans (fr_m (by decide) (f_x_Land_read N _ _ _ h1))
    by_cases hc : r1 = (-1)
    · rw [if_pos hc] at h
      obtain ⟨r2, w2, h2, h⟩ := aw_b2s h
      have c2 := (c1).trans (fr_m (by decide) (f_x_enterLand N _ _ _ h2))
      cases h
      exact c2
    · rw [if_neg hc] at h
      exact (c1).trans (f_x_text_24 N  _ _ _ _ h)
  · rw [if_neg hc] at h
    exact (fr_r S_x_text w).trans (f_x_text_24 N  _ _ _ _ h)
def S_x_Replies_gainOfSome : List (Nat × Nat) := []
theorem f_x_Replies_gainOfSome_40 (N : Nat) : ∀ (x2 : Int) (w : aw_W) (y : Int) (v : aw_W), x_Replies_gainOfSome_40 N x2 w = some (y, v) → fr_ S_x_Replies_gainOfSome w v := by
  intro x2 w y v h
  unfold x_Replies_gainOfSome_40 at h
  cases h
  exact fr_r S_x_Replies_gainOfSome w
theorem f_x_Replies_gainOfSome_34 (N : Nat) (k4 : Int → Int → Int → aw_W → Option (Int × aw_W)) (hk4 : ∀ (x1 x2 x3 : Int) (w : aw_W) (y : Int) (v : aw_W), k4 x1 x2 x3 w = some (y, v) → fr_ S_x_Replies_gainOfSome w v) : ∀ (x1 x2 x3 : Int) (w : aw_W) (y : Int) (v : aw_W), x_Replies_gainOfSome_34 N k4 x1 x2 x3 w = some (y, v) → fr_ S_x_Replies_gainOfSome w v := by
  intro x1 x2 x3 w y v h
  unfold x_Replies_gainOfSome_34 at h
  exact (fr_r S_x_Replies_gainOfSome w).trans (hk4 _ _ _ _ _ _ h)
theorem f_x_Replies_gainOfSome_4 (N : Nat) : ∀ (n : Nat) (x1 x2 x3 : Int) (w : aw_W) (y : Int) (v : aw_W), x_Replies_gainOfSome_4 N n x1 x2 x3 w = some (y, v) → fr_ S_x_Replies_gainOfSome w v := by
  intro n
  induction n with
  | zero => intro x1 x2 x3 w y v h; rw [x_Replies_gainOfSome_4] at h; cases h
  | succ n ih =>
    intro x1 x2 x3 w y v h
    rw [x_Replies_gainOfSome_4] at h
    by_cases hc : (w 3 4) ≤ x3
    · rw [if_pos hc] at h
      exact (fr_r S_x_Replies_gainOfSome w).trans (f_x_Replies_gainOfSome_40 N  _ _ _ _ h)
    · rw [if_neg hc] at h
      by_cases hc : (aw_and (aw_shr x1 x3) 1) = 0
      · rw [if_pos hc] at h
        exact (fr_r S_x_Replies_gainOfSome w).trans (f_x_Replies_gainOfSome_34 N  _ ih _ _ _ _ _ _ h)
      · rw [if_neg hc] at h
        obtain ⟨r1, w1, h1, h⟩ := aw_b2s h
        have c1 := (fr_r S_x_Replies_gainOfSome w).trans (fr_m (by decide) (f_x_Sale_gainOf N _ _ _ _ h1))
        exact (c1).trans (f_x_Replies_gainOfSome_34 N  _ ih _ _ _ _ _ _ h)
theorem f_x_Replies_gainOfSome (N : Nat) : ∀ (x1 : Int) (w : aw_W) (y : Int) (v : aw_W), x_Replies_gainOfSome N x1 w = some (y, v) → fr_ S_x_Replies_gainOfSome w v := by
  intro x1 w y v h
  unfold x_Replies_gainOfSome at h
  exact (fr_r S_x_Replies_gainOfSome w).trans (f_x_Replies_gainOfSome_4 N  N _ _ _ _ _ _ h)
def S_x_Replies_best : List (Nat × Nat) := [(17, 3), (17, 4), (17, 5), (17, 6), (18, 2), (19, 1000000), (20, 1000000), (21, 1000000), (22, 5), (22, 6)]
theorem f_x_Replies_best_82 (N : Nat) : ∀ (w v : aw_W), x_Replies_best_82 N w = some v → fr_ S_x_Replies_best w v := by
  intro w v h
  unfold x_Replies_best_82 at h
  cases h
  exact fr_r S_x_Replies_best w
theorem f_x_Replies_best_68 (N : Nat) (k19 : Int → Int → Int → aw_W → Option (aw_W)) (hk19 : ∀ (x1 x2 x3 : Int) (w v : aw_W), k19 x1 x2 x3 w = some v → fr_ S_x_Replies_best w v) : ∀ (x1 x2 x3 : Int) (w v : aw_W), x_Replies_best_68 N k19 x1 x2 x3 w = some v → fr_ S_x_Replies_best w v := by
  intro x1 x2 x3 w v h
  unfold x_Replies_best_68 at h
  obtain ⟨w1, h1, h⟩ := aw_b1s h
  have c1 := (fr_r S_x_Replies_best w).trans (fr_m (by decide) (f_x_Sale_next N _ _ _ h1))
  exact (c1).trans (hk19 _ _ _ _ _ h)
theorem f_x_Replies_best_51 (N : Nat) (k19 : Int → Int → Int → aw_W → Option (aw_W)) (hk19 : ∀ (x1 x2 x3 : Int) (w v : aw_W), k19 x1 x2 x3 w = some v → fr_ S_x_Replies_best w v) : ∀ (x1 x2 x3 x4 : Int) (w v : aw_W), x_Replies_best_51 N k19 x1 x2 x3 x4 w = some v → fr_ S_x_Replies_best w v := by
  intro x1 x2 x3 x4 w v h
  unfold x_Replies_best_51 at h
  obtain ⟨r1, w1, h1, h⟩ := aw_b2s h
  have c1 := ((fr_r S_x_Replies_best w).up (by rfl)).trans (fr_m (by decide) (f_x_Sale_row N _ _ _ h1))
  exact ((c1).up (by rfl)).trans (f_x_Replies_best_68 N  _ hk19 _ _ _ _ _ h)
theorem f_x_Replies_best_19 (N : Nat) : ∀ (n : Nat) (x1 x2 x3 : Int) (w v : aw_W), x_Replies_best_19 N n x1 x2 x3 w = some v → fr_ S_x_Replies_best w v := by
  intro n
  induction n with
  | zero => intro x1 x2 x3 w v h; rw [x_Replies_best_19] at h; cases h
  | succ n ih =>
    intro x1 x2 x3 w v h
    rw [x_Replies_best_19] at h
    by_cases hc : x2 ≤ x3
    · rw [if_pos hc] at h
      exact (fr_r S_x_Replies_best w).trans (f_x_Replies_best_82 N  _ _ h)
    · rw [if_neg hc] at h
      obtain ⟨w1, h1, h⟩ := aw_b1s h
      have c1 := (fr_r S_x_Replies_best w).trans (fr_m (by decide) (f_x_Sale_settle N _ _ h1))
      obtain ⟨r2, w2, h2, h⟩ := aw_b2s h
      have c2 := (c1).trans (fr_m (by decide) (f_x_Replies_gainOfSome N _ _ _ _ h2))
      by_cases hc : x3 = 0
      · rw [if_pos hc] at h
        exact (c2).trans (f_x_Replies_best_51 N  _ ih _ _ _ _ _ _ h)
      · rw [if_neg hc] at h
        by_cases hc : r2 ≤ (w2 22 5)
        · rw [if_pos hc] at h
          exact (c2).trans (f_x_Replies_best_68 N  _ ih _ _ _ _ _ h)
        · rw [if_neg hc] at h
          exact (c2).trans (f_x_Replies_best_51 N  _ ih _ _ _ _ _ _ h)
theorem f_x_Replies_best (N : Nat) : ∀ (x1 : Int) (w v : aw_W), x_Replies_best N x1 w = some v → fr_ S_x_Replies_best w v := by
  intro x1 w v h
  unfold x_Replies_best at h
  obtain ⟨w1, h1, h⟩ := aw_b1s h
  have c1 := (fr_r S_x_Replies_best w).trans (fr_m (by decide) (f_x_Sale_lowest N _ _ _ h1))
  obtain ⟨r2, w2, h2, h⟩ := aw_b2s h
  have c2 := (c1).trans (fr_m (by decide) (f_x_Sale_rowsOf N _ _ _ _ h2))
  exact (c2).trans (f_x_Replies_best_19 N  N _ _ _ _ _ h)
def S_x_together : List (Nat × Nat) := [(17, 3), (17, 4), (17, 5), (17, 6), (18, 2), (19, 1000000), (20, 1000000), (21, 1000000), (22, 5), (22, 6)]
theorem f_x_together_18 (N : Nat) : ∀ (w : aw_W) (y : Int) (v : aw_W), x_together_18 N w = some (y, v) → fr_ S_x_together w v := by
  intro w y v h
  unfold x_together_18 at h
  cases h
  exact fr_r S_x_together w
theorem f_x_together_50 (N : Nat) : ∀ (s0 : Int) (w : aw_W) (y : Int) (v : aw_W), x_together_50 N s0 w = some (y, v) → fr_ S_x_together w v := by
  intro s0 w y v h
  unfold x_together_50 at h
  cases h
  exact fr_r S_x_together w
theorem f_x_together (N : Nat) : ∀ (x1 x2 x3 : Int) (w : aw_W) (y : Int) (v : aw_W), x_together N x1 x2 x3 w = some (y, v) → fr_ S_x_together w v := by
  intro x1 x2 x3 w y v h
  unfold x_together at h
  by_cases hc : x3 < 0
  · rw [if_pos hc] at h
    exact (fr_r S_x_together w).trans (f_x_together_18 N  _ _ _ h)
  · rw [if_neg hc] at h
    by_cases hc : 1 < x3
    · rw [if_pos hc] at h
      exact (fr_r S_x_together w).trans (f_x_together_18 N  _ _ _ h)
    · rw [if_neg hc] at h
      obtain ⟨r1, w1, h1, h⟩ := aw_b2s h
      have c1 := (fr_r S_x_together w).trans (fr_m (by decide) (f_x_mayPact N _ _ _ _ _ h1))
      by_cases hc : r1 = 0
      · rw [if_pos hc] at h
        exact (c1).trans (f_x_together_18 N  _ _ _ h)
      · rw [if_neg hc] at h
        obtain ⟨w2, h2, h⟩ := aw_b1s h
        have c2 := (c1).trans (fr_m (by decide) (f_x_Replies_best N _ _ _ h2))
        by_cases hc : x3 = 0
        · rw [if_pos hc] at h
          exact (c2).trans (f_x_together_50 N  _ _ _ _ h)
        · rw [if_neg hc] at h
          exact (c2).trans (f_x_together_50 N  _ _ _ _ h)
def S_x_treason : List (Nat × Nat) := [(17, 3), (17, 4), (17, 5), (17, 6), (17, 7), (18, 2), (19, 1000000), (20, 1000000), (21, 1000000), (22, 2), (22, 3), (22, 4), (22, 5), (22, 6)]
theorem f_x_treason (N : Nat) : ∀ (x1 x2 : Int) (w : aw_W) (y : Int) (v : aw_W), x_treason N x1 x2 w = some (y, v) → fr_ S_x_treason w v := by
  intro x1 x2 w y v h
  unfold x_treason at h
  obtain ⟨r1, w1, h1, h⟩ := aw_b2s h
  have c1 := (fr_r S_x_treason w).trans (fr_m (by decide) (f_x_mayPact N _ _ _ _ _ h1))
  by_cases hc : r1 = 0
  · rw [if_pos hc] at h
    cases h
    exact c1
  · rw [if_neg hc] at h
    obtain ⟨w2, h2, h⟩ := aw_b1s h
    have c2 := (c1).trans (fr_m (by decide) (f_x_Replies_best N _ _ _ h2))
    obtain ⟨r3, w3, h3, h⟩ := aw_b2s h
    have c3 := (c2).trans (fr_m (by decide) (f_x_Sale_put N _ _ _ _ h3))
    obtain ⟨w4, h4, h⟩ := aw_b1s h
    have c4 := (c3).trans (fr_m (by decide) (f_x_Replies_better N _ _ _ h4))
    cases h
    exact c4
def S_x_undo : List (Nat × Nat) := [(41, 4)]
theorem f_x_undo (N : Nat) : ∀ (w : aw_W) (y : Int) (v : aw_W), x_undo N w = some (y, v) → fr_ S_x_undo w v := by
  intro w y v h
  unfold x_undo at h
  by_cases hc : (w 41 4) = 0
  · rw [if_pos hc] at h
    cases h
    exact fr_r S_x_undo w
  · rw [if_neg hc] at h
    cases h
    exact (fr_r S_x_undo w).up (by rfl)
def S_x_Replies_rowsOfNobody : List (Nat × Nat) := [(17, 3), (17, 4), (17, 5), (17, 6), (18, 2), (19, 1000000), (20, 1000000), (21, 1000000)]
theorem f_x_Replies_rowsOfNobody_84 (N : Nat) : ∀ (x1 : Int) (w : aw_W) (y : Int) (v : aw_W), x_Replies_rowsOfNobody_84 N x1 w = some (y, v) → fr_ S_x_Replies_rowsOfNobody w v := by
  intro x1 w y v h
  unfold x_Replies_rowsOfNobody_84 at h
  cases h
  exact fr_r S_x_Replies_rowsOfNobody w
theorem f_x_Replies_rowsOfNobody_62 (N : Nat) (k33 : Int → Int → Int → aw_W → Option (Int × aw_W)) (hk33 : ∀ (x1 x2 x3 : Int) (w : aw_W) (y : Int) (v : aw_W), k33 x1 x2 x3 w = some (y, v) → fr_ S_x_Replies_rowsOfNobody w v) : ∀ (x2 x3 s0 s1 : Int) (w : aw_W) (y : Int) (v : aw_W), x_Replies_rowsOfNobody_62 N k33 x2 x3 s0 s1 w = some (y, v) → fr_ S_x_Replies_rowsOfNobody w v := by
  intro x2 x3 s0 s1 w y v h
  unfold x_Replies_rowsOfNobody_62 at h
  obtain ⟨r1, w1, h1, h⟩ := aw_b2s h
  have c1 := (fr_r S_x_Replies_rowsOfNobody w).trans (fr_m (by decide) (f_x_Land_all N _ _ _ h1))
  obtain ⟨w2, h2, h⟩ := aw_b1s h
  have c2 := (c1).trans (fr_m (by decide) (f_x_Sale_next N _ _ _ h2))
  exact (c2).trans (hk33 _ _ _ _ _ _ h)
theorem f_x_Replies_rowsOfNobody_33 (N : Nat) : ∀ (n : Nat) (x1 x2 x3 : Int) (w : aw_W) (y : Int) (v : aw_W), x_Replies_rowsOfNobody_33 N n x1 x2 x3 w = some (y, v) → fr_ S_x_Replies_rowsOfNobody w v := by
  intro n
  induction n with
  | zero => intro x1 x2 x3 w y v h; rw [x_Replies_rowsOfNobody_33] at h; cases h
  | succ n ih =>
    intro x1 x2 x3 w y v h
    rw [x_Replies_rowsOfNobody_33] at h
    by_cases hc : x2 ≤ x3
    · rw [if_pos hc] at h
      exact (fr_r S_x_Replies_rowsOfNobody w).trans (f_x_Replies_rowsOfNobody_84 N  _ _ _ _ h)
    · rw [if_neg hc] at h
      obtain ⟨w1, h1, h⟩ := aw_b1s h
      have c1 := (fr_r S_x_Replies_rowsOfNobody w).trans (fr_m (by decide) (f_x_Sale_settle N _ _ h1))
      by_cases hc : (w1 17 3) = (-1)
      · rw [if_pos hc] at h
        exact (c1).trans (f_x_Replies_rowsOfNobody_62 N  _ ih _ _ _ _ _ _ _ h)
      · rw [if_neg hc] at h
        exact (c1).trans (f_x_Replies_rowsOfNobody_62 N  _ ih _ _ _ _ _ _ _ h)
theorem f_x_Replies_rowsOfNobody (N : Nat) : ∀ (w : aw_W) (y : Int) (v : aw_W), x_Replies_rowsOfNobody N w = some (y, v) → fr_ S_x_Replies_rowsOfNobody w v := by
  intro w y v h
  unfold x_Replies_rowsOfNobody at h
  obtain ⟨r1, w1, h1, h⟩ := aw_b2s h
  have c1 := (fr_r S_x_Replies_rowsOfNobody w).trans (fr_m (by decide) (f_x_Land_all N _ _ _ h1))
  obtain ⟨w2, h2, h⟩ := aw_b1s h
  have c2 := (c1).trans (fr_m (by decide) (f_x_Sale_lowest N _ _ _ h2))
  obtain ⟨r3, w3, h3, h⟩ := aw_b2s h
  have c3 := (c2).trans (fr_m (by decide) (f_x_Land_all N _ _ _ h3))
  obtain ⟨r4, w4, h4, h⟩ := aw_b2s h
  have c4 := (c3).trans (fr_m (by decide) (f_x_Sale_rowsOf N _ _ _ _ h4))
  exact (c4).trans (f_x_Replies_rowsOfNobody_33 N  N _ _ _ _ _ _ h)
def S_x_voids : List (Nat × Nat) := [(17, 3), (17, 4), (17, 5), (17, 6), (18, 2), (19, 1000000), (20, 1000000), (21, 1000000)]
theorem f_x_voids_18 (N : Nat) : ∀ (s0 : Int) (w : aw_W) (y : Int) (v : aw_W), x_voids_18 N s0 w = some (y, v) → fr_ S_x_voids w v := by
  intro s0 w y v h
  unfold x_voids_18 at h
  cases h
  exact fr_r S_x_voids w
theorem f_x_voids (N : Nat) : ∀ (w : aw_W) (y : Int) (v : aw_W), x_voids N w = some (y, v) → fr_ S_x_voids w v := by
  intro w y v h
  unfold x_voids at h
  obtain ⟨r1, w1, h1, h⟩ := aw_b2s h
  have c1 := (fr_r S_x_voids w).trans (fr_m (by decide) (f_x_isSmall N _ _ _ h1))
  by_cases hc : r1 = 0
  · rw [if_pos hc] at h
    exact (c1).trans (f_x_voids_18 N  _ _ _ _ h)
  · rw [if_neg hc] at h
    obtain ⟨r2, w2, h2, h⟩ := aw_b2s h
    have c2 := (c1).trans (fr_m (by decide) (f_x_Replies_rowsOfNobody N _ _ _ h2))
    exact (c2).trans (f_x_voids_18 N  _ _ _ _ h)
def S_x_Waiting_turnOf : List (Nat × Nat) := []
theorem f_x_Waiting_turnOf_109 (N : Nat) : ∀ (w : aw_W) (y : Int) (v : aw_W), x_Waiting_turnOf_109 N w = some (y, v) → fr_ S_x_Waiting_turnOf w v := by
  intro w y v h
  unfold x_Waiting_turnOf_109 at h
  cases h
  exact fr_r S_x_Waiting_turnOf w
theorem f_x_Waiting_turnOf_103 (N : Nat) (k5 : Int → Int → Int → Int → aw_W → Option (Int × aw_W)) (hk5 : ∀ (x1 x2 x3 x4 : Int) (w : aw_W) (y : Int) (v : aw_W), k5 x1 x2 x3 x4 w = some (y, v) → fr_ S_x_Waiting_turnOf w v) : ∀ (x1 x2 x3 x4 : Int) (w : aw_W) (y : Int) (v : aw_W), x_Waiting_turnOf_103 N k5 x1 x2 x3 x4 w = some (y, v) → fr_ S_x_Waiting_turnOf w v := by
  intro x1 x2 x3 x4 w y v h
  unfold x_Waiting_turnOf_103 at h
  exact (fr_r S_x_Waiting_turnOf w).trans (hk5 _ _ _ _ _ _ _ h)
theorem f_x_Waiting_turnOf_91 (N : Nat) (k5 : Int → Int → Int → Int → aw_W → Option (Int × aw_W)) (hk5 : ∀ (x1 x2 x3 x4 : Int) (w : aw_W) (y : Int) (v : aw_W), k5 x1 x2 x3 x4 w = some (y, v) → fr_ S_x_Waiting_turnOf w v) : ∀ (x1 x2 x3 x4 x5 x6 : Int) (w : aw_W) (y : Int) (v : aw_W), x_Waiting_turnOf_91 N k5 x1 x2 x3 x4 x5 x6 w = some (y, v) → fr_ S_x_Waiting_turnOf w v := by
  intro x1 x2 x3 x4 x5 x6 w y v h
  unfold x_Waiting_turnOf_91 at h
  by_cases hc : x6 = 0
  · rw [if_pos hc] at h
    exact (fr_r S_x_Waiting_turnOf w).trans (f_x_Waiting_turnOf_103 N  _ hk5 _ _ _ _ _ _ _ h)
  · rw [if_neg hc] at h
    exact (fr_r S_x_Waiting_turnOf w).trans (f_x_Waiting_turnOf_103 N  _ hk5 _ _ _ _ _ _ _ h)
theorem f_x_Waiting_turnOf_88 (N : Nat) : ∀ (x4 : Int) (w : aw_W) (y : Int) (v : aw_W), x_Waiting_turnOf_88 N x4 w = some (y, v) → fr_ S_x_Waiting_turnOf w v := by
  intro x4 w y v h
  unfold x_Waiting_turnOf_88 at h
  cases h
  exact fr_r S_x_Waiting_turnOf w
theorem f_x_Waiting_turnOf_75 (N : Nat) (k5 : Int → Int → Int → Int → aw_W → Option (Int × aw_W)) (hk5 : ∀ (x1 x2 x3 x4 : Int) (w : aw_W) (y : Int) (v : aw_W), k5 x1 x2 x3 x4 w = some (y, v) → fr_ S_x_Waiting_turnOf w v) : ∀ (x1 x2 x3 x4 x5 s0 : Int) (w : aw_W) (y : Int) (v : aw_W), x_Waiting_turnOf_75 N k5 x1 x2 x3 x4 x5 s0 w = some (y, v) → fr_ S_x_Waiting_turnOf w v := by
  intro x1 x2 x3 x4 x5 s0 w y v h
  unfold x_Waiting_turnOf_75 at h
  by_cases hc : s0 = 0
  · rw [if_pos hc] at h
    exact (fr_r S_x_Waiting_turnOf w).trans (f_x_Waiting_turnOf_91 N  _ hk5 _ _ _ _ _ _ _ _ _ h)
  · rw [if_neg hc] at h
    by_cases hc : x5 = x2
    · rw [if_pos hc] at h
      exact (fr_r S_x_Waiting_turnOf w).trans (f_x_Waiting_turnOf_88 N  _ _ _ _ h)
    · rw [if_neg hc] at h
      exact (fr_r S_x_Waiting_turnOf w).trans (f_x_Waiting_turnOf_91 N  _ hk5 _ _ _ _ _ _ _ _ _ h)
theorem f_x_Waiting_turnOf_5 (N : Nat) : ∀ (n : Nat) (x1 x2 x3 x4 : Int) (w : aw_W) (y : Int) (v : aw_W), x_Waiting_turnOf_5 N n x1 x2 x3 x4 w = some (y, v) → fr_ S_x_Waiting_turnOf w v := by
  intro n
  induction n with
  | zero => intro x1 x2 x3 x4 w y v h; rw [x_Waiting_turnOf_5] at h; cases h
  | succ n ih =>
    intro x1 x2 x3 x4 w y v h
    rw [x_Waiting_turnOf_5] at h
    by_cases hc : x1 ≤ x4
    · rw [if_pos hc] at h
      exact (fr_r S_x_Waiting_turnOf w).trans (f_x_Waiting_turnOf_109 N  _ _ _ h)
    · rw [if_neg hc] at h
      by_cases hc : 60 ≤ x4
      · rw [if_pos hc] at h
        exact (fr_r S_x_Waiting_turnOf w).trans (f_x_Waiting_turnOf_109 N  _ _ _ h)
      · rw [if_neg hc] at h
        by_cases hc : (w 3 4) ≤ 0
        · rw [if_pos hc] at h
          exact (fr_r S_x_Waiting_turnOf w).trans (f_x_Waiting_turnOf_109 N  _ _ _ h)
        · rw [if_neg hc] at h
          obtain ⟨_, h⟩ := aw_cks h
          by_cases hc : x3 = 0
          · rw [if_pos hc] at h
            obtain ⟨_, h⟩ := aw_cks h
            exact (fr_r S_x_Waiting_turnOf w).trans (f_x_Waiting_turnOf_75 N  _ ih _ _ _ _ _ _ _ _ _ h)
          · rw [if_neg hc] at h
            obtain ⟨_, h⟩ := aw_cks h
            by_cases hc : (aw_cmpL (aw_andL (aw_ushrL (w 36 x4.toNat) x3) 1) 0) = 0
            · rw [if_pos hc] at h
              exact (fr_r S_x_Waiting_turnOf w).trans (f_x_Waiting_turnOf_75 N  _ ih _ _ _ _ _ _ _ _ _ h)
            · rw [if_neg hc] at h
              exact (fr_r S_x_Waiting_turnOf w).trans (f_x_Waiting_turnOf_75 N  _ ih _ _ _ _ _ _ _ _ _ h)
theorem f_x_Waiting_turnOf (N : Nat) : ∀ (x1 x2 : Int) (w : aw_W) (y : Int) (v : aw_W), x_Waiting_turnOf N x1 x2 w = some (y, v) → fr_ S_x_Waiting_turnOf w v := by
  intro x1 x2 w y v h
  unfold x_Waiting_turnOf at h
  exact (fr_r S_x_Waiting_turnOf w).trans (f_x_Waiting_turnOf_5 N  N _ _ _ _ _ _ _ h)
