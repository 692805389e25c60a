def S_x_Replies_nearest : List (Nat × Nat) := [(17, 3), (17, 4), (17, 5), (17, 6), (18, 2), (19, 1000000), (20, 1000000), (21, 1000000)]
theorem f_x_Replies_nearest_93 (N : Nat) : ∀ (x1 x2 x3 : Int) (w : aw_W) (y : Int) (v : aw_W), x_Replies_nearest_93 N x1 x2 x3 w = some (y, v) → fr_ S_x_Replies_nearest w v := by
  intro x1 x2 x3 w y v h
  unfold x_Replies_nearest_93 at h
  obtain ⟨_, h⟩ := aw_cks h
  cases h
  exact (fr_r S_x_Replies_nearest w).upA (by rfl)
theorem f_x_Replies_nearest_87 (N : Nat) (k15 : Int → Int → Int → Int → aw_W → Option (Int × aw_W)) (hk15 : ∀ (x1 x2 x3 x4 : Int) (w : aw_W) (y : Int) (v : aw_W), k15 x1 x2 x3 x4 w = some (y, v) → fr_ S_x_Replies_nearest w v) : ∀ (x1 x2 x3 x4 : Int) (w : aw_W) (y : Int) (v : aw_W), x_Replies_nearest_87 N k15 x1 x2 x3 x4 w = some (y, v) → fr_ S_x_Replies_nearest w v := by
  intro x1 x2 x3 x4 w y v h
  unfold x_Replies_nearest_87 at h
  exact (fr_r S_x_Replies_nearest w).trans (hk15 _ _ _ _ _ _ _ h)
theorem f_x_Replies_nearest_84 (N : Nat) (k15 : Int → Int → Int → Int → aw_W → Option (Int × aw_W)) (hk15 : ∀ (x1 x2 x3 x4 : Int) (w : aw_W) (y : Int) (v : aw_W), k15 x1 x2 x3 x4 w = some (y, v) → fr_ S_x_Replies_nearest w v) : ∀ (x1 x2 x4 : Int) (w : aw_W) (y : Int) (v : aw_W), x_Replies_nearest_84 N k15 x1 x2 x4 w = some (y, v) → fr_ S_x_Replies_nearest w v := by
  intro x1 x2 x4 w y v h
  unfold x_Replies_nearest_84 at h
  exact (fr_r S_x_Replies_nearest w).trans (f_x_Replies_nearest_87 N  _ hk15 _ _ _ _ _ _ _ h)
theorem f_x_Replies_nearest_56 (N : Nat) (k15 : Int → Int → Int → Int → aw_W → Option (Int × aw_W)) (hk15 : ∀ (x1 x2 x3 x4 : Int) (w : aw_W) (y : Int) (v : aw_W), k15 x1 x2 x3 x4 w = some (y, v) → fr_ S_x_Replies_nearest w v) : ∀ (x1 x2 x3 x4 s0 : Int) (w : aw_W) (y : Int) (v : aw_W), x_Replies_nearest_56 N k15 x1 x2 x3 x4 s0 w = some (y, v) → fr_ S_x_Replies_nearest w v := by
  intro x1 x2 x3 x4 s0 w y v h
  unfold x_Replies_nearest_56 at h
  by_cases hc : s0 = 0
  · rw [if_pos hc] at h
    exact (fr_r S_x_Replies_nearest w).trans (f_x_Replies_nearest_87 N  _ hk15 _ _ _ _ _ _ _ h)
  · rw [if_neg hc] at h
    by_cases hc : x3 = (-1)
    · rw [if_pos hc] at h
      exact (fr_r S_x_Replies_nearest w).trans (f_x_Replies_nearest_84 N  _ hk15 _ _ _ _ _ _ h)
    · rw [if_neg hc] at h
      by_cases hc : (aw_ab (aw_w (x3 - x2))) ≤ (aw_ab (aw_w (x4 - x2)))
      · rw [if_pos hc] at h
        exact (fr_r S_x_Replies_nearest w).trans (f_x_Replies_nearest_87 N  _ hk15 _ _ _ _ _ _ _ h)
      · rw [if_neg hc] at h
        exact (fr_r S_x_Replies_nearest w).trans (f_x_Replies_nearest_84 N  _ hk15 _ _ _ _ _ _ h)
theorem f_x_Replies_nearest_15 (N : Nat) : ∀ (n : Nat) (x1 x2 x3 x4 : Int) (w : aw_W) (y : Int) (v : aw_W), x_Replies_nearest_15 N n x1 x2 x3 x4 w = some (y, v) → fr_ S_x_Replies_nearest w v := by
  intro n
  induction n with
  | zero => intro x1 x2 x3 x4 w y v h; rw [x_Replies_nearest_15] at h; cases h
  | succ n ih =>
    intro x1 x2 x3 x4 w y v h
    rw [x_Replies_nearest_15] at h
    by_cases hc : (w 5 4) < x4
    · rw [if_pos hc] at h
      exact (fr_r S_x_Replies_nearest w).trans (f_x_Replies_nearest_93 N  _ _ _ _ _ _ h)
    · rw [if_neg hc] at h
      obtain ⟨r1, w1, h1, h⟩ := aw_b2s h
      have c1 := (fr_r S_x_Replies_nearest w).trans (fr_m (by decide) (f_x_Sale_gainWith N _ _ _ _ _ h1))
      by_cases hc : (w1 17 3) = x1
      · rw [if_pos hc] at h
        exact (c1).trans (f_x_Replies_nearest_56 N  _ ih _ _ _ _ _ _ _ _ h)
      · rw [if_neg hc] at h
        exact (c1).trans (f_x_Replies_nearest_56 N  _ ih _ _ _ _ _ _ _ _ h)
theorem f_x_Replies_nearest (N : Nat) : ∀ (x1 : Int) (w : aw_W) (y : Int) (v : aw_W), x_Replies_nearest N x1 w = some (y, v) → fr_ S_x_Replies_nearest w v := by
  intro x1 w y v h
  unfold x_Replies_nearest at h
  obtain ⟨_, h⟩ := aw_cks h
  exact (fr_r S_x_Replies_nearest w).trans (f_x_Replies_nearest_15 N  N _ _ _ _ _ _ _ h)
def S_x_Replies_couldHave : List (Nat × Nat) := [(17, 3), (17, 4), (17, 5), (17, 6), (18, 2), (19, 1000000), (20, 1000000), (21, 1000000)]
theorem f_x_Replies_couldHave_53 (N : Nat) : ∀ (x2 : Int) (w : aw_W) (y : Int) (v : aw_W), x_Replies_couldHave_53 N x2 w = some (y, v) → fr_ S_x_Replies_couldHave w v := by
  intro x2 w y v h
  unfold x_Replies_couldHave_53 at h
  cases h
  exact fr_r S_x_Replies_couldHave w
theorem f_x_Replies_couldHave_47 (N : Nat) (k19 : Int → Int → Int → aw_W → Option (Int × aw_W)) (hk19 : ∀ (x1 x2 x3 : Int) (w : aw_W) (y : Int) (v : aw_W), k19 x1 x2 x3 w = some (y, v) → fr_ S_x_Replies_couldHave w v) : ∀ (x1 x2 x3 : Int) (w : aw_W) (y : Int) (v : aw_W), x_Replies_couldHave_47 N k19 x1 x2 x3 w = some (y, v) → fr_ S_x_Replies_couldHave w v := by
  intro x1 x2 x3 w y v h
  unfold x_Replies_couldHave_47 at h
  exact (fr_r S_x_Replies_couldHave w).trans (hk19 _ _ _ _ _ _ h)
theorem f_x_Replies_couldHave_19 (N : Nat) : ∀ (n : Nat) (x1 x2 x3 : Int) (w : aw_W) (y : Int) (v : aw_W), x_Replies_couldHave_19 N n x1 x2 x3 w = some (y, v) → fr_ S_x_Replies_couldHave w v := by
  intro n
  induction n with
  | zero => intro x1 x2 x3 w y v h; rw [x_Replies_couldHave_19] at h; cases h
  | succ n ih =>
    intro x1 x2 x3 w y v h
    rw [x_Replies_couldHave_19] at h
    by_cases hc : (w 3 4) ≤ x3
    · rw [if_pos hc] at h
      exact (fr_r S_x_Replies_couldHave w).trans (f_x_Replies_couldHave_53 N  _ _ _ _ h)
    · rw [if_neg hc] at h
      by_cases hc : x3 = x1
      · rw [if_pos hc] at h
        exact (fr_r S_x_Replies_couldHave w).trans (f_x_Replies_couldHave_47 N  _ ih _ _ _ _ _ _ h)
      · rw [if_neg hc] at h
        obtain ⟨r1, w1, h1, h⟩ := aw_b2s h
        have c1 := (fr_r S_x_Replies_couldHave w).trans (fr_m (by decide) (f_x_Replies_nearest N _ _ _ _ h1))
        by_cases hc : r1 = (-1)
        · rw [if_pos hc] at h
          exact (c1).trans (f_x_Replies_couldHave_47 N  _ ih _ _ _ _ _ _ h)
        · rw [if_neg hc] at h
          exact (c1).trans (f_x_Replies_couldHave_47 N  _ ih _ _ _ _ _ _ h)
theorem f_x_Replies_couldHave (N : Nat) : ∀ (w : aw_W) (y : Int) (v : aw_W), x_Replies_couldHave N w = some (y, v) → fr_ S_x_Replies_couldHave w v := by
  intro w y v h
  unfold x_Replies_couldHave at h
  obtain ⟨w1, h1, h⟩ := aw_b1s h
  have c1 := (fr_r S_x_Replies_couldHave w).trans (fr_m (by decide) (f_x_Sale_settle N _ _ h1))
  exact (c1).trans (f_x_Replies_couldHave_19 N  N _ _ _ _ _ _ h)
def S_x_changes : List (Nat × Nat) := [(17, 3), (17, 4), (17, 5), (17, 6), (18, 2), (19, 1000000), (20, 1000000), (21, 1000000)]
theorem f_x_changes_22 (N : Nat) : ∀ (s0 : Int) (w : aw_W) (y : Int) (v : aw_W), x_changes_22 N s0 w = some (y, v) → fr_ S_x_changes w v := by
  intro s0 w y v h
  unfold x_changes_22 at h
  cases h
  exact fr_r S_x_changes w
theorem f_x_changes (N : Nat) : ∀ (x1 : Int) (w : aw_W) (y : Int) (v : aw_W), x_changes N x1 w = some (y, v) → fr_ S_x_changes w v := by
  intro x1 w y v h
  unfold x_changes at h
  obtain ⟨r1, w1, h1, h⟩ := aw_b2s h
  have c1 := (fr_r S_x_changes w).trans (fr_m (by decide) (f_x_Sale_take N _ _ _ _ h1))
  by_cases hc : r1 = 0
  · rw [if_pos hc] at h
    exact (c1).trans (f_x_changes_22 N  _ _ _ _ h)
  · rw [if_neg hc] at h
    obtain ⟨r2, w2, h2, h⟩ := aw_b2s h
    have c2 := (c1).trans (fr_m (by decide) (f_x_Replies_couldHave N _ _ _ h2))
    exact (c2).trans (f_x_changes_22 N  _ _ _ _ h)
def S_x_Order_clear_27 : List (Nat × Nat) := [(27, 2)]
theorem f_x_Order_clear_27 (N : Nat) : ∀ (w v : aw_W), x_Order_clear_27 N w = some v → fr_ S_x_Order_clear_27 w v := by
  intro w v h
  unfold x_Order_clear_27 at h
  cases h
  exact (fr_r S_x_Order_clear_27 w).up (by rfl)
def S_x_Order_enter_27 : List (Nat × Nat) := [(27, 2), (28, 1000000), (29, 1000000)]
theorem f_x_Order_enter_27_68 (N : Nat) : ∀ (x1 x2 x3 : Int) (w v : aw_W), x_Order_enter_27_68 N x1 x2 x3 w = some v → fr_ S_x_Order_enter_27 w v := by
  intro x1 x2 x3 w v h
  unfold x_Order_enter_27_68 at h
  obtain ⟨_, h⟩ := aw_cks h
  obtain ⟨_, h⟩ := aw_cks h
  cases h
  exact (((fr_r S_x_Order_enter_27 w).upA (by rfl)).upA (by rfl)).up (by rfl)
theorem f_x_Order_enter_27_18 (N : Nat) : ∀ (n : Nat) (x1 x2 x3 : Int) (w v : aw_W), x_Order_enter_27_18 N n x1 x2 x3 w = some v → fr_ S_x_Order_enter_27 w v := by
  intro n
  induction n with
  | zero => intro x1 x2 x3 w v h; rw [x_Order_enter_27_18] at h; cases h
  | succ n ih =>
    intro x1 x2 x3 w v h
    rw [x_Order_enter_27_18] at h
    by_cases hc : x3 ≤ 0
    · rw [if_pos hc] at h
      exact (fr_r S_x_Order_enter_27 w).trans (f_x_Order_enter_27_68 N  _ _ _ _ _ h)
    · rw [if_neg hc] at h
      obtain ⟨_, h⟩ := aw_cks h
      by_cases hc : x2 ≤ (w 29 ((aw_w (x3 - 1)).toNat))
      · rw [if_pos hc] at h
        exact (fr_r S_x_Order_enter_27 w).trans (f_x_Order_enter_27_68 N  _ _ _ _ _ h)
      · rw [if_neg hc] at h
        obtain ⟨_, h⟩ := aw_cks h
        obtain ⟨_, h⟩ := aw_cks h
        obtain ⟨_, h⟩ := aw_cks h
        obtain ⟨_, h⟩ := aw_cks h
        exact (((fr_r S_x_Order_enter_27 w).upA (by rfl)).upA (by rfl)).trans (ih _ _ _ _ _ h)
theorem f_x_Order_enter_27 (N : Nat) : ∀ (x1 x2 : Int) (w v : aw_W), x_Order_enter_27 N x1 x2 w = some v → fr_ S_x_Order_enter_27 w v := by
  intro x1 x2 w v h
  unfold x_Order_enter_27 at h
  by_cases hc : (w 27 2) < 6
  · rw [if_pos hc] at h
    exact (fr_r S_x_Order_enter_27 w).trans (f_x_Order_enter_27_18 N  N _ _ _ _ _ h)
  · rw [if_neg hc] at h
    cases h
    exact fr_r S_x_Order_enter_27 w
def S_x_Race_rank : List (Nat × Nat) := [(27, 2), (28, 1000000), (29, 1000000)]
theorem f_x_Race_rank_51 (N : Nat) : ∀ (w v : aw_W), x_Race_rank_51 N w = some v → fr_ S_x_Race_rank w v := by
  intro w v h
  unfold x_Race_rank_51 at h
  cases h
  exact fr_r S_x_Race_rank w
theorem f_x_Race_rank_45 (N : Nat) (k9 : Int → aw_W → Option (aw_W)) (hk9 : ∀ (x1 : Int) (w v : aw_W), k9 x1 w = some v → fr_ S_x_Race_rank w v) : ∀ (x1 : Int) (w v : aw_W), x_Race_rank_45 N k9 x1 w = some v → fr_ S_x_Race_rank w v := by
  intro x1 w v h
  unfold x_Race_rank_45 at h
  exact (fr_r S_x_Race_rank w).trans (hk9 _ _ _ h)
theorem f_x_Race_rank_9 (N : Nat) : ∀ (n : Nat) (x1 : Int) (w v : aw_W), x_Race_rank_9 N n x1 w = some v → fr_ S_x_Race_rank w v := by
  intro n
  induction n with
  | zero => intro x1 w v h; rw [x_Race_rank_9] at h; cases h
  | succ n ih =>
    intro x1 w v h
    rw [x_Race_rank_9] at h
    by_cases hc : (w 3 4) ≤ x1
    · rw [if_pos hc] at h
      exact (fr_r S_x_Race_rank w).trans (f_x_Race_rank_51 N  _ _ h)
    · rw [if_neg hc] at h
      obtain ⟨_, h⟩ := aw_cks h
      by_cases hc : (w 32 x1.toNat) = (-1)
      · rw [if_pos hc] at h
        exact (fr_r S_x_Race_rank w).trans (f_x_Race_rank_45 N  _ ih _ _ _ h)
      · rw [if_neg hc] at h
        obtain ⟨_, h⟩ := aw_cks h
        obtain ⟨w1, h1, h⟩ := aw_b1s h
        have c1 := (fr_r S_x_Race_rank w).trans (fr_m (by decide) (f_x_Order_enter_27 N _ _ _ _ h1))
        exact (c1).trans (f_x_Race_rank_45 N  _ ih _ _ _ h)
theorem f_x_Race_rank (N : Nat) : ∀ (w v : aw_W), x_Race_rank N w = some v → fr_ S_x_Race_rank w v := by
  intro w v h
  unfold x_Race_rank at h
  obtain ⟨w1, h1, h⟩ := aw_b1s h
  have c1 := (fr_r S_x_Race_rank w).trans (fr_m (by decide) (f_x_Order_clear_27 N _ _ h1))
  exact (c1).trans (f_x_Race_rank_9 N  N _ _ _ h)
def S_x_Order_alike_27 : List (Nat × Nat) := []
theorem f_x_Order_alike_27_32 (N : Nat) : ∀ (s0 : Int) (w : aw_W) (y : Int) (v : aw_W), x_Order_alike_27_32 N s0 w = some (y, v) → fr_ S_x_Order_alike_27 w v := by
  intro s0 w y v h
  unfold x_Order_alike_27_32 at h
  obtain ⟨_, h⟩ := aw_cks h
  cases h
  exact fr_r S_x_Order_alike_27 w
theorem f_x_Order_alike_27_31 (N : Nat) : ∀ (w : aw_W) (y : Int) (v : aw_W), x_Order_alike_27_31 N w = some (y, v) → fr_ S_x_Order_alike_27 w v := by
  intro w y v h
  unfold x_Order_alike_27_31 at h
  exact (fr_r S_x_Order_alike_27 w).trans (f_x_Order_alike_27_32 N  _ _ _ _ h)
theorem f_x_Order_alike_27 (N : Nat) : ∀ (x1 x2 : Int) (w : aw_W) (y : Int) (v : aw_W), x_Order_alike_27 N x1 x2 w = some (y, v) → fr_ S_x_Order_alike_27 w v := by
  intro x1 x2 w y v h
  unfold x_Order_alike_27 at h
  by_cases hc : x1 < 0
  · rw [if_pos hc] at h
    exact (fr_r S_x_Order_alike_27 w).trans (f_x_Order_alike_27_31 N  _ _ _ h)
  · rw [if_neg hc] at h
    by_cases hc : (w 27 2) ≤ x2
    · rw [if_pos hc] at h
      exact (fr_r S_x_Order_alike_27 w).trans (f_x_Order_alike_27_31 N  _ _ _ h)
    · rw [if_neg hc] at h
      obtain ⟨_, h⟩ := aw_cks h
      obtain ⟨_, h⟩ := aw_cks h
      by_cases hc : (w 29 x1.toNat) = (w 29 x2.toNat)
      · rw [if_pos hc] at h
        exact (fr_r S_x_Order_alike_27 w).trans (f_x_Order_alike_27_32 N  _ _ _ _ h)
      · rw [if_neg hc] at h
        exact (fr_r S_x_Order_alike_27 w).trans (f_x_Order_alike_27_31 N  _ _ _ h)
def S_x_Order_holder_27 : List (Nat × Nat) := []
theorem f_x_Order_holder_27_16 (N : Nat) : ∀ (w : aw_W) (y : Int) (v : aw_W), x_Order_holder_27_16 N w = some (y, v) → fr_ S_x_Order_holder_27 w v := by
  intro w y v h
  unfold x_Order_holder_27_16 at h
  cases h
  exact fr_r S_x_Order_holder_27 w
theorem f_x_Order_holder_27_55 (N : Nat) : ∀ (s0 : Int) (w : aw_W) (y : Int) (v : aw_W), x_Order_holder_27_55 N s0 w = some (y, v) → fr_ S_x_Order_holder_27 w v := by
  intro s0 w y v h
  unfold x_Order_holder_27_55 at h
  cases h
  exact fr_r S_x_Order_holder_27 w
theorem f_x_Order_holder_27_49 (N : Nat) : ∀ (x3 : Int) (w : aw_W) (y : Int) (v : aw_W), x_Order_holder_27_49 N x3 w = some (y, v) → fr_ S_x_Order_holder_27 w v := by
  intro x3 w y v h
  unfold x_Order_holder_27_49 at h
  obtain ⟨_, h⟩ := aw_cks h
  exact (fr_r S_x_Order_holder_27 w).trans (f_x_Order_holder_27_55 N  _ _ _ _ h)
theorem f_x_Order_holder_27_45 (N : Nat) : ∀ (w : aw_W) (y : Int) (v : aw_W), x_Order_holder_27_45 N w = some (y, v) → fr_ S_x_Order_holder_27 w v := by
  intro w y v h
  unfold x_Order_holder_27_45 at h
  exact (fr_r S_x_Order_holder_27 w).trans (f_x_Order_holder_27_55 N  _ _ _ _ h)
theorem f_x_Order_holder_27 (N : Nat) : ∀ (x1 x2 : Int) (w : aw_W) (y : Int) (v : aw_W), x_Order_holder_27 N x1 x2 w = some (y, v) → fr_ S_x_Order_holder_27 w v := by
  intro x1 x2 w y v h
  unfold x_Order_holder_27 at h
  by_cases hc : (aw_w (x1 - 1)) < 0
  · rw [if_pos hc] at h
    exact (fr_r S_x_Order_holder_27 w).trans (f_x_Order_holder_27_16 N  _ _ _ h)
  · rw [if_neg hc] at h
    by_cases hc : (aw_w (x1 - 1)) < (w 27 2)
    · rw [if_pos hc] at h
      by_cases hc : x2 = 1
      · rw [if_pos hc] at h
        obtain ⟨r1, w1, h1, h⟩ := aw_b2s h
        have c1 := (fr_r S_x_Order_holder_27 w).trans (fr_m (by decide) (f_x_Order_alike_27 N _ _ _ _ _ h1))
        by_cases hc : r1 = 0
        · rw [if_pos hc] at h
          obtain ⟨r2, w2, h2, h⟩ := aw_b2s h
          have c2 := (c1).trans (fr_m (by decide) (f_x_Order_alike_27 N _ _ _ _ _ h2))
          by_cases hc : r2 = 0
          · rw [if_pos hc] at h
            exact (c2).trans (f_x_Order_holder_27_49 N  _ _ _ _ h)
          · rw [if_neg hc] at h
            exact (c2).trans (f_x_Order_holder_27_45 N  _ _ _ h)
        · rw [if_neg hc] at h
          exact (c1).trans (f_x_Order_holder_27_45 N  _ _ _ h)
      · rw [if_neg hc] at h
        exact (fr_r S_x_Order_holder_27 w).trans (f_x_Order_holder_27_49 N  _ _ _ _ h)
    · rw [if_neg hc] at h
      exact (fr_r S_x_Order_holder_27 w).trans (f_x_Order_holder_27_16 N  _ _ _ h)
def S_x_Race_holder : List (Nat × Nat) := [(27, 2), (28, 1000000), (29, 1000000)]
theorem f_x_Race_holder (N : Nat) : ∀ (w : aw_W) (y : Int) (v : aw_W), x_Race_holder N w = some (y, v) → fr_ S_x_Race_holder w v := by
  intro w y v h
  unfold x_Race_holder at h
  obtain ⟨w1, h1, h⟩ := aw_b1s h
  have c1 := (fr_r S_x_Race_holder w).trans (fr_m (by decide) (f_x_Race_rank N _ _ h1))
  obtain ⟨r2, w2, h2, h⟩ := aw_b2s h
  have c2 := (c1).trans (fr_m (by decide) (f_x_Order_holder_27 N _ _ _ _ _ h2))
  cases h
  exact c2
def S_x_holderWith : List (Nat × Nat) := [(15, 1000000), (16, 1000000), (26, 7), (26, 8), (27, 2), (28, 1000000), (29, 1000000), (30, 1000000), (31, 1000000), (32, 1000000), (33, 1000000)]
theorem f_x_holderWith (N : Nat) : ∀ (x1 x2 x3 x4 : Int) (w : aw_W) (y : Int) (v : aw_W), x_holderWith N x1 x2 x3 x4 w = some (y, v) → fr_ S_x_holderWith w v := by
  intro x1 x2 x3 x4 w y v h
  unfold x_holderWith at h
  obtain ⟨w1, h1, h⟩ := aw_b1s h
  have c1 := (fr_r S_x_holderWith w).trans (fr_m (by decide) (f_x_Race_rulesAsTold N _ _ h1))
  obtain ⟨_, h⟩ := aw_cks h
  obtain ⟨w2, h2, h⟩ := aw_b1s h
  have c2 := ((c1).upA (by rfl)).trans (fr_m (by decide) (f_x_Race_go N _ _ _ _ _ h2))
  obtain ⟨r3, w3, h3, h⟩ := aw_b2s h
  have c3 := (c2).trans (fr_m (by decide) (f_x_Race_holder N _ _ _ h3))
  cases h
  exact c3
def S_x_choice : List (Nat × Nat) := [(15, 1000000), (16, 1000000), (26, 7), (26, 8), (27, 2), (28, 1000000), (29, 1000000), (30, 1000000), (31, 1000000), (32, 1000000), (33, 1000000)]
theorem f_x_choice_19 (N : Nat) : ∀ (w : aw_W) (y : Int) (v : aw_W), x_choice_19 N w = some (y, v) → fr_ S_x_choice w v := by
  intro w y v h
  unfold x_choice_19 at h
  cases h
  exact fr_r S_x_choice w
theorem f_x_choice_59 (N : Nat) : ∀ (w : aw_W) (y : Int) (v : aw_W), x_choice_59 N w = some (y, v) → fr_ S_x_choice w v := by
  intro w y v h
  unfold x_choice_59 at h
  cases h
  exact fr_r S_x_choice w
theorem f_x_choice_50 (N : Nat) : ∀ (x4 : Int) (w : aw_W) (y : Int) (v : aw_W), x_choice_50 N x4 w = some (y, v) → fr_ S_x_choice w v := by
  intro x4 w y v h
  unfold x_choice_50 at h
  cases h
  exact fr_r S_x_choice w
theorem f_x_choice_25 (N : Nat) : ∀ (n : Nat) (x1 x2 x3 x4 : Int) (w : aw_W) (y : Int) (v : aw_W), x_choice_25 N n x1 x2 x3 x4 w = some (y, v) → fr_ S_x_choice w v := by
  intro n
  induction n with
  | zero => intro x1 x2 x3 x4 w y v h; rw [x_choice_25] at h; cases h
  | succ n ih =>
    intro x1 x2 x3 x4 w y v h
    rw [x_choice_25] at h
    by_cases hc : (w 11 6) ≤ x4
    · rw [if_pos hc] at h
      exact (fr_r S_x_choice w).trans (f_x_choice_59 N  _ _ _ h)
    · rw [if_neg hc] at h
      obtain ⟨r1, w1, h1, h⟩ := aw_b2s h
      have c1 := (fr_r S_x_choice w).trans (fr_m (by decide) (f_x_holderWith N _ _ _ _ _ _ _ h1))
      by_cases hc : r1 = x3
      · rw [if_pos hc] at h
        exact (c1).trans (f_x_choice_50 N  _ _ _ _ h)
      · rw [if_neg hc] at h
        exact (c1).trans (ih _ _ _ _ _ _ _ h)
theorem f_x_choice (N : Nat) : ∀ (x1 x2 x3 : Int) (w : aw_W) (y : Int) (v : aw_W), x_choice N x1 x2 x3 w = some (y, v) → fr_ S_x_choice w v := by
  intro x1 x2 x3 w y v h
  unfold x_choice at h
  obtain ⟨r1, w1, h1, h⟩ := aw_b2s h
  have c1 := (fr_r S_x_choice w).trans (fr_m (by decide) (f_x_Land_holds N _ _ _ _ h1))
  by_cases hc : r1 = 0
  · rw [if_pos hc] at h
    exact (c1).trans (f_x_choice_19 N  _ _ _ h)
  · rw [if_neg hc] at h
    obtain ⟨r2, w2, h2, h⟩ := aw_b2s h
    have c2 := (c1).trans (fr_m (by decide) (f_x_mayRun N _ _ _ _ _ h2))
    by_cases hc : r2 = 0
    · rw [if_pos hc] at h
      exact (c2).trans (f_x_choice_19 N  _ _ _ h)
    · rw [if_neg hc] at h
      exact (c2).trans (f_x_choice_25 N  N _ _ _ _ _ _ _ h)
def S_x_count : List (Nat × Nat) := []
theorem f_x_count (N : Nat) : ∀ (x1 : Int) (w : aw_W) (y : Int) (v : aw_W), x_count N x1 w = some (y, v) → fr_ S_x_count w v := by
  intro x1 w y v h
  unfold x_count at h
  by_cases hc : x1 = 0
  · rw [if_pos hc] at h
    cases h
    exact fr_r S_x_count w
  · rw [if_neg hc] at h
    by_cases hc : x1 = 1
    · rw [if_pos hc] at h
      cases h
      exact fr_r S_x_count w
    · rw [if_neg hc] at h
      by_cases hc : x1 = 2
      · rw [if_pos hc] at h
        cases h
        exact fr_r S_x_count w
      · rw [if_neg hc] at h
        by_cases hc : x1 = 3
        · rw [if_pos hc] at h
          cases h
          exact fr_r S_x_count w
        · rw [if_neg hc] at h
          cases h
          exact fr_r S_x_count w
def S_x_Sale_bestBid : List (Nat × Nat) := [(17, 3), (17, 4), (17, 5), (17, 6), (17, 7), (18, 2), (19, 1000000), (20, 1000000), (21, 1000000)]
theorem f_x_Sale_bestBid_74 (N : Nat) : ∀ (x1 x2 x3 : Int) (w : aw_W) (y : Int) (v : aw_W), x_Sale_bestBid_74 N x1 x2 x3 w = some (y, v) → fr_ S_x_Sale_bestBid w v := by
  intro x1 x2 x3 w y v h
  unfold x_Sale_bestBid_74 at h
  obtain ⟨_, h⟩ := aw_cks h
  cases h
  exact (fr_r S_x_Sale_bestBid w).upA (by rfl)
theorem f_x_Sale_bestBid_68 (N : Nat) (k12 : Int → Int → Int → Int → aw_W → Option (Int × aw_W)) (hk12 : ∀ (x1 x2 x3 x4 : Int) (w : aw_W) (y : Int) (v : aw_W), k12 x1 x2 x3 x4 w = some (y, v) → fr_ S_x_Sale_bestBid w v) : ∀ (x1 x2 x3 x4 : Int) (w : aw_W) (y : Int) (v : aw_W), x_Sale_bestBid_68 N k12 x1 x2 x3 x4 w = some (y, v) → fr_ S_x_Sale_bestBid w v := by
  intro x1 x2 x3 x4 w y v h
  unfold x_Sale_bestBid_68 at h
  exact (fr_r S_x_Sale_bestBid w).trans (hk12 _ _ _ _ _ _ _ h)
theorem f_x_Sale_bestBid_59 (N : Nat) (k12 : Int → Int → Int → Int → aw_W → Option (Int × aw_W)) (hk12 : ∀ (x1 x2 x3 x4 : Int) (w : aw_W) (y : Int) (v : aw_W), k12 x1 x2 x3 x4 w = some (y, v) → fr_ S_x_Sale_bestBid w v) : ∀ (x1 x2 x4 x5 : Int) (w : aw_W) (y : Int) (v : aw_W), x_Sale_bestBid_59 N k12 x1 x2 x4 x5 w = some (y, v) → fr_ S_x_Sale_bestBid w v := by
  intro x1 x2 x4 x5 w y v h
  unfold x_Sale_bestBid_59 at h
  exact ((fr_r S_x_Sale_bestBid w).up (by rfl)).trans (f_x_Sale_bestBid_68 N  _ hk12 _ _ _ _ _ _ _ h)
theorem f_x_Sale_bestBid_12 (N : Nat) : ∀ (n : Nat) (x1 x2 x3 x4 : Int) (w : aw_W) (y : Int) (v : aw_W), x_Sale_bestBid_12 N n x1 x2 x3 x4 w = some (y, v) → fr_ S_x_Sale_bestBid w v := by
  intro n
  induction n with
  | zero => intro x1 x2 x3 x4 w y v h; rw [x_Sale_bestBid_12] at h; cases h
  | succ n ih =>
    intro x1 x2 x3 x4 w y v h
    rw [x_Sale_bestBid_12] at h
    by_cases hc : (w 5 4) < x4
    · rw [if_pos hc] at h
      exact (fr_r S_x_Sale_bestBid w).trans (f_x_Sale_bestBid_74 N  _ _ _ _ _ _ h)
    · rw [if_neg hc] at h
      obtain ⟨_, h⟩ := aw_cks h
      obtain ⟨w1, h1, h⟩ := aw_b1s h
      have c1 := ((fr_r S_x_Sale_bestBid w).upA (by rfl)).trans (fr_m (by decide) (f_x_Sale_settle N _ _ h1))
      obtain ⟨r2, w2, h2, h⟩ := aw_b2s h
      have c2 := (c1).trans (fr_m (by decide) (f_x_Sale_gainOf N _ _ _ _ h2))
      by_cases hc : x4 = 0
      · rw [if_pos hc] at h
        exact (c2).trans (f_x_Sale_bestBid_59 N  _ ih _ _ _ _ _ _ _ h)
      · rw [if_neg hc] at h
        by_cases hc : r2 ≤ (w2 17 7)
        · rw [if_pos hc] at h
          exact (c2).trans (f_x_Sale_bestBid_68 N  _ ih _ _ _ _ _ _ _ h)
        · rw [if_neg hc] at h
          exact (c2).trans (f_x_Sale_bestBid_59 N  _ ih _ _ _ _ _ _ _ h)
theorem f_x_Sale_bestBid (N : Nat) : ∀ (x1 : Int) (w : aw_W) (y : Int) (v : aw_W), x_Sale_bestBid N x1 w = some (y, v) → fr_ S_x_Sale_bestBid w v := by
  intro x1 w y v h
  unfold x_Sale_bestBid at h
  obtain ⟨_, h⟩ := aw_cks h
  exact (fr_r S_x_Sale_bestBid w).trans (f_x_Sale_bestBid_12 N  N _ _ _ _ _ _ _ h)
def S_x_Replies_better : List (Nat × Nat) := [(17, 3), (17, 4), (17, 5), (17, 6), (17, 7), (18, 2), (19, 1000000), (20, 1000000), (21, 1000000), (22, 2), (22, 3), (22, 4)]
theorem f_x_Replies_better_113 (N : Nat) : ∀ (w v : aw_W), x_Replies_better_113 N w = some v → fr_ S_x_Replies_better w v := by
  intro w v h
  unfold x_Replies_better_113 at h
  cases h
  exact fr_r S_x_Replies_better w
theorem f_x_Replies_better_107 (N : Nat) (k17 : Int → Int → aw_W → Option (aw_W)) (hk17 : ∀ (x1 x2 : Int) (w v : aw_W), k17 x1 x2 w = some v → fr_ S_x_Replies_better w v) : ∀ (x1 x2 : Int) (w v : aw_W), x_Replies_better_107 N k17 x1 x2 w = some v → fr_ S_x_Replies_better w v := by
  intro x1 x2 w v h
  unfold x_Replies_better_107 at h
  exact (fr_r S_x_Replies_better w).trans (hk17 _ _ _ _ h)
theorem f_x_Replies_better_17 (N : Nat) : ∀ (n : Nat) (x1 x2 : Int) (w v : aw_W), x_Replies_better_17 N n x1 x2 w = some v → fr_ S_x_Replies_better w v := by
  intro n
  induction n with
  | zero => intro x1 x2 w v h; rw [x_Replies_better_17] at h; cases h
  | succ n ih =>
    intro x1 x2 w v h
    rw [x_Replies_better_17] at h
    by_cases hc : (w 3 4) ≤ x2
    · rw [if_pos hc] at h
      exact (fr_r S_x_Replies_better w).trans (f_x_Replies_better_113 N  _ _ h)
    · rw [if_neg hc] at h
      by_cases hc : (aw_and (aw_shr x1 x2) 1) = 0
      · rw [if_pos hc] at h
        exact (fr_r S_x_Replies_better w).trans (f_x_Replies_better_107 N  _ ih _ _ _ _ h)
      · rw [if_neg hc] at h
        obtain ⟨_, h⟩ := aw_cks h
        obtain ⟨r1, w1, h1, h⟩ := aw_b2s h
        have c1 := (fr_r S_x_Replies_better w).trans (fr_m (by decide) (f_x_Sale_gainWith N _ _ _ _ _ h1))
        obtain ⟨r2, w2, h2, h⟩ := aw_b2s h
        have c2 := (c1).trans (fr_m (by decide) (f_x_Sale_bestBid N _ _ _ _ h2))
        by_cases hc : (aw_w ((w2 17 7) - r1)) ≤ (w2 22 4)
        · rw [if_pos hc] at h
          exact (c2).trans (f_x_Replies_better_107 N  _ ih _ _ _ _ h)
        · rw [if_neg hc] at h
          exact ((((c2).up (by rfl)).up (by rfl)).up (by rfl)).trans (f_x_Replies_better_107 N  _ ih _ _ _ _ h)
theorem f_x_Replies_better (N : Nat) : ∀ (x1 : Int) (w v : aw_W), x_Replies_better N x1 w = some v → fr_ S_x_Replies_better w v := by
  intro x1 w v h
  unfold x_Replies_better at h
  exact ((((fr_r S_x_Replies_better w).up (by rfl)).up (by rfl)).up (by rfl)).trans (f_x_Replies_better_17 N  N _ _ _ _ h)
def S_x_cure : List (Nat × Nat) := [(17, 3), (17, 4), (17, 5), (17, 6), (17, 7), (18, 2), (19, 1000000), (20, 1000000), (21, 1000000), (22, 2), (22, 3), (22, 4)]
theorem f_x_cure_20 (N : Nat) : ∀ (w : aw_W) (y : Int) (v : aw_W), x_cure_20 N w = some (y, v) → fr_ S_x_cure w v := by
  intro w y v h
  unfold x_cure_20 at h
  cases h
  exact fr_r S_x_cure w
theorem f_x_cure_71 (N : Nat) : ∀ (s0 : Int) (w : aw_W) (y : Int) (v : aw_W), x_cure_71 N s0 w = some (y, v) → fr_ S_x_cure w v := by
  intro s0 w y v h
  unfold x_cure_71 at h
  cases h
  exact fr_r S_x_cure w
theorem f_x_cure (N : Nat) : ∀ (x1 x2 : Int) (w : aw_W) (y : Int) (v : aw_W), x_cure N x1 x2 w = some (y, v) → fr_ S_x_cure w v := by
  intro x1 x2 w y v h
  unfold x_cure at h
  by_cases hc : x2 < 0
  · rw [if_pos hc] at h
    exact (fr_r S_x_cure w).trans (f_x_cure_20 N  _ _ _ h)
  · rw [if_neg hc] at h
    by_cases hc : 2 < x2
    · rw [if_pos hc] at h
      exact (fr_r S_x_cure w).trans (f_x_cure_20 N  _ _ _ h)
    · rw [if_neg hc] at h
      obtain ⟨r1, w1, h1, h⟩ := aw_b2s h
      have c1 := (fr_r S_x_cure w).trans (fr_m (by decide) (f_x_Sale_take N _ _ _ _ h1))
      by_cases hc : r1 = 0
      · rw [if_pos hc] at h
        exact (c1).trans (f_x_cure_20 N  _ _ _ h)
      · rw [if_neg hc] at h
        obtain ⟨r2, w2, h2, h⟩ := aw_b2s h
        have c2 := (c1).trans (fr_m (by decide) (f_x_Land_all N _ _ _ h2))
        obtain ⟨w3, h3, h⟩ := aw_b1s h
        have c3 := (c2).trans (fr_m (by decide) (f_x_Replies_better N _ _ _ h3))
        by_cases hc : x2 = 0
        · rw [if_pos hc] at h
          cases h
          exact c3
        · rw [if_neg hc] at h
          by_cases hc : x2 = 1
          · rw [if_pos hc] at h
            exact (c3).trans (f_x_cure_71 N  _ _ _ _ h)
          · rw [if_neg hc] at h
            exact (c3).trans (f_x_cure_71 N  _ _ _ _ h)
def S_x_end : List (Nat × Nat) := [(1, 1)]
theorem f_x_end_15 (N : Nat) : ∀ (w : aw_W) (y : Int) (v : aw_W), x_end_15 N w = some (y, v) → fr_ S_x_end w v := by
  intro w y v h
  unfold x_end_15 at h
  cases h
  exact fr_r S_x_end w
theorem f_x_end (N : Nat) : ∀ (x1 : Int) (w : aw_W) (y : Int) (v : aw_W), x_end N x1 w = some (y, v) → fr_ S_x_end w v := by
  intro x1 w y v h
  unfold x_end at h
  by_cases hc : x1 < 0
  · rw [if_pos hc] at h
    exact (fr_r S_x_end w).trans (f_x_end_15 N  _ _ _ h)
  · rw [if_neg hc] at h
    by_cases hc : x1 ≤ (w 1 1)
    · rw [if_pos hc] at h
      cases h
      exact (fr_r S_x_end w).up (by rfl)
    · rw [if_neg hc] at h
      exact (fr_r S_x_end w).trans (f_x_end_15 N  _ _ _ h)
def S_x_Land_become : List (Nat × Nat) := [(3, 4), (4, 1000000), (5, 1000000), (6, 1000000)]
theorem f_x_Land_become (N : Nat) : ∀ (w v : aw_W), x_Land_become N w = some v → fr_ S_x_Land_become w v := by
  intro w v h
  unfold x_Land_become at h
  obtain ⟨w1, h1, h⟩ := aw_b1s h
  have c1 := (((fr_r S_x_Land_become w).cpy (by rfl)).cpy (by rfl)).trans (fr_m (by decide) (f_j_Arr_fill_Ii_6 N _ _ _ h1))
  cases h
  exact (c1).up (by rfl)
def S_x_enterLand : List (Nat × Nat) := [(0, 14), (1, 1), (3, 4), (4, 1000000), (5, 1000000), (6, 1000000), (23, 4), (41, 4)]
theorem f_x_enterLand (N : Nat) : ∀ (w : aw_W) (y : Int) (v : aw_W), x_enterLand N w = some (y, v) → fr_ S_x_enterLand w v := by
  intro w y v h
  unfold x_enterLand at h
  obtain ⟨w1, h1, h⟩ := aw_b1s h
  have c1 := (fr_r S_x_enterLand w).trans (fr_m (by decide) (f_x_Land_become N _ _ h1))
  cases h
  exact ((((c1).up (by rfl)).up (by rfl)).up (by rfl)).up (by rfl)
def S_x_Tape_sign : List (Nat × Nat) := [(1, 2)]
theorem f_x_Tape_sign_62 (N : Nat) : ∀ (s0 : Int) (w : aw_W) (y : Int) (v : aw_W), x_Tape_sign_62 N s0 w = some (y, v) → fr_ S_x_Tape_sign w v := by
  intro s0 w y v h
  unfold x_Tape_sign_62 at h
  cases h
  exact fr_r S_x_Tape_sign w
theorem f_x_Tape_sign_38 (N : Nat) : ∀ (w : aw_W) (y : Int) (v : aw_W), x_Tape_sign_38 N w = some (y, v) → fr_ S_x_Tape_sign w v := by
  intro w y v h
  unfold x_Tape_sign_38 at h
  by_cases hc : (w 1 1) ≤ (w 1 2)
  · rw [if_pos hc] at h
    exact (fr_r S_x_Tape_sign w).trans (f_x_Tape_sign_62 N  _ _ _ _ h)
  · rw [if_neg hc] at h
    obtain ⟨_, h⟩ := aw_cks h
    exact (fr_r S_x_Tape_sign w).trans (f_x_Tape_sign_62 N  _ _ _ _ h)
theorem f_x_Tape_sign_0 (N : Nat) : ∀ (n : Nat) (w : aw_W) (y : Int) (v : aw_W), x_Tape_sign_0 N n w = some (y, v) → fr_ S_x_Tape_sign w v := by
  intro n
  induction n with
  | zero => intro w y v h; rw [x_Tape_sign_0] at h; cases h
  | succ n ih =>
    intro w y v h
    rw [x_Tape_sign_0] at h
    by_cases hc : (w 1 1) ≤ (w 1 2)
    · rw [if_pos hc] at h
      exact (fr_r S_x_Tape_sign w).trans (f_x_Tape_sign_38 N  _ _ _ h)
    · rw [if_neg hc] at h
      obtain ⟨_, h⟩ := aw_cks h
      by_cases hc : (w 2 ((w 1 2).toNat)) = 32
      · rw [if_pos hc] at h
        exact ((fr_r S_x_Tape_sign w).up (by rfl)).trans (ih _ _ _ h)
      · rw [if_neg hc] at h
        exact (fr_r S_x_Tape_sign w).trans (f_x_Tape_sign_38 N  _ _ _ h)
theorem f_x_Tape_sign (N : Nat) : ∀ (w : aw_W) (y : Int) (v : aw_W), x_Tape_sign N w = some (y, v) → fr_ S_x_Tape_sign w v := by
  intro w y v h
  unfold x_Tape_sign at h
  exact (fr_r S_x_Tape_sign w).trans (f_x_Tape_sign_0 N  N _ _ _ h)
def S_x_Tape_take : List (Nat × Nat) := [(1, 2)]
theorem f_x_Tape_take (N : Nat) : ∀ (x1 : Int) (w : aw_W) (y : Int) (v : aw_W), x_Tape_take N x1 w = some (y, v) → fr_ S_x_Tape_take w v := by
  intro x1 w y v h
  unfold x_Tape_take at h
  obtain ⟨r1, w1, h1, h⟩ := aw_b2s h
  have c1 := (fr_r S_x_Tape_take w).trans (fr_m (by decide) (f_x_Tape_sign N _ _ _ h1))
  by_cases hc : r1 = x1
  · rw [if_pos hc] at h
    cases h
    exact (c1).up (by rfl)
  · rw [if_neg hc] at h
    cases h
    exact c1
def S_x_Rules_isComparison : List (Nat × Nat) := []
theorem f_x_Rules_isComparison_23 (N : Nat) : ∀ (s0 : Int) (w : aw_W) (y : Int) (v : aw_W), x_Rules_isComparison_23 N s0 w = some (y, v) → fr_ S_x_Rules_isComparison w v := by
  intro s0 w y v h
  unfold x_Rules_isComparison_23 at h
  obtain ⟨_, h⟩ := aw_cks h
  cases h
  exact fr_r S_x_Rules_isComparison w
theorem f_x_Rules_isComparison_18 (N : Nat) : ∀ (w : aw_W) (y : Int) (v : aw_W), x_Rules_isComparison_18 N w = some (y, v) → fr_ S_x_Rules_isComparison w v := by
  intro w y v h
  unfold x_Rules_isComparison_18 at h
  exact (fr_r S_x_Rules_isComparison w).trans (f_x_Rules_isComparison_23 N  _ _ _ _ h)
theorem f_x_Rules_isComparison (N : Nat) : ∀ (x0 : Int) (w : aw_W) (y : Int) (v : aw_W), x_Rules_isComparison N x0 w = some (y, v) → fr_ S_x_Rules_isComparison w v := by
  intro x0 w y v h
  unfold x_Rules_isComparison at h
  by_cases hc : x0 = 61
  · rw [if_pos hc] at h
    exact (fr_r S_x_Rules_isComparison w).trans (f_x_Rules_isComparison_18 N  _ _ _ h)
  · rw [if_neg hc] at h
    by_cases hc : x0 = 60
    · rw [if_pos hc] at h
      exact (fr_r S_x_Rules_isComparison w).trans (f_x_Rules_isComparison_18 N  _ _ _ h)
    · rw [if_neg hc] at h
      by_cases hc : x0 = 62
      · rw [if_pos hc] at h
        exact (fr_r S_x_Rules_isComparison w).trans (f_x_Rules_isComparison_18 N  _ _ _ h)
      · rw [if_neg hc] at h
        exact (fr_r S_x_Rules_isComparison w).trans (f_x_Rules_isComparison_23 N  _ _ _ _ h)
def S_x_indexIn : List (Nat × Nat) := []
theorem f_x_indexIn_23 (N : Nat) : ∀ (w : aw_W) (y : Int) (v : aw_W), x_indexIn_23 N w = some (y, v) → fr_ S_x_indexIn w v := by
  intro w y v h
  unfold x_indexIn_23 at h
  cases h
  exact fr_r S_x_indexIn w
theorem f_x_indexIn_15 (N : Nat) : ∀ (x2 : Int) (w : aw_W) (y : Int) (v : aw_W), x_indexIn_15 N x2 w = some (y, v) → fr_ S_x_indexIn w v := by
  intro x2 w y v h
  unfold x_indexIn_15 at h
  cases h
  exact fr_r S_x_indexIn w
theorem f_x_indexIn_2 (N : Nat) : ∀ (n : Nat) (x1 x2 : Int) (w : aw_W) (y : Int) (v : aw_W), x_indexIn_2 N n x1 x2 w = some (y, v) → fr_ S_x_indexIn w v := by
  intro n
  induction n with
  | zero => intro x1 x2 w y v h; rw [x_indexIn_2] at h; cases h
  | succ n ih =>
    intro x1 x2 w y v h
    rw [x_indexIn_2] at h
    by_cases hc : 6 ≤ x2
    · rw [if_pos hc] at h
      exact (fr_r S_x_indexIn w).trans (f_x_indexIn_23 N  _ _ _ h)
    · rw [if_neg hc] at h
      obtain ⟨_, h⟩ := aw_cks h
      by_cases hc : (List.getD [100, 97, 98, 111, 108, 116] (x2.toNat) 0 : Int) = x1
      · rw [if_pos hc] at h
        exact (fr_r S_x_indexIn w).trans (f_x_indexIn_15 N  _ _ _ _ h)
      · rw [if_neg hc] at h
        exact (fr_r S_x_indexIn w).trans (ih _ _ _ _ _ h)
theorem f_x_indexIn (N : Nat) : ∀ (x1 : Int) (w : aw_W) (y : Int) (v : aw_W), x_indexIn N x1 w = some (y, v) → fr_ S_x_indexIn w v := by
  intro x1 w y v h
  unfold x_indexIn at h
  exact (fr_r S_x_indexIn w).trans (f_x_indexIn_2 N  N _ _ _ _ _ h)
def S_x_Tape_number : List (Nat × Nat) := [(1, 2)]
theorem f_x_Tape_number_93 (N : Nat) : ∀ (s0 : Int) (w : aw_W) (y : Int) (v : aw_W), x_Tape_number_93 N s0 w = some (y, v) → fr_ S_x_Tape_number w v := by
  intro s0 w y v h
  unfold x_Tape_number_93 at h
  cases h
  exact fr_r S_x_Tape_number w
theorem f_x_Tape_number_84 (N : Nat) : ∀ (x2 x3 : Int) (w : aw_W) (y : Int) (v : aw_W), x_Tape_number_84 N x2 x3 w = some (y, v) → fr_ S_x_Tape_number w v := by
  intro x2 x3 w y v h
  unfold x_Tape_number_84 at h
  by_cases hc : x3 = 0
  · rw [if_pos hc] at h
    exact (fr_r S_x_Tape_number w).trans (f_x_Tape_number_93 N  _ _ _ _ h)
  · rw [if_neg hc] at h
    exact (fr_r S_x_Tape_number w).trans (f_x_Tape_number_93 N  _ _ _ _ h)
theorem f_x_Tape_number_48 (N : Nat) : ∀ (w : aw_W) (y : Int) (v : aw_W), x_Tape_number_48 N w = some (y, v) → fr_ S_x_Tape_number w v := by
  intro w y v h
  unfold x_Tape_number_48 at h
  cases h
  exact fr_r S_x_Tape_number w
theorem f_x_Tape_number_4 (N : Nat) : ∀ (n : Nat) (x1 x2 x3 : Int) (w : aw_W) (y : Int) (v : aw_W), x_Tape_number_4 N n x1 x2 x3 w = some (y, v) → fr_ S_x_Tape_number w v := by
  intro n
  induction n with
  | zero => intro x1 x2 x3 w y v h; rw [x_Tape_number_4] at h; cases h
  | succ n ih =>
    intro x1 x2 x3 w y v h
    rw [x_Tape_number_4] at h
    by_cases hc : (w 1 1) ≤ (w 1 2)
    · rw [if_pos hc] at h
      exact (fr_r S_x_Tape_number w).trans (f_x_Tape_number_84 N  _ _ _ _ _ h)
    · rw [if_neg hc] at h
      obtain ⟨_, h⟩ := aw_cks h
      by_cases hc : (w 2 ((w 1 2).toNat)) < 48
      · rw [if_pos hc] at h
        exact (fr_r S_x_Tape_number w).trans (f_x_Tape_number_84 N  _ _ _ _ _ h)
      · rw [if_neg hc] at h
        obtain ⟨_, h⟩ := aw_cks h
        by_cases hc : 57 < (w 2 ((w 1 2).toNat))
        · rw [if_pos hc] at h
          exact (fr_r S_x_Tape_number w).trans (f_x_Tape_number_84 N  _ _ _ _ _ h)
        · rw [if_neg hc] at h
          by_cases hc : x3 = x1
          · rw [if_pos hc] at h
            exact (fr_r S_x_Tape_number w).trans (f_x_Tape_number_48 N  _ _ _ h)
          · rw [if_neg hc] at h
            obtain ⟨_, h⟩ := aw_cks h
            exact ((fr_r S_x_Tape_number w).up (by rfl)).trans (ih _ _ _ _ _ _ h)
theorem f_x_Tape_number (N : Nat) : ∀ (x1 : Int) (w : aw_W) (y : Int) (v : aw_W), x_Tape_number N x1 w = some (y, v) → fr_ S_x_Tape_number w v := by
  intro x1 w y v h
  unfold x_Tape_number at h
  exact (fr_r S_x_Tape_number w).trans (f_x_Tape_number_4 N  N _ _ _ _ _ _ h)
def S_x_Rules_put : List (Nat × Nat) := [(11, 5), (14, 1000000)]
theorem f_x_Rules_put_32 (N : Nat) : ∀ (w v : aw_W), x_Rules_put_32 N w = some v → fr_ S_x_Rules_put w v := by
  intro w v h
  unfold x_Rules_put_32 at h
  cases h
  exact fr_r S_x_Rules_put w
theorem f_x_Rules_put (N : Nat) : ∀ (x1 : Int) (w v : aw_W), x_Rules_put N x1 w = some v → fr_ S_x_Rules_put w v := by
  intro x1 w v h
  unfold x_Rules_put at h
  by_cases hc : 160 ≤ (w 11 5)
  · rw [if_pos hc] at h
    exact (fr_r S_x_Rules_put w).trans (f_x_Rules_put_32 N  _ _ h)
  · rw [if_neg hc] at h
    obtain ⟨_, h⟩ := aw_cks h
    exact (((fr_r S_x_Rules_put w).upA (by rfl)).up (by rfl)).trans (f_x_Rules_put_32 N  _ _ h)
def S_x_Rules_readAtom : List (Nat × Nat) := [(1, 2), (11, 5), (14, 1000000)]
theorem f_x_Rules_readAtom_54 (N : Nat) (c_x_Rules_readAtom : Int → aw_W → Option (Int × aw_W)) (c_x_Rules_readSum : Int → aw_W → Option (Int × aw_W)) (hc_x_Rules_readAtom : ∀ (x2 : Int) (w : aw_W) (y : Int) (v : aw_W), c_x_Rules_readAtom x2 w = some (y, v) → fr_ S_x_Rules_readAtom w v) (hc_x_Rules_readSum : ∀ (x2 : Int) (w : aw_W) (y : Int) (v : aw_W), c_x_Rules_readSum x2 w = some (y, v) → fr_ S_x_Rules_readAtom w v) : ∀ (s0 : Int) (w : aw_W) (y : Int) (v : aw_W), x_Rules_readAtom_54 c_x_Rules_readAtom c_x_Rules_readSum N s0 w = some (y, v) → fr_ S_x_Rules_readAtom w v := by
  intro s0 w y v h
  unfold x_Rules_readAtom_54 at h
  obtain ⟨_, h⟩ := aw_cks h
  cases h
  exact fr_r S_x_Rules_readAtom w
theorem f_x_Rules_readAtom_53 (N : Nat) (c_x_Rules_readAtom : Int → aw_W → Option (Int × aw_W)) (c_x_Rules_readSum : Int → aw_W → Option (Int × aw_W)) (hc_x_Rules_readAtom : ∀ (x2 : Int) (w : aw_W) (y : Int) (v : aw_W), c_x_Rules_readAtom x2 w = some (y, v) → fr_ S_x_Rules_readAtom w v) (hc_x_Rules_readSum : ∀ (x2 : Int) (w : aw_W) (y : Int) (v : aw_W), c_x_Rules_readSum x2 w = some (y, v) → fr_ S_x_Rules_readAtom w v) : ∀ (w : aw_W) (y : Int) (v : aw_W), x_Rules_readAtom_53 c_x_Rules_readAtom c_x_Rules_readSum N w = some (y, v) → fr_ S_x_Rules_readAtom w v := by
  intro w y v h
  unfold x_Rules_readAtom_53 at h
  exact (fr_r S_x_Rules_readAtom w).trans (f_x_Rules_readAtom_54 N c_x_Rules_readAtom c_x_Rules_readSum hc_x_Rules_readAtom hc_x_Rules_readSum  _ _ _ _ h)
theorem f_x_Rules_readAtom_b (N : Nat) (c_x_Rules_readAtom : Int → aw_W → Option (Int × aw_W)) (c_x_Rules_readSum : Int → aw_W → Option (Int × aw_W)) (hc_x_Rules_readAtom : ∀ (x2 : Int) (w : aw_W) (y : Int) (v : aw_W), c_x_Rules_readAtom x2 w = some (y, v) → fr_ S_x_Rules_readAtom w v) (hc_x_Rules_readSum : ∀ (x2 : Int) (w : aw_W) (y : Int) (v : aw_W), c_x_Rules_readSum x2 w = some (y, v) → fr_ S_x_Rules_readAtom w v) : ∀ (x2 : Int) (w : aw_W) (y : Int) (v : aw_W), x_Rules_readAtom_b c_x_Rules_readAtom c_x_Rules_readSum N x2 w = some (y, v) → fr_ S_x_Rules_readAtom w v := by
  intro x2 w y v h
  unfold x_Rules_readAtom_b at h
  obtain ⟨r1, w1, h1, h⟩ := aw_b2s h
  have c1 := (fr_r S_x_Rules_readAtom w).trans (fr_m (by decide) (f_x_Tape_sign N _ _ _ h1))
  by_cases hc : r1 = 91
  · rw [if_pos hc] at h
    by_cases hc : x2 < 6
    · rw [if_pos hc] at h
      obtain ⟨r6, w6, h6, h⟩ := aw_b2s h
      have c6 := ((c1).up (by rfl)).trans (hc_x_Rules_readSum _ _ _ _ h6)
      by_cases hc : r6 = 0
      · rw [if_pos hc] at h
        exact (c6).trans (f_x_Rules_readAtom_53 N c_x_Rules_readAtom c_x_Rules_readSum hc_x_Rules_readAtom hc_x_Rules_readSum  _ _ _ h)
      · rw [if_neg hc] at h
        obtain ⟨r7, w7, h7, h⟩ := aw_b2s h
        have c7 := (c6).trans (fr_m (by decide) (f_x_Tape_take N _ _ _ _ h7))
        by_cases hc : r7 = 0
        · rw [if_pos hc] at h
          exact (c7).trans (f_x_Rules_readAtom_53 N c_x_Rules_readAtom c_x_Rules_readSum hc_x_Rules_readAtom hc_x_Rules_readSum  _ _ _ h)
        · rw [if_neg hc] at h
          exact (c7).trans (f_x_Rules_readAtom_54 N c_x_Rules_readAtom c_x_Rules_readSum hc_x_Rules_readAtom hc_x_Rules_readSum  _ _ _ _ h)
    · rw [if_neg hc] at h
      cases h
      exact c1
  · rw [if_neg hc] at h
    obtain ⟨r2, w2, h2, h⟩ := aw_b2s h
    have c2 := (c1).trans (fr_m (by decide) (f_x_indexIn N _ _ _ _ h2))
    by_cases hc : r2 = (-1)
    · rw [if_pos hc] at h
      obtain ⟨r3, w3, h3, h⟩ := aw_b2s h
      have c3 := (c2).trans (fr_m (by decide) (f_x_Tape_number N _ _ _ _ h3))
      by_cases hc : r3 = (-1)
      · rw [if_pos hc] at h
        cases h
        exact c3
      · rw [if_neg hc] at h
        obtain ⟨w4, h4, h⟩ := aw_b1s h
        have c4 := (c3).trans (fr_m (by decide) (f_x_Rules_put N _ _ _ h4))
        cases h
        exact c4
    · rw [if_neg hc] at h
      obtain ⟨w5, h5, h⟩ := aw_b1s h
      have c5 := ((c2).up (by rfl)).trans (fr_m (by decide) (f_x_Rules_put N _ _ _ h5))
      cases h
      exact c5
theorem f_x_Rules_readSum_140 (N : Nat) (c_x_Rules_readAtom : Int → aw_W → Option (Int × aw_W)) (c_x_Rules_readSum : Int → aw_W → Option (Int × aw_W)) (hc_x_Rules_readAtom : ∀ (x2 : Int) (w : aw_W) (y : Int) (v : aw_W), c_x_Rules_readAtom x2 w = some (y, v) → fr_ S_x_Rules_readAtom w v) (hc_x_Rules_readSum : ∀ (x2 : Int) (w : aw_W) (y : Int) (v : aw_W), c_x_Rules_readSum x2 w = some (y, v) → fr_ S_x_Rules_readAtom w v) : ∀ (w : aw_W) (y : Int) (v : aw_W), x_Rules_readSum_140 c_x_Rules_readAtom c_x_Rules_readSum N w = some (y, v) → fr_ S_x_Rules_readAtom w v := by
  intro w y v h
  unfold x_Rules_readSum_140 at h
  cases h
  exact fr_r S_x_Rules_readAtom w
theorem f_x_Rules_readSum_130 (N : Nat) (c_x_Rules_readAtom : Int → aw_W → Option (Int × aw_W)) (c_x_Rules_readSum : Int → aw_W → Option (Int × aw_W)) (hc_x_Rules_readAtom : ∀ (x2 : Int) (w : aw_W) (y : Int) (v : aw_W), c_x_Rules_readAtom x2 w = some (y, v) → fr_ S_x_Rules_readAtom w v) (hc_x_Rules_readSum : ∀ (x2 : Int) (w : aw_W) (y : Int) (v : aw_W), c_x_Rules_readSum x2 w = some (y, v) → fr_ S_x_Rules_readAtom w v) : ∀ (x3 : Int) (w : aw_W) (y : Int) (v : aw_W), x_Rules_readSum_130 c_x_Rules_readAtom c_x_Rules_readSum N x3 w = some (y, v) → fr_ S_x_Rules_readAtom w v := by
  intro x3 w y v h
  unfold x_Rules_readSum_130 at h
  by_cases hc : x3 = 0
  · rw [if_pos hc] at h
    exact (fr_r S_x_Rules_readAtom w).trans (f_x_Rules_readSum_140 N c_x_Rules_readAtom c_x_Rules_readSum hc_x_Rules_readAtom hc_x_Rules_readSum  _ _ _ h)
  · rw [if_neg hc] at h
    obtain ⟨w1, h1, h⟩ := aw_b1s h
    have c1 := (fr_r S_x_Rules_readAtom w).trans (fr_m (by decide) (f_x_Rules_put N _ _ _ h1))
    exact (c1).trans (f_x_Rules_readSum_140 N c_x_Rules_readAtom c_x_Rules_readSum hc_x_Rules_readAtom hc_x_Rules_readSum  _ _ _ h)
theorem f_x_Rules_readSum_124 (N : Nat) (c_x_Rules_readAtom : Int → aw_W → Option (Int × aw_W)) (c_x_Rules_readSum : Int → aw_W → Option (Int × aw_W)) (hc_x_Rules_readAtom : ∀ (x2 : Int) (w : aw_W) (y : Int) (v : aw_W), c_x_Rules_readAtom x2 w = some (y, v) → fr_ S_x_Rules_readAtom w v) (hc_x_Rules_readSum : ∀ (x2 : Int) (w : aw_W) (y : Int) (v : aw_W), c_x_Rules_readSum x2 w = some (y, v) → fr_ S_x_Rules_readAtom w v) (k16 : Int → Int → Int → aw_W → Option (Int × aw_W)) (hk16 : ∀ (x2 x3 x4 : Int) (w : aw_W) (y : Int) (v : aw_W), k16 x2 x3 x4 w = some (y, v) → fr_ S_x_Rules_readAtom w v) : ∀ (x2 x3 x4 : Int) (w : aw_W) (y : Int) (v : aw_W), x_Rules_readSum_124 c_x_Rules_readAtom c_x_Rules_readSum N k16 x2 x3 x4 w = some (y, v) → fr_ S_x_Rules_readAtom w v := by
  intro x2 x3 x4 w y v h
  unfold x_Rules_readSum_124 at h
  exact (fr_r S_x_Rules_readAtom w).trans (hk16 _ _ _ _ _ _ h)
theorem f_x_Rules_readSum_110 (N : Nat) (c_x_Rules_readAtom : Int → aw_W → Option (Int × aw_W)) (c_x_Rules_readSum : Int → aw_W → Option (Int × aw_W)) (hc_x_Rules_readAtom : ∀ (x2 : Int) (w : aw_W) (y : Int) (v : aw_W), c_x_Rules_readAtom x2 w = some (y, v) → fr_ S_x_Rules_readAtom w v) (hc_x_Rules_readSum : ∀ (x2 : Int) (w : aw_W) (y : Int) (v : aw_W), c_x_Rules_readSum x2 w = some (y, v) → fr_ S_x_Rules_readAtom w v) : ∀ (w : aw_W) (y : Int) (v : aw_W), x_Rules_readSum_110 c_x_Rules_readAtom c_x_Rules_readSum N w = some (y, v) → fr_ S_x_Rules_readAtom w v := by
  intro w y v h
  unfold x_Rules_readSum_110 at h
  cases h
  exact fr_r S_x_Rules_readAtom w
theorem f_x_Rules_readSum_101 (N : Nat) (c_x_Rules_readAtom : Int → aw_W → Option (Int × aw_W)) (c_x_Rules_readSum : Int → aw_W → Option (Int × aw_W)) (hc_x_Rules_readAtom : ∀ (x2 : Int) (w : aw_W) (y : Int) (v : aw_W), c_x_Rules_readAtom x2 w = some (y, v) → fr_ S_x_Rules_readAtom w v) (hc_x_Rules_readSum : ∀ (x2 : Int) (w : aw_W) (y : Int) (v : aw_W), c_x_Rules_readSum x2 w = some (y, v) → fr_ S_x_Rules_readAtom w v) (k16 : Int → Int → Int → aw_W → Option (Int × aw_W)) (hk16 : ∀ (x2 x3 x4 : Int) (w : aw_W) (y : Int) (v : aw_W), k16 x2 x3 x4 w = some (y, v) → fr_ S_x_Rules_readAtom w v) : ∀ (x2 x3 x4 x5 x6 : Int) (w : aw_W) (y : Int) (v : aw_W), x_Rules_readSum_101 c_x_Rules_readAtom c_x_Rules_readSum N k16 x2 x3 x4 x5 x6 w = some (y, v) → fr_ S_x_Rules_readAtom w v := by
  intro x2 x3 x4 x5 x6 w y v h
  unfold x_Rules_readSum_101 at h
  obtain ⟨r1, w1, h1, h⟩ := aw_b2s h
  have c1 := (fr_r S_x_Rules_readAtom w).trans (hc_x_Rules_readAtom _ _ _ _ h1)
  by_cases hc : r1 = 0
  · rw [if_pos hc] at h
    exact (c1).trans (f_x_Rules_readSum_110 N c_x_Rules_readAtom c_x_Rules_readSum hc_x_Rules_readAtom hc_x_Rules_readSum  _ _ _ h)
  · rw [if_neg hc] at h
    by_cases hc : x6 = 0
    · rw [if_pos hc] at h
      obtain ⟨w2, h2, h⟩ := aw_b1s h
      have c2 := (c1).trans (fr_m (by decide) (f_x_Rules_put N _ _ _ h2))
      exact (c2).trans (f_x_Rules_readSum_124 N c_x_Rules_readAtom c_x_Rules_readSum hc_x_Rules_readAtom hc_x_Rules_readSum  _ hk16 _ _ _ _ _ _ h)
    · rw [if_neg hc] at h
      exact (c1).trans (f_x_Rules_readSum_124 N c_x_Rules_readAtom c_x_Rules_readSum hc_x_Rules_readAtom hc_x_Rules_readSum  _ hk16 _ _ _ _ _ _ h)
theorem f_x_Rules_readSum_98 (N : Nat) (c_x_Rules_readAtom : Int → aw_W → Option (Int × aw_W)) (c_x_Rules_readSum : Int → aw_W → Option (Int × aw_W)) (hc_x_Rules_readAtom : ∀ (x2 : Int) (w : aw_W) (y : Int) (v : aw_W), c_x_Rules_readAtom x2 w = some (y, v) → fr_ S_x_Rules_readAtom w v) (hc_x_Rules_readSum : ∀ (x2 : Int) (w : aw_W) (y : Int) (v : aw_W), c_x_Rules_readSum x2 w = some (y, v) → fr_ S_x_Rules_readAtom w v) (k16 : Int → Int → Int → aw_W → Option (Int × aw_W)) (hk16 : ∀ (x2 x3 x4 : Int) (w : aw_W) (y : Int) (v : aw_W), k16 x2 x3 x4 w = some (y, v) → fr_ S_x_Rules_readAtom w v) : ∀ (x2 x4 x5 x6 : Int) (w : aw_W) (y : Int) (v : aw_W), x_Rules_readSum_98 c_x_Rules_readAtom c_x_Rules_readSum N k16 x2 x4 x5 x6 w = some (y, v) → fr_ S_x_Rules_readAtom w v := by
  intro x2 x4 x5 x6 w y v h
  unfold x_Rules_readSum_98 at h
  exact (fr_r S_x_Rules_readAtom w).trans (f_x_Rules_readSum_101 N c_x_Rules_readAtom c_x_Rules_readSum hc_x_Rules_readAtom hc_x_Rules_readSum  _ hk16 _ _ _ _ _ _ _ _ h)
theorem f_x_Rules_readSum_73 (N : Nat) (c_x_Rules_readAtom : Int → aw_W → Option (Int × aw_W)) (c_x_Rules_readSum : Int → aw_W → Option (Int × aw_W)) (hc_x_Rules_readAtom : ∀ (x2 : Int) (w : aw_W) (y : Int) (v : aw_W), c_x_Rules_readAtom x2 w = some (y, v) → fr_ S_x_Rules_readAtom w v) (hc_x_Rules_readSum : ∀ (x2 : Int) (w : aw_W) (y : Int) (v : aw_W), c_x_Rules_readSum x2 w = some (y, v) → fr_ S_x_Rules_readAtom w v) (k16 : Int → Int → Int → aw_W → Option (Int × aw_W)) (hk16 : ∀ (x2 x3 x4 : Int) (w : aw_W) (y : Int) (v : aw_W), k16 x2 x3 x4 w = some (y, v) → fr_ S_x_Rules_readAtom w v) : ∀ (x2 x3 x4 x5 x6 : Int) (w : aw_W) (y : Int) (v : aw_W), x_Rules_readSum_73 c_x_Rules_readAtom c_x_Rules_readSum N k16 x2 x3 x4 x5 x6 w = some (y, v) → fr_ S_x_Rules_readAtom w v := by
  intro x2 x3 x4 x5 x6 w y v h
  unfold x_Rules_readSum_73 at h
  by_cases hc : x6 = 0
  · rw [if_pos hc] at h
    exact ((fr_r S_x_Rules_readAtom w).up (by rfl)).trans (f_x_Rules_readSum_101 N c_x_Rules_readAtom c_x_Rules_readSum hc_x_Rules_readAtom hc_x_Rules_readSum  _ hk16 _ _ _ _ _ _ _ _ h)
  · rw [if_neg hc] at h
    by_cases hc : x3 = 0
    · rw [if_pos hc] at h
      exact ((fr_r S_x_Rules_readAtom w).up (by rfl)).trans (f_x_Rules_readSum_98 N c_x_Rules_readAtom c_x_Rules_readSum hc_x_Rules_readAtom hc_x_Rules_readSum  _ hk16 _ _ _ _ _ _ _ h)
    · rw [if_neg hc] at h
      obtain ⟨w1, h1, h⟩ := aw_b1s h
      have c1 := ((fr_r S_x_Rules_readAtom w).up (by rfl)).trans (fr_m (by decide) (f_x_Rules_put N _ _ _ h1))
      exact (c1).trans (f_x_Rules_readSum_98 N c_x_Rules_readAtom c_x_Rules_readSum hc_x_Rules_readAtom hc_x_Rules_readSum  _ hk16 _ _ _ _ _ _ _ h)
theorem f_x_Rules_readSum_70 (N : Nat) (c_x_Rules_readAtom : Int → aw_W → Option (Int × aw_W)) (c_x_Rules_readSum : Int → aw_W → Option (Int × aw_W)) (hc_x_Rules_readAtom : ∀ (x2 : Int) (w : aw_W) (y : Int) (v : aw_W), c_x_Rules_readAtom x2 w = some (y, v) → fr_ S_x_Rules_readAtom w v) (hc_x_Rules_readSum : ∀ (x2 : Int) (w : aw_W) (y : Int) (v : aw_W), c_x_Rules_readSum x2 w = some (y, v) → fr_ S_x_Rules_readAtom w v) : ∀ (x3 : Int) (w : aw_W) (y : Int) (v : aw_W), x_Rules_readSum_70 c_x_Rules_readAtom c_x_Rules_readSum N x3 w = some (y, v) → fr_ S_x_Rules_readAtom w v := by
  intro x3 w y v h
  unfold x_Rules_readSum_70 at h
  exact (fr_r S_x_Rules_readAtom w).trans (f_x_Rules_readSum_130 N c_x_Rules_readAtom c_x_Rules_readSum hc_x_Rules_readAtom hc_x_Rules_readSum  _ _ _ _ h)
theorem f_x_Rules_readSum_49 (N : Nat) (c_x_Rules_readAtom : Int → aw_W → Option (Int × aw_W)) (c_x_Rules_readSum : Int → aw_W → Option (Int × aw_W)) (hc_x_Rules_readAtom : ∀ (x2 : Int) (w : aw_W) (y : Int) (v : aw_W), c_x_Rules_readAtom x2 w = some (y, v) → fr_ S_x_Rules_readAtom w v) (hc_x_Rules_readSum : ∀ (x2 : Int) (w : aw_W) (y : Int) (v : aw_W), c_x_Rules_readSum x2 w = some (y, v) → fr_ S_x_Rules_readAtom w v) (k16 : Int → Int → Int → aw_W → Option (Int × aw_W)) (hk16 : ∀ (x2 x3 x4 : Int) (w : aw_W) (y : Int) (v : aw_W), k16 x2 x3 x4 w = some (y, v) → fr_ S_x_Rules_readAtom w v) : ∀ (x2 x3 x4 x5 s0 : Int) (w : aw_W) (y : Int) (v : aw_W), x_Rules_readSum_49 c_x_Rules_readAtom c_x_Rules_readSum N k16 x2 x3 x4 x5 s0 w = some (y, v) → fr_ S_x_Rules_readAtom w v := by
  intro x2 x3 x4 x5 s0 w y v h
  unfold x_Rules_readSum_49 at h
  by_cases hc : s0 = 0
  · rw [if_pos hc] at h
    by_cases hc : x5 = 42
    · rw [if_pos hc] at h
      exact (fr_r S_x_Rules_readAtom w).trans (f_x_Rules_readSum_73 N c_x_Rules_readAtom c_x_Rules_readSum hc_x_Rules_readAtom hc_x_Rules_readSum  _ hk16 _ _ _ _ _ _ _ _ h)
    · rw [if_neg hc] at h
      by_cases hc : x5 = 47
      · rw [if_pos hc] at h
        exact (fr_r S_x_Rules_readAtom w).trans (f_x_Rules_readSum_73 N c_x_Rules_readAtom c_x_Rules_readSum hc_x_Rules_readAtom hc_x_Rules_readSum  _ hk16 _ _ _ _ _ _ _ _ h)
      · rw [if_neg hc] at h
        exact (fr_r S_x_Rules_readAtom w).trans (f_x_Rules_readSum_70 N c_x_Rules_readAtom c_x_Rules_readSum hc_x_Rules_readAtom hc_x_Rules_readSum  _ _ _ _ h)
  · rw [if_neg hc] at h
    exact (fr_r S_x_Rules_readAtom w).trans (f_x_Rules_readSum_73 N c_x_Rules_readAtom c_x_Rules_readSum hc_x_Rules_readAtom hc_x_Rules_readSum  _ hk16 _ _ _ _ _ _ _ _ h)
theorem f_x_Rules_readSum_44 (N : Nat) (c_x_Rules_readAtom : Int → aw_W → Option (Int × aw_W)) (c_x_Rules_readSum : Int → aw_W → Option (Int × aw_W)) (hc_x_Rules_readAtom : ∀ (x2 : Int) (w : aw_W) (y : Int) (v : aw_W), c_x_Rules_readAtom x2 w = some (y, v) → fr_ S_x_Rules_readAtom w v) (hc_x_Rules_readSum : ∀ (x2 : Int) (w : aw_W) (y : Int) (v : aw_W), c_x_Rules_readSum x2 w = some (y, v) → fr_ S_x_Rules_readAtom w v) (k16 : Int → Int → Int → aw_W → Option (Int × aw_W)) (hk16 : ∀ (x2 x3 x4 : Int) (w : aw_W) (y : Int) (v : aw_W), k16 x2 x3 x4 w = some (y, v) → fr_ S_x_Rules_readAtom w v) : ∀ (x2 x3 x4 x5 : Int) (w : aw_W) (y : Int) (v : aw_W), x_Rules_readSum_44 c_x_Rules_readAtom c_x_Rules_readSum N k16 x2 x3 x4 x5 w = some (y, v) → fr_ S_x_Rules_readAtom w v := by
  intro x2 x3 x4 x5 w y v h
  unfold x_Rules_readSum_44 at h
  exact (fr_r S_x_Rules_readAtom w).trans (f_x_Rules_readSum_49 N c_x_Rules_readAtom c_x_Rules_readSum hc_x_Rules_readAtom hc_x_Rules_readSum  _ hk16 _ _ _ _ _ _ _ _ h)
theorem f_x_Rules_readSum_16 (N : Nat) (c_x_Rules_readAtom : Int → aw_W → Option (Int × aw_W)) (c_x_Rules_readSum : Int → aw_W → Option (Int × aw_W)) (hc_x_Rules_readAtom : ∀ (x2 : Int) (w : aw_W) (y : Int) (v : aw_W), c_x_Rules_readAtom x2 w = some (y, v) → fr_ S_x_Rules_readAtom w v) (hc_x_Rules_readSum : ∀ (x2 : Int) (w : aw_W) (y : Int) (v : aw_W), c_x_Rules_readSum x2 w = some (y, v) → fr_ S_x_Rules_readAtom w v) : ∀ (n : Nat) (x2 x3 x4 : Int) (w : aw_W) (y : Int) (v : aw_W), x_Rules_readSum_16 c_x_Rules_readAtom c_x_Rules_readSum N n x2 x3 x4 w = some (y, v) → fr_ S_x_Rules_readAtom w v := by
  intro n
  induction n with
  | zero => intro x2 x3 x4 w y v h; rw [x_Rules_readSum_16] at h; cases h
  | succ n ih =>
    intro x2 x3 x4 w y v h
    rw [x_Rules_readSum_16] at h
    by_cases hc : 160 ≤ x4
    · rw [if_pos hc] at h
      exact (fr_r S_x_Rules_readAtom w).trans (f_x_Rules_readSum_130 N c_x_Rules_readAtom c_x_Rules_readSum hc_x_Rules_readAtom hc_x_Rules_readSum  _ _ _ _ h)
    · rw [if_neg hc] at h
      obtain ⟨r1, w1, h1, h⟩ := aw_b2s h
      have c1 := (fr_r S_x_Rules_readAtom w).trans (fr_m (by decide) (f_x_Tape_sign N _ _ _ h1))
      by_cases hc : r1 = 43
      · rw [if_pos hc] at h
        exact (c1).trans (f_x_Rules_readSum_44 N c_x_Rules_readAtom c_x_Rules_readSum hc_x_Rules_readAtom hc_x_Rules_readSum  _ ih _ _ _ _ _ _ _ h)
      · rw [if_neg hc] at h
        by_cases hc : r1 = 45
        · rw [if_pos hc] at h
          exact (c1).trans (f_x_Rules_readSum_44 N c_x_Rules_readAtom c_x_Rules_readSum hc_x_Rules_readAtom hc_x_Rules_readSum  _ ih _ _ _ _ _ _ _ h)
        · rw [if_neg hc] at h
          exact (c1).trans (f_x_Rules_readSum_49 N c_x_Rules_readAtom c_x_Rules_readSum hc_x_Rules_readAtom hc_x_Rules_readSum  _ ih _ _ _ _ _ _ _ _ h)
theorem f_x_Rules_readSum_b (N : Nat) (c_x_Rules_readAtom : Int → aw_W → Option (Int × aw_W)) (c_x_Rules_readSum : Int → aw_W → Option (Int × aw_W)) (hc_x_Rules_readAtom : ∀ (x2 : Int) (w : aw_W) (y : Int) (v : aw_W), c_x_Rules_readAtom x2 w = some (y, v) → fr_ S_x_Rules_readAtom w v) (hc_x_Rules_readSum : ∀ (x2 : Int) (w : aw_W) (y : Int) (v : aw_W), c_x_Rules_readSum x2 w = some (y, v) → fr_ S_x_Rules_readAtom w v) : ∀ (x2 : Int) (w : aw_W) (y : Int) (v : aw_W), x_Rules_readSum_b c_x_Rules_readAtom c_x_Rules_readSum N x2 w = some (y, v) → fr_ S_x_Rules_readAtom w v := by
  intro x2 w y v h
  unfold x_Rules_readSum_b at h
  obtain ⟨r1, w1, h1, h⟩ := aw_b2s h
  have c1 := (fr_r S_x_Rules_readAtom w).trans (hc_x_Rules_readAtom _ _ _ _ h1)
  by_cases hc : r1 = 0
  · rw [if_pos hc] at h
    cases h
    exact c1
  · rw [if_neg hc] at h
    exact (c1).trans (f_x_Rules_readSum_16 N c_x_Rules_readAtom c_x_Rules_readSum hc_x_Rules_readAtom hc_x_Rules_readSum  N _ _ _ _ _ _ h)
theorem f_g_x_Rules_readAtom (N : Nat) : ∀ D : Nat, (∀ (x2 : Int) (w : aw_W) (y : Int) (v : aw_W), (g_x_Rules_readAtom N D).1 x2 w = some (y, v) → fr_ S_x_Rules_readAtom w v) ∧ (∀ (x2 : Int) (w : aw_W) (y : Int) (v : aw_W), (g_x_Rules_readAtom N D).2 x2 w = some (y, v) → fr_ S_x_Rules_readAtom w v)
  | 0 => ⟨fun _ _ _ _ h => (by cases h), fun _ _ _ _ h => (by cases h)⟩
  | D + 1 => by
    have ih := f_g_x_Rules_readAtom N D
    exact ⟨f_x_Rules_readAtom_b N _ _ ih.1 ih.2, f_x_Rules_readSum_b N _ _ ih.1 ih.2⟩
theorem f_x_Rules_readAtom (N : Nat) : ∀ (x2 : Int) (w : aw_W) (y : Int) (v : aw_W), x_Rules_readAtom N x2 w = some (y, v) → fr_ S_x_Rules_readAtom w v := (f_g_x_Rules_readAtom N 60).1
theorem f_x_Rules_readSum (N : Nat) : ∀ (x2 : Int) (w : aw_W) (y : Int) (v : aw_W), x_Rules_readSum N x2 w = some (y, v) → fr_ S_x_Rules_readAtom w v := (f_g_x_Rules_readAtom N 60).2
def S_x_Rules_readOpened : List (Nat × Nat) := [(1, 2), (11, 5), (14, 1000000)]
theorem f_x_Rules_readOpened_40 (N : Nat) (c_x_Rules_readOpened : Int → Int → aw_W → Option (Int × aw_W)) (c_x_Rules_readUnit : Int → Int → aw_W → Option (Int × aw_W)) (c_x_Rules_readCondition : Int → Int → aw_W → Option (Int × aw_W)) (hc_x_Rules_readOpened : ∀ (x2 x3 : Int) (w : aw_W) (y : Int) (v : aw_W), c_x_Rules_readOpened x2 x3 w = some (y, v) → fr_ S_x_Rules_readOpened w v) (hc_x_Rules_readUnit : ∀ (x2 x3 : Int) (w : aw_W) (y : Int) (v : aw_W), c_x_Rules_readUnit x2 x3 w = some (y, v) → fr_ S_x_Rules_readOpened w v) (hc_x_Rules_readCondition : ∀ (x2 x3 : Int) (w : aw_W) (y : Int) (v : aw_W), c_x_Rules_readCondition x2 x3 w = some (y, v) → fr_ S_x_Rules_readOpened w v) : ∀ (s0 : Int) (w : aw_W) (y : Int) (v : aw_W), x_Rules_readOpened_40 c_x_Rules_readOpened c_x_Rules_readUnit c_x_Rules_readCondition N s0 w = some (y, v) → fr_ S_x_Rules_readOpened w v := by
  intro s0 w y v h
  unfold x_Rules_readOpened_40 at h
  obtain ⟨_, h⟩ := aw_cks h
  cases h
  exact fr_r S_x_Rules_readOpened w
theorem f_x_Rules_readOpened_39 (N : Nat) (c_x_Rules_readOpened : Int → Int → aw_W → Option (Int × aw_W)) (c_x_Rules_readUnit : Int → Int → aw_W → Option (Int × aw_W)) (c_x_Rules_readCondition : Int → Int → aw_W → Option (Int × aw_W)) (hc_x_Rules_readOpened : ∀ (x2 x3 : Int) (w : aw_W) (y : Int) (v : aw_W), c_x_Rules_readOpened x2 x3 w = some (y, v) → fr_ S_x_Rules_readOpened w v) (hc_x_Rules_readUnit : ∀ (x2 x3 : Int) (w : aw_W) (y : Int) (v : aw_W), c_x_Rules_readUnit x2 x3 w = some (y, v) → fr_ S_x_Rules_readOpened w v) (hc_x_Rules_readCondition : ∀ (x2 x3 : Int) (w : aw_W) (y : Int) (v : aw_W), c_x_Rules_readCondition x2 x3 w = some (y, v) → fr_ S_x_Rules_readOpened w v) : ∀ (w : aw_W) (y : Int) (v : aw_W), x_Rules_readOpened_39 c_x_Rules_readOpened c_x_Rules_readUnit c_x_Rules_readCondition N w = some (y, v) → fr_ S_x_Rules_readOpened w v := by
  intro w y v h
  unfold x_Rules_readOpened_39 at h
  exact (fr_r S_x_Rules_readOpened w).trans (f_x_Rules_readOpened_40 N c_x_Rules_readOpened c_x_Rules_readUnit c_x_Rules_readCondition hc_x_Rules_readOpened hc_x_Rules_readUnit hc_x_Rules_readCondition  _ _ _ _ h)
theorem f_x_Rules_readOpened_b (N : Nat) (c_x_Rules_readOpened : Int → Int → aw_W → Option (Int × aw_W)) (c_x_Rules_readUnit : Int → Int → aw_W → Option (Int × aw_W)) (c_x_Rules_readCondition : Int → Int → aw_W → Option (Int × aw_W)) (hc_x_Rules_readOpened : ∀ (x2 x3 : Int) (w : aw_W) (y : Int) (v : aw_W), c_x_Rules_readOpened x2 x3 w = some (y, v) → fr_ S_x_Rules_readOpened w v) (hc_x_Rules_readUnit : ∀ (x2 x3 : Int) (w : aw_W) (y : Int) (v : aw_W), c_x_Rules_readUnit x2 x3 w = some (y, v) → fr_ S_x_Rules_readOpened w v) (hc_x_Rules_readCondition : ∀ (x2 x3 : Int) (w : aw_W) (y : Int) (v : aw_W), c_x_Rules_readCondition x2 x3 w = some (y, v) → fr_ S_x_Rules_readOpened w v) : ∀ (x2 x3 : Int) (w : aw_W) (y : Int) (v : aw_W), x_Rules_readOpened_b c_x_Rules_readOpened c_x_Rules_readUnit c_x_Rules_readCondition N x2 x3 w = some (y, v) → fr_ S_x_Rules_readOpened w v := by
  intro x2 x3 w y v h
  unfold x_Rules_readOpened_b at h
  by_cases hc : x3 = 40
  · rw [if_pos hc] at h
    obtain ⟨r3, w3, h3, h⟩ := aw_b2s h
    have c3 := ((fr_r S_x_Rules_readOpened w).up (by rfl)).trans (hc_x_Rules_readCondition _ _ _ _ _ h3)
    by_cases hc : r3 = 0
    · rw [if_pos hc] at h
      exact (c3).trans (f_x_Rules_readOpened_39 N c_x_Rules_readOpened c_x_Rules_readUnit c_x_Rules_readCondition hc_x_Rules_readOpened hc_x_Rules_readUnit hc_x_Rules_readCondition  _ _ _ h)
    · rw [if_neg hc] at h
      obtain ⟨r4, w4, h4, h⟩ := aw_b2s h
      have c4 := (c3).trans (fr_m (by decide) (f_x_Tape_take N _ _ _ _ h4))
      by_cases hc : r4 = 0
      · rw [if_pos hc] at h
        exact (c4).trans (f_x_Rules_readOpened_39 N c_x_Rules_readOpened c_x_Rules_readUnit c_x_Rules_readCondition hc_x_Rules_readOpened hc_x_Rules_readUnit hc_x_Rules_readCondition  _ _ _ h)
      · rw [if_neg hc] at h
        exact (c4).trans (f_x_Rules_readOpened_40 N c_x_Rules_readOpened c_x_Rules_readUnit c_x_Rules_readCondition hc_x_Rules_readOpened hc_x_Rules_readUnit hc_x_Rules_readCondition  _ _ _ _ h)
  · rw [if_neg hc] at h
    obtain ⟨r1, w1, h1, h⟩ := aw_b2s h
    have c1 := ((fr_r S_x_Rules_readOpened w).up (by rfl)).trans (hc_x_Rules_readUnit _ _ _ _ _ h1)
    by_cases hc : r1 = 0
    · rw [if_pos hc] at h
      cases h
      exact c1
    · rw [if_neg hc] at h
      obtain ⟨w2, h2, h⟩ := aw_b1s h
      have c2 := (c1).trans (fr_m (by decide) (f_x_Rules_put N _ _ _ h2))
      cases h
      exact c2
theorem f_x_Rules_readUnit_60 (N : Nat) (c_x_Rules_readOpened : Int → Int → aw_W → Option (Int × aw_W)) (c_x_Rules_readUnit : Int → Int → aw_W → Option (Int × aw_W)) (c_x_Rules_readCondition : Int → Int → aw_W → Option (Int × aw_W)) (hc_x_Rules_readOpened : ∀ (x2 x3 : Int) (w : aw_W) (y : Int) (v : aw_W), c_x_Rules_readOpened x2 x3 w = some (y, v) → fr_ S_x_Rules_readOpened w v) (hc_x_Rules_readUnit : ∀ (x2 x3 : Int) (w : aw_W) (y : Int) (v : aw_W), c_x_Rules_readUnit x2 x3 w = some (y, v) → fr_ S_x_Rules_readOpened w v) (hc_x_Rules_readCondition : ∀ (x2 x3 : Int) (w : aw_W) (y : Int) (v : aw_W), c_x_Rules_readCondition x2 x3 w = some (y, v) → fr_ S_x_Rules_readOpened w v) : ∀ (x2 : Int) (w : aw_W) (y : Int) (v : aw_W), x_Rules_readUnit_60 c_x_Rules_readOpened c_x_Rules_readUnit c_x_Rules_readCondition N x2 w = some (y, v) → fr_ S_x_Rules_readOpened w v := by
  intro x2 w y v h
  unfold x_Rules_readUnit_60 at h
  obtain ⟨r1, w1, h1, h⟩ := aw_b2s h
  have c1 := (fr_r S_x_Rules_readOpened w).trans (fr_m (by decide) (f_x_Tape_sign N _ _ _ h1))
  obtain ⟨r2, w2, h2, h⟩ := aw_b2s h
  have c2 := (c1).trans (fr_m (by decide) (f_x_Rules_isComparison N _ _ _ _ h2))
  by_cases hc : r2 = 0
  · rw [if_pos hc] at h
    cases h
    exact c2
  · rw [if_neg hc] at h
    obtain ⟨r3, w3, h3, h⟩ := aw_b2s h
    have c3 := ((c2).up (by rfl)).trans (fr_m (by decide) (f_x_Rules_readSum N _ _ _ _ h3))
    by_cases hc : r3 = 0
    · rw [if_pos hc] at h
      cases h
      exact c3
    · rw [if_neg hc] at h
      obtain ⟨w4, h4, h⟩ := aw_b1s h
      have c4 := (c3).trans (fr_m (by decide) (f_x_Rules_put N _ _ _ h4))
      cases h
      exact c4
theorem f_x_Rules_readUnit_48 (N : Nat) (c_x_Rules_readOpened : Int → Int → aw_W → Option (Int × aw_W)) (c_x_Rules_readUnit : Int → Int → aw_W → Option (Int × aw_W)) (c_x_Rules_readCondition : Int → Int → aw_W → Option (Int × aw_W)) (hc_x_Rules_readOpened : ∀ (x2 x3 : Int) (w : aw_W) (y : Int) (v : aw_W), c_x_Rules_readOpened x2 x3 w = some (y, v) → fr_ S_x_Rules_readOpened w v) (hc_x_Rules_readUnit : ∀ (x2 x3 : Int) (w : aw_W) (y : Int) (v : aw_W), c_x_Rules_readUnit x2 x3 w = some (y, v) → fr_ S_x_Rules_readOpened w v) (hc_x_Rules_readCondition : ∀ (x2 x3 : Int) (w : aw_W) (y : Int) (v : aw_W), c_x_Rules_readCondition x2 x3 w = some (y, v) → fr_ S_x_Rules_readOpened w v) : ∀ (s0 : Int) (w : aw_W) (y : Int) (v : aw_W), x_Rules_readUnit_48 c_x_Rules_readOpened c_x_Rules_readUnit c_x_Rules_readCondition N s0 w = some (y, v) → fr_ S_x_Rules_readOpened w v := by
  intro s0 w y v h
  unfold x_Rules_readUnit_48 at h
  obtain ⟨_, h⟩ := aw_cks h
  cases h
  exact fr_r S_x_Rules_readOpened w
theorem f_x_Rules_readUnit_47 (N : Nat) (c_x_Rules_readOpened : Int → Int → aw_W → Option (Int × aw_W)) (c_x_Rules_readUnit : Int → Int → aw_W → Option (Int × aw_W)) (c_x_Rules_readCondition : Int → Int → aw_W → Option (Int × aw_W)) (hc_x_Rules_readOpened : ∀ (x2 x3 : Int) (w : aw_W) (y : Int) (v : aw_W), c_x_Rules_readOpened x2 x3 w = some (y, v) → fr_ S_x_Rules_readOpened w v) (hc_x_Rules_readUnit : ∀ (x2 x3 : Int) (w : aw_W) (y : Int) (v : aw_W), c_x_Rules_readUnit x2 x3 w = some (y, v) → fr_ S_x_Rules_readOpened w v) (hc_x_Rules_readCondition : ∀ (x2 x3 : Int) (w : aw_W) (y : Int) (v : aw_W), c_x_Rules_readCondition x2 x3 w = some (y, v) → fr_ S_x_Rules_readOpened w v) : ∀ (w : aw_W) (y : Int) (v : aw_W), x_Rules_readUnit_47 c_x_Rules_readOpened c_x_Rules_readUnit c_x_Rules_readCondition N w = some (y, v) → fr_ S_x_Rules_readOpened w v := by
  intro w y v h
  unfold x_Rules_readUnit_47 at h
  exact (fr_r S_x_Rules_readOpened w).trans (f_x_Rules_readUnit_48 N c_x_Rules_readOpened c_x_Rules_readUnit c_x_Rules_readCondition hc_x_Rules_readOpened hc_x_Rules_readUnit hc_x_Rules_readCondition  _ _ _ _ h)
theorem f_x_Rules_readUnit_24 (N : Nat) (c_x_Rules_readOpened : Int → Int → aw_W → Option (Int × aw_W)) (c_x_Rules_readUnit : Int → Int → aw_W → Option (Int × aw_W)) (c_x_Rules_readCondition : Int → Int → aw_W → Option (Int × aw_W)) (hc_x_Rules_readOpened : ∀ (x2 x3 : Int) (w : aw_W) (y : Int) (v : aw_W), c_x_Rules_readOpened x2 x3 w = some (y, v) → fr_ S_x_Rules_readOpened w v) (hc_x_Rules_readUnit : ∀ (x2 x3 : Int) (w : aw_W) (y : Int) (v : aw_W), c_x_Rules_readUnit x2 x3 w = some (y, v) → fr_ S_x_Rules_readOpened w v) (hc_x_Rules_readCondition : ∀ (x2 x3 : Int) (w : aw_W) (y : Int) (v : aw_W), c_x_Rules_readCondition x2 x3 w = some (y, v) → fr_ S_x_Rules_readOpened w v) : ∀ (x2 x4 : Int) (w : aw_W) (y : Int) (v : aw_W), x_Rules_readUnit_24 c_x_Rules_readOpened c_x_Rules_readUnit c_x_Rules_readCondition N x2 x4 w = some (y, v) → fr_ S_x_Rules_readOpened w v := by
  intro x2 x4 w y v h
  unfold x_Rules_readUnit_24 at h
  by_cases hc : 6 ≤ x2
  · rw [if_pos hc] at h
    exact (fr_r S_x_Rules_readOpened w).trans (f_x_Rules_readUnit_47 N c_x_Rules_readOpened c_x_Rules_readUnit c_x_Rules_readCondition hc_x_Rules_readOpened hc_x_Rules_readUnit hc_x_Rules_readCondition  _ _ _ h)
  · rw [if_neg hc] at h
    obtain ⟨r1, w1, h1, h⟩ := aw_b2s h
    have c1 := (fr_r S_x_Rules_readOpened w).trans (hc_x_Rules_readOpened _ _ _ _ _ h1)
    by_cases hc : r1 = 0
    · rw [if_pos hc] at h
      exact (c1).trans (f_x_Rules_readUnit_47 N c_x_Rules_readOpened c_x_Rules_readUnit c_x_Rules_readCondition hc_x_Rules_readOpened hc_x_Rules_readUnit hc_x_Rules_readCondition  _ _ _ h)
    · rw [if_neg hc] at h
      exact (c1).trans (f_x_Rules_readUnit_48 N c_x_Rules_readOpened c_x_Rules_readUnit c_x_Rules_readCondition hc_x_Rules_readOpened hc_x_Rules_readUnit hc_x_Rules_readCondition  _ _ _ _ h)
theorem f_x_Rules_readUnit_b (N : Nat) (c_x_Rules_readOpened : Int → Int → aw_W → Option (Int × aw_W)) (c_x_Rules_readUnit : Int → Int → aw_W → Option (Int × aw_W)) (c_x_Rules_readCondition : Int → Int → aw_W → Option (Int × aw_W)) (hc_x_Rules_readOpened : ∀ (x2 x3 : Int) (w : aw_W) (y : Int) (v : aw_W), c_x_Rules_readOpened x2 x3 w = some (y, v) → fr_ S_x_Rules_readOpened w v) (hc_x_Rules_readUnit : ∀ (x2 x3 : Int) (w : aw_W) (y : Int) (v : aw_W), c_x_Rules_readUnit x2 x3 w = some (y, v) → fr_ S_x_Rules_readOpened w v) (hc_x_Rules_readCondition : ∀ (x2 x3 : Int) (w : aw_W) (y : Int) (v : aw_W), c_x_Rules_readCondition x2 x3 w = some (y, v) → fr_ S_x_Rules_readOpened w v) : ∀ (x2 x3 : Int) (w : aw_W) (y : Int) (v : aw_W), x_Rules_readUnit_b c_x_Rules_readOpened c_x_Rules_readUnit c_x_Rules_readCondition N x2 x3 w = some (y, v) → fr_ S_x_Rules_readOpened w v := by
  intro x2 x3 w y v h
  unfold x_Rules_readUnit_b at h
  by_cases hc : x3 = 0
  · rw [if_pos hc] at h
    obtain ⟨r1, w1, h1, h⟩ := aw_b2s h
    have c1 := (fr_r S_x_Rules_readOpened w).trans (fr_m (by decide) (f_x_Tape_sign N _ _ _ h1))
    by_cases hc : r1 = 33
    · rw [if_pos hc] at h
      exact (c1).trans (f_x_Rules_readUnit_24 N c_x_Rules_readOpened c_x_Rules_readUnit c_x_Rules_readCondition hc_x_Rules_readOpened hc_x_Rules_readUnit hc_x_Rules_readCondition  _ _ _ _ _ h)
    · rw [if_neg hc] at h
      by_cases hc : r1 = 40
      · rw [if_pos hc] at h
        exact (c1).trans (f_x_Rules_readUnit_24 N c_x_Rules_readOpened c_x_Rules_readUnit c_x_Rules_readCondition hc_x_Rules_readOpened hc_x_Rules_readUnit hc_x_Rules_readCondition  _ _ _ _ _ h)
      · rw [if_neg hc] at h
        obtain ⟨r2, w2, h2, h⟩ := aw_b2s h
        have c2 := (c1).trans (fr_m (by decide) (f_x_Rules_readSum N _ _ _ _ h2))
        by_cases hc : r2 = 0
        · rw [if_pos hc] at h
          cases h
          exact c2
        · rw [if_neg hc] at h
          exact (c2).trans (f_x_Rules_readUnit_60 N c_x_Rules_readOpened c_x_Rules_readUnit c_x_Rules_readCondition hc_x_Rules_readOpened hc_x_Rules_readUnit hc_x_Rules_readCondition  _ _ _ _ h)
  · rw [if_neg hc] at h
    exact (fr_r S_x_Rules_readOpened w).trans (f_x_Rules_readUnit_60 N c_x_Rules_readOpened c_x_Rules_readUnit c_x_Rules_readCondition hc_x_Rules_readOpened hc_x_Rules_readUnit hc_x_Rules_readCondition  _ _ _ _ h)
theorem f_x_Rules_readCondition_122 (N : Nat) (c_x_Rules_readOpened : Int → Int → aw_W → Option (Int × aw_W)) (c_x_Rules_readUnit : Int → Int → aw_W → Option (Int × aw_W)) (c_x_Rules_readCondition : Int → Int → aw_W → Option (Int × aw_W)) (hc_x_Rules_readOpened : ∀ (x2 x3 : Int) (w : aw_W) (y : Int) (v : aw_W), c_x_Rules_readOpened x2 x3 w = some (y, v) → fr_ S_x_Rules_readOpened w v) (hc_x_Rules_readUnit : ∀ (x2 x3 : Int) (w : aw_W) (y : Int) (v : aw_W), c_x_Rules_readUnit x2 x3 w = some (y, v) → fr_ S_x_Rules_readOpened w v) (hc_x_Rules_readCondition : ∀ (x2 x3 : Int) (w : aw_W) (y : Int) (v : aw_W), c_x_Rules_readCondition x2 x3 w = some (y, v) → fr_ S_x_Rules_readOpened w v) : ∀ (w : aw_W) (y : Int) (v : aw_W), x_Rules_readCondition_122 c_x_Rules_readOpened c_x_Rules_readUnit c_x_Rules_readCondition N w = some (y, v) → fr_ S_x_Rules_readOpened w v := by
  intro w y v h
  unfold x_Rules_readCondition_122 at h
  cases h
  exact fr_r S_x_Rules_readOpened w
theorem f_x_Rules_readCondition_111 (N : Nat) (c_x_Rules_readOpened : Int → Int → aw_W → Option (Int × aw_W)) (c_x_Rules_readUnit : Int → Int → aw_W → Option (Int × aw_W)) (c_x_Rules_readCondition : Int → Int → aw_W → Option (Int × aw_W)) (hc_x_Rules_readOpened : ∀ (x2 x3 : Int) (w : aw_W) (y : Int) (v : aw_W), c_x_Rules_readOpened x2 x3 w = some (y, v) → fr_ S_x_Rules_readOpened w v) (hc_x_Rules_readUnit : ∀ (x2 x3 : Int) (w : aw_W) (y : Int) (v : aw_W), c_x_Rules_readUnit x2 x3 w = some (y, v) → fr_ S_x_Rules_readOpened w v) (hc_x_Rules_readCondition : ∀ (x2 x3 : Int) (w : aw_W) (y : Int) (v : aw_W), c_x_Rules_readCondition x2 x3 w = some (y, v) → fr_ S_x_Rules_readOpened w v) : ∀ (x4 : Int) (w : aw_W) (y : Int) (v : aw_W), x_Rules_readCondition_111 c_x_Rules_readOpened c_x_Rules_readUnit c_x_Rules_readCondition N x4 w = some (y, v) → fr_ S_x_Rules_readOpened w v := by
  intro x4 w y v h
  unfold x_Rules_readCondition_111 at h
  by_cases hc : x4 = 0
  · rw [if_pos hc] at h
    exact (fr_r S_x_Rules_readOpened w).trans (f_x_Rules_readCondition_122 N c_x_Rules_readOpened c_x_Rules_readUnit c_x_Rules_readCondition hc_x_Rules_readOpened hc_x_Rules_readUnit hc_x_Rules_readCondition  _ _ _ h)
  · rw [if_neg hc] at h
    obtain ⟨w1, h1, h⟩ := aw_b1s h
    have c1 := (fr_r S_x_Rules_readOpened w).trans (fr_m (by decide) (f_x_Rules_put N _ _ _ h1))
    exact (c1).trans (f_x_Rules_readCondition_122 N c_x_Rules_readOpened c_x_Rules_readUnit c_x_Rules_readCondition hc_x_Rules_readOpened hc_x_Rules_readUnit hc_x_Rules_readCondition  _ _ _ h)
theorem f_x_Rules_readCondition_105 (N : Nat) (c_x_Rules_readOpened : Int → Int → aw_W → Option (Int × aw_W)) (c_x_Rules_readUnit : Int → Int → aw_W → Option (Int × aw_W)) (c_x_Rules_readCondition : Int → Int → aw_W → Option (Int × aw_W)) (hc_x_Rules_readOpened : ∀ (x2 x3 : Int) (w : aw_W) (y : Int) (v : aw_W), c_x_Rules_readOpened x2 x3 w = some (y, v) → fr_ S_x_Rules_readOpened w v) (hc_x_Rules_readUnit : ∀ (x2 x3 : Int) (w : aw_W) (y : Int) (v : aw_W), c_x_Rules_readUnit x2 x3 w = some (y, v) → fr_ S_x_Rules_readOpened w v) (hc_x_Rules_readCondition : ∀ (x2 x3 : Int) (w : aw_W) (y : Int) (v : aw_W), c_x_Rules_readCondition x2 x3 w = some (y, v) → fr_ S_x_Rules_readOpened w v) (k18 : Int → Int → Int → aw_W → Option (Int × aw_W)) (hk18 : ∀ (x2 x4 x5 : Int) (w : aw_W) (y : Int) (v : aw_W), k18 x2 x4 x5 w = some (y, v) → fr_ S_x_Rules_readOpened w v) : ∀ (x2 x4 x5 : Int) (w : aw_W) (y : Int) (v : aw_W), x_Rules_readCondition_105 c_x_Rules_readOpened c_x_Rules_readUnit c_x_Rules_readCondition N k18 x2 x4 x5 w = some (y, v) → fr_ S_x_Rules_readOpened w v := by
  intro x2 x4 x5 w y v h
  unfold x_Rules_readCondition_105 at h
  exact (fr_r S_x_Rules_readOpened w).trans (hk18 _ _ _ _ _ _ h)
theorem f_x_Rules_readCondition_90 (N : Nat) (c_x_Rules_readOpened : Int → Int → aw_W → Option (Int × aw_W)) (c_x_Rules_readUnit : Int → Int → aw_W → Option (Int × aw_W)) (c_x_Rules_readCondition : Int → Int → aw_W → Option (Int × aw_W)) (hc_x_Rules_readOpened : ∀ (x2 x3 : Int) (w : aw_W) (y : Int) (v : aw_W), c_x_Rules_readOpened x2 x3 w = some (y, v) → fr_ S_x_Rules_readOpened w v) (hc_x_Rules_readUnit : ∀ (x2 x3 : Int) (w : aw_W) (y : Int) (v : aw_W), c_x_Rules_readUnit x2 x3 w = some (y, v) → fr_ S_x_Rules_readOpened w v) (hc_x_Rules_readCondition : ∀ (x2 x3 : Int) (w : aw_W) (y : Int) (v : aw_W), c_x_Rules_readCondition x2 x3 w = some (y, v) → fr_ S_x_Rules_readOpened w v) : ∀ (w : aw_W) (y : Int) (v : aw_W), x_Rules_readCondition_90 c_x_Rules_readOpened c_x_Rules_readUnit c_x_Rules_readCondition N w = some (y, v) → fr_ S_x_Rules_readOpened w v := by
  intro w y v h
  unfold x_Rules_readCondition_90 at h
  cases h
  exact fr_r S_x_Rules_readOpened w
theorem f_x_Rules_readCondition_80 (N : Nat) (c_x_Rules_readOpened : Int → Int → aw_W → Option (Int × aw_W)) (c_x_Rules_readUnit : Int → Int → aw_W → Option (Int × aw_W)) (c_x_Rules_readCondition : Int → Int → aw_W → Option (Int × aw_W)) (hc_x_Rules_readOpened : ∀ (x2 x3 : Int) (w : aw_W) (y : Int) (v : aw_W), c_x_Rules_readOpened x2 x3 w = some (y, v) → fr_ S_x_Rules_readOpened w v) (hc_x_Rules_readUnit : ∀ (x2 x3 : Int) (w : aw_W) (y : Int) (v : aw_W), c_x_Rules_readUnit x2 x3 w = some (y, v) → fr_ S_x_Rules_readOpened w v) (hc_x_Rules_readCondition : ∀ (x2 x3 : Int) (w : aw_W) (y : Int) (v : aw_W), c_x_Rules_readCondition x2 x3 w = some (y, v) → fr_ S_x_Rules_readOpened w v) (k18 : Int → Int → Int → aw_W → Option (Int × aw_W)) (hk18 : ∀ (x2 x4 x5 : Int) (w : aw_W) (y : Int) (v : aw_W), k18 x2 x4 x5 w = some (y, v) → fr_ S_x_Rules_readOpened w v) : ∀ (x2 x4 x5 x6 : Int) (w : aw_W) (y : Int) (v : aw_W), x_Rules_readCondition_80 c_x_Rules_readOpened c_x_Rules_readUnit c_x_Rules_readCondition N k18 x2 x4 x5 x6 w = some (y, v) → fr_ S_x_Rules_readOpened w v := by
  intro x2 x4 x5 x6 w y v h
  unfold x_Rules_readCondition_80 at h
  obtain ⟨r1, w1, h1, h⟩ := aw_b2s h
  have c1 := (fr_r S_x_Rules_readOpened w).trans (hc_x_Rules_readUnit _ _ _ _ _ h1)
  by_cases hc : r1 = 0
  · rw [if_pos hc] at h
    exact (c1).trans (f_x_Rules_readCondition_90 N c_x_Rules_readOpened c_x_Rules_readUnit c_x_Rules_readCondition hc_x_Rules_readOpened hc_x_Rules_readUnit hc_x_Rules_readCondition  _ _ _ h)
  · rw [if_neg hc] at h
    by_cases hc : x6 = 38
    · rw [if_pos hc] at h
      obtain ⟨w2, h2, h⟩ := aw_b1s h
      have c2 := (c1).trans (fr_m (by decide) (f_x_Rules_put N _ _ _ h2))
      exact (c2).trans (f_x_Rules_readCondition_105 N c_x_Rules_readOpened c_x_Rules_readUnit c_x_Rules_readCondition hc_x_Rules_readOpened hc_x_Rules_readUnit hc_x_Rules_readCondition  _ hk18 _ _ _ _ _ _ h)
    · rw [if_neg hc] at h
      exact (c1).trans (f_x_Rules_readCondition_105 N c_x_Rules_readOpened c_x_Rules_readUnit c_x_Rules_readCondition hc_x_Rules_readOpened hc_x_Rules_readUnit hc_x_Rules_readCondition  _ hk18 _ _ _ _ _ _ h)
theorem f_x_Rules_readCondition_77 (N : Nat) (c_x_Rules_readOpened : Int → Int → aw_W → Option (Int × aw_W)) (c_x_Rules_readUnit : Int → Int → aw_W → Option (Int × aw_W)) (c_x_Rules_readCondition : Int → Int → aw_W → Option (Int × aw_W)) (hc_x_Rules_readOpened : ∀ (x2 x3 : Int) (w : aw_W) (y : Int) (v : aw_W), c_x_Rules_readOpened x2 x3 w = some (y, v) → fr_ S_x_Rules_readOpened w v) (hc_x_Rules_readUnit : ∀ (x2 x3 : Int) (w : aw_W) (y : Int) (v : aw_W), c_x_Rules_readUnit x2 x3 w = some (y, v) → fr_ S_x_Rules_readOpened w v) (hc_x_Rules_readCondition : ∀ (x2 x3 : Int) (w : aw_W) (y : Int) (v : aw_W), c_x_Rules_readCondition x2 x3 w = some (y, v) → fr_ S_x_Rules_readOpened w v) (k18 : Int → Int → Int → aw_W → Option (Int × aw_W)) (hk18 : ∀ (x2 x4 x5 : Int) (w : aw_W) (y : Int) (v : aw_W), k18 x2 x4 x5 w = some (y, v) → fr_ S_x_Rules_readOpened w v) : ∀ (x2 x5 x6 : Int) (w : aw_W) (y : Int) (v : aw_W), x_Rules_readCondition_77 c_x_Rules_readOpened c_x_Rules_readUnit c_x_Rules_readCondition N k18 x2 x5 x6 w = some (y, v) → fr_ S_x_Rules_readOpened w v := by
  intro x2 x5 x6 w y v h
  unfold x_Rules_readCondition_77 at h
  exact (fr_r S_x_Rules_readOpened w).trans (f_x_Rules_readCondition_80 N c_x_Rules_readOpened c_x_Rules_readUnit c_x_Rules_readCondition hc_x_Rules_readOpened hc_x_Rules_readUnit hc_x_Rules_readCondition  _ hk18 _ _ _ _ _ _ _ h)
theorem f_x_Rules_readCondition_49 (N : Nat) (c_x_Rules_readOpened : Int → Int → aw_W → Option (Int × aw_W)) (c_x_Rules_readUnit : Int → Int → aw_W → Option (Int × aw_W)) (c_x_Rules_readCondition : Int → Int → aw_W → Option (Int × aw_W)) (hc_x_Rules_readOpened : ∀ (x2 x3 : Int) (w : aw_W) (y : Int) (v : aw_W), c_x_Rules_readOpened x2 x3 w = some (y, v) → fr_ S_x_Rules_readOpened w v) (hc_x_Rules_readUnit : ∀ (x2 x3 : Int) (w : aw_W) (y : Int) (v : aw_W), c_x_Rules_readUnit x2 x3 w = some (y, v) → fr_ S_x_Rules_readOpened w v) (hc_x_Rules_readCondition : ∀ (x2 x3 : Int) (w : aw_W) (y : Int) (v : aw_W), c_x_Rules_readCondition x2 x3 w = some (y, v) → fr_ S_x_Rules_readOpened w v) (k18 : Int → Int → Int → aw_W → Option (Int × aw_W)) (hk18 : ∀ (x2 x4 x5 : Int) (w : aw_W) (y : Int) (v : aw_W), k18 x2 x4 x5 w = some (y, v) → fr_ S_x_Rules_readOpened w v) : ∀ (x2 x4 x5 x6 : Int) (w : aw_W) (y : Int) (v : aw_W), x_Rules_readCondition_49 c_x_Rules_readOpened c_x_Rules_readUnit c_x_Rules_readCondition N k18 x2 x4 x5 x6 w = some (y, v) → fr_ S_x_Rules_readOpened w v := by
  intro x2 x4 x5 x6 w y v h
  unfold x_Rules_readCondition_49 at h
  by_cases hc : x6 = 124
  · rw [if_pos hc] at h
    by_cases hc : x4 = 0
    · rw [if_pos hc] at h
      exact ((fr_r S_x_Rules_readOpened w).up (by rfl)).trans (f_x_Rules_readCondition_77 N c_x_Rules_readOpened c_x_Rules_readUnit c_x_Rules_readCondition hc_x_Rules_readOpened hc_x_Rules_readUnit hc_x_Rules_readCondition  _ hk18 _ _ _ _ _ _ h)
    · rw [if_neg hc] at h
      obtain ⟨w1, h1, h⟩ := aw_b1s h
      have c1 := ((fr_r S_x_Rules_readOpened w).up (by rfl)).trans (fr_m (by decide) (f_x_Rules_put N _ _ _ h1))
      exact (c1).trans (f_x_Rules_readCondition_77 N c_x_Rules_readOpened c_x_Rules_readUnit c_x_Rules_readCondition hc_x_Rules_readOpened hc_x_Rules_readUnit hc_x_Rules_readCondition  _ hk18 _ _ _ _ _ _ h)
  · rw [if_neg hc] at h
    exact ((fr_r S_x_Rules_readOpened w).up (by rfl)).trans (f_x_Rules_readCondition_80 N c_x_Rules_readOpened c_x_Rules_readUnit c_x_Rules_readCondition hc_x_Rules_readOpened hc_x_Rules_readUnit hc_x_Rules_readCondition  _ hk18 _ _ _ _ _ _ _ h)
theorem f_x_Rules_readCondition_46 (N : Nat) (c_x_Rules_readOpened : Int → Int → aw_W → Option (Int × aw_W)) (c_x_Rules_readUnit : Int → Int → aw_W → Option (Int × aw_W)) (c_x_Rules_readCondition : Int → Int → aw_W → Option (Int × aw_W)) (hc_x_Rules_readOpened : ∀ (x2 x3 : Int) (w : aw_W) (y : Int) (v : aw_W), c_x_Rules_readOpened x2 x3 w = some (y, v) → fr_ S_x_Rules_readOpened w v) (hc_x_Rules_readUnit : ∀ (x2 x3 : Int) (w : aw_W) (y : Int) (v : aw_W), c_x_Rules_readUnit x2 x3 w = some (y, v) → fr_ S_x_Rules_readOpened w v) (hc_x_Rules_readCondition : ∀ (x2 x3 : Int) (w : aw_W) (y : Int) (v : aw_W), c_x_Rules_readCondition x2 x3 w = some (y, v) → fr_ S_x_Rules_readOpened w v) : ∀ (x4 : Int) (w : aw_W) (y : Int) (v : aw_W), x_Rules_readCondition_46 c_x_Rules_readOpened c_x_Rules_readUnit c_x_Rules_readCondition N x4 w = some (y, v) → fr_ S_x_Rules_readOpened w v := by
  intro x4 w y v h
  unfold x_Rules_readCondition_46 at h
  exact (fr_r S_x_Rules_readOpened w).trans (f_x_Rules_readCondition_111 N c_x_Rules_readOpened c_x_Rules_readUnit c_x_Rules_readCondition hc_x_Rules_readOpened hc_x_Rules_readUnit hc_x_Rules_readCondition  _ _ _ _ h)
theorem f_x_Rules_readCondition_18 (N : Nat) (c_x_Rules_readOpened : Int → Int → aw_W → Option (Int × aw_W)) (c_x_Rules_readUnit : Int → Int → aw_W → Option (Int × aw_W)) (c_x_Rules_readCondition : Int → Int → aw_W → Option (Int × aw_W)) (hc_x_Rules_readOpened : ∀ (x2 x3 : Int) (w : aw_W) (y : Int) (v : aw_W), c_x_Rules_readOpened x2 x3 w = some (y, v) → fr_ S_x_Rules_readOpened w v) (hc_x_Rules_readUnit : ∀ (x2 x3 : Int) (w : aw_W) (y : Int) (v : aw_W), c_x_Rules_readUnit x2 x3 w = some (y, v) → fr_ S_x_Rules_readOpened w v) (hc_x_Rules_readCondition : ∀ (x2 x3 : Int) (w : aw_W) (y : Int) (v : aw_W), c_x_Rules_readCondition x2 x3 w = some (y, v) → fr_ S_x_Rules_readOpened w v) : ∀ (n : Nat) (x2 x4 x5 : Int) (w : aw_W) (y : Int) (v : aw_W), x_Rules_readCondition_18 c_x_Rules_readOpened c_x_Rules_readUnit c_x_Rules_readCondition N n x2 x4 x5 w = some (y, v) → fr_ S_x_Rules_readOpened w v := by
  intro n
  induction n with
  | zero => intro x2 x4 x5 w y v h; rw [x_Rules_readCondition_18] at h; cases h
  | succ n ih =>
    intro x2 x4 x5 w y v h
    rw [x_Rules_readCondition_18] at h
    by_cases hc : 160 ≤ x5
    · rw [if_pos hc] at h
      exact (fr_r S_x_Rules_readOpened w).trans (f_x_Rules_readCondition_111 N c_x_Rules_readOpened c_x_Rules_readUnit c_x_Rules_readCondition hc_x_Rules_readOpened hc_x_Rules_readUnit hc_x_Rules_readCondition  _ _ _ _ h)
    · rw [if_neg hc] at h
      obtain ⟨r1, w1, h1, h⟩ := aw_b2s h
      have c1 := (fr_r S_x_Rules_readOpened w).trans (fr_m (by decide) (f_x_Tape_sign N _ _ _ h1))
      by_cases hc : r1 = 38
      · rw [if_pos hc] at h
        exact (c1).trans (f_x_Rules_readCondition_49 N c_x_Rules_readOpened c_x_Rules_readUnit c_x_Rules_readCondition hc_x_Rules_readOpened hc_x_Rules_readUnit hc_x_Rules_readCondition  _ ih _ _ _ _ _ _ _ h)
      · rw [if_neg hc] at h
        by_cases hc : r1 = 124
        · rw [if_pos hc] at h
          exact (c1).trans (f_x_Rules_readCondition_49 N c_x_Rules_readOpened c_x_Rules_readUnit c_x_Rules_readCondition hc_x_Rules_readOpened hc_x_Rules_readUnit hc_x_Rules_readCondition  _ ih _ _ _ _ _ _ _ h)
        · rw [if_neg hc] at h
          exact (c1).trans (f_x_Rules_readCondition_46 N c_x_Rules_readOpened c_x_Rules_readUnit c_x_Rules_readCondition hc_x_Rules_readOpened hc_x_Rules_readUnit hc_x_Rules_readCondition  _ _ _ _ h)
theorem f_x_Rules_readCondition_b (N : Nat) (c_x_Rules_readOpened : Int → Int → aw_W → Option (Int × aw_W)) (c_x_Rules_readUnit : Int → Int → aw_W → Option (Int × aw_W)) (c_x_Rules_readCondition : Int → Int → aw_W → Option (Int × aw_W)) (hc_x_Rules_readOpened : ∀ (x2 x3 : Int) (w : aw_W) (y : Int) (v : aw_W), c_x_Rules_readOpened x2 x3 w = some (y, v) → fr_ S_x_Rules_readOpened w v) (hc_x_Rules_readUnit : ∀ (x2 x3 : Int) (w : aw_W) (y : Int) (v : aw_W), c_x_Rules_readUnit x2 x3 w = some (y, v) → fr_ S_x_Rules_readOpened w v) (hc_x_Rules_readCondition : ∀ (x2 x3 : Int) (w : aw_W) (y : Int) (v : aw_W), c_x_Rules_readCondition x2 x3 w = some (y, v) → fr_ S_x_Rules_readOpened w v) : ∀ (x2 x3 : Int) (w : aw_W) (y : Int) (v : aw_W), x_Rules_readCondition_b c_x_Rules_readOpened c_x_Rules_readUnit c_x_Rules_readCondition N x2 x3 w = some (y, v) → fr_ S_x_Rules_readOpened w v := by
  intro x2 x3 w y v h
  unfold x_Rules_readCondition_b at h
  obtain ⟨r1, w1, h1, h⟩ := aw_b2s h
  have c1 := (fr_r S_x_Rules_readOpened w).trans (hc_x_Rules_readUnit _ _ _ _ _ h1)
  by_cases hc : r1 = 0
  · rw [if_pos hc] at h
    cases h
    exact c1
  · rw [if_neg hc] at h
    exact (c1).trans (f_x_Rules_readCondition_18 N c_x_Rules_readOpened c_x_Rules_readUnit c_x_Rules_readCondition hc_x_Rules_readOpened hc_x_Rules_readUnit hc_x_Rules_readCondition  N _ _ _ _ _ _ h)
theorem f_g_x_Rules_readOpened (N : Nat) : ∀ D : Nat, (∀ (x2 x3 : Int) (w : aw_W) (y : Int) (v : aw_W), (g_x_Rules_readOpened N D).1 x2 x3 w = some (y, v) → fr_ S_x_Rules_readOpened w v) ∧ (∀ (x2 x3 : Int) (w : aw_W) (y : Int) (v : aw_W), (g_x_Rules_readOpened N D).2.1 x2 x3 w = some (y, v) → fr_ S_x_Rules_readOpened w v) ∧ (∀ (x2 x3 : Int) (w : aw_W) (y : Int) (v : aw_W), (g_x_Rules_readOpened N D).2.2 x2 x3 w = some (y, v) → fr_ S_x_Rules_readOpened w v)
  | 0 => ⟨fun _ _ _ _ _ h => (by cases h), fun _ _ _ _ _ h => (by cases h), fun _ _ _ _ _ h => (by cases h)⟩
  | D + 1 => by
    have ih := f_g_x_Rules_readOpened N D
    exact ⟨f_x_Rules_readOpened_b N _ _ _ ih.1 ih.2.1 ih.2.2, f_x_Rules_readUnit_b N _ _ _ ih.1 ih.2.1 ih.2.2, f_x_Rules_readCondition_b N _ _ _ ih.1 ih.2.1 ih.2.2⟩
theorem f_x_Rules_readOpened (N : Nat) : ∀ (x2 x3 : Int) (w : aw_W) (y : Int) (v : aw_W), x_Rules_readOpened N x2 x3 w = some (y, v) → fr_ S_x_Rules_readOpened w v := (f_g_x_Rules_readOpened N 60).1
theorem f_x_Rules_readUnit (N : Nat) : ∀ (x2 x3 : Int) (w : aw_W) (y : Int) (v : aw_W), x_Rules_readUnit N x2 x3 w = some (y, v) → fr_ S_x_Rules_readOpened w v := (f_g_x_Rules_readOpened N 60).2.1
theorem f_x_Rules_readCondition (N : Nat) : ∀ (x2 x3 : Int) (w : aw_W) (y : Int) (v : aw_W), x_Rules_readCondition N x2 x3 w = some (y, v) → fr_ S_x_Rules_readOpened w v := (f_g_x_Rules_readOpened N 60).2.2
def S_x_Rules_readClause : List (Nat × Nat) := [(1, 2), (11, 5), (14, 1000000)]
theorem f_x_Rules_readClause_18 (N : Nat) : ∀ (w : aw_W) (y : Int) (v : aw_W), x_Rules_readClause_18 N w = some (y, v) → fr_ S_x_Rules_readClause w v := by
  intro w y v h
  unfold x_Rules_readClause_18 at h
  cases h
  exact fr_r S_x_Rules_readClause w
theorem f_x_Rules_readClause_91 (N : Nat) : ∀ (w : aw_W) (y : Int) (v : aw_W), x_Rules_readClause_91 N w = some (y, v) → fr_ S_x_Rules_readClause w v := by
  intro w y v h
  unfold x_Rules_readClause_91 at h
  cases h
  exact fr_r S_x_Rules_readClause w
theorem f_x_Rules_readClause_110 (N : Nat) : ∀ (w : aw_W) (y : Int) (v : aw_W), x_Rules_readClause_110 N w = some (y, v) → fr_ S_x_Rules_readClause w v := by
  intro w y v h
  unfold x_Rules_readClause_110 at h
  obtain ⟨w1, h1, h⟩ := aw_b1s h
  have c1 := (fr_r S_x_Rules_readClause w).trans (fr_m (by decide) (f_x_Rules_put N _ _ _ h1))
  cases h
  exact c1
theorem f_x_Rules_readClause_72 (N : Nat) : ∀ (x3 : Int) (w : aw_W) (y : Int) (v : aw_W), x_Rules_readClause_72 N x3 w = some (y, v) → fr_ S_x_Rules_readClause w v := by
  intro x3 w y v h
  unfold x_Rules_readClause_72 at h
  obtain ⟨r1, w1, h1, h⟩ := aw_b2s h
  have c1 := (fr_r S_x_Rules_readClause w).trans (fr_m (by decide) (f_x_Rules_readCondition N _ _ _ _ _ h1))
  by_cases hc : r1 = 0
  · rw [if_pos hc] at h
    exact (c1).trans (f_x_Rules_readClause_91 N  _ _ _ h)
  · rw [if_neg hc] at h
    obtain ⟨r2, w2, h2, h⟩ := aw_b2s h
    have c2 := (c1).trans (fr_m (by decide) (f_x_Tape_take N _ _ _ _ h2))
    by_cases hc : r2 = 0
    · rw [if_pos hc] at h
      exact (c2).trans (f_x_Rules_readClause_91 N  _ _ _ h)
    · rw [if_neg hc] at h
      obtain ⟨w3, h3, h⟩ := aw_b1s h
      have c3 := (c2).trans (fr_m (by decide) (f_x_Rules_put N _ _ _ h3))
      obtain ⟨r4, w4, h4, h⟩ := aw_b2s h
      have c4 := (c3).trans (fr_m (by decide) (f_x_Rules_readSum N _ _ _ _ h4))
      by_cases hc : r4 = 0
      · rw [if_pos hc] at h
        cases h
        exact c4
      · rw [if_neg hc] at h
        exact (c4).trans (f_x_Rules_readClause_110 N  _ _ _ h)
theorem f_x_Rules_readClause_58 (N : Nat) : ∀ (x3 : Int) (w : aw_W) (y : Int) (v : aw_W), x_Rules_readClause_58 N x3 w = some (y, v) → fr_ S_x_Rules_readClause w v := by
  intro x3 w y v h
  unfold x_Rules_readClause_58 at h
  by_cases hc : x3 = 0
  · rw [if_pos hc] at h
    exact (fr_r S_x_Rules_readClause w).trans (f_x_Rules_readClause_72 N  _ _ _ _ h)
  · rw [if_neg hc] at h
    obtain ⟨r1, w1, h1, h⟩ := aw_b2s h
    have c1 := (fr_r S_x_Rules_readClause w).trans (fr_m (by decide) (f_x_Tape_sign N _ _ _ h1))
    obtain ⟨r2, w2, h2, h⟩ := aw_b2s h
    have c2 := (c1).trans (fr_m (by decide) (f_x_Rules_isComparison N _ _ _ _ h2))
    by_cases hc : r2 = 0
    · rw [if_pos hc] at h
      exact (c2).trans (f_x_Rules_readClause_110 N  _ _ _ h)
    · rw [if_neg hc] at h
      exact (c2).trans (f_x_Rules_readClause_72 N  _ _ _ _ h)
theorem f_x_Rules_readClause_42 (N : Nat) : ∀ (s0 : Int) (w : aw_W) (y : Int) (v : aw_W), x_Rules_readClause_42 N s0 w = some (y, v) → fr_ S_x_Rules_readClause w v := by
  intro s0 w y v h
  unfold x_Rules_readClause_42 at h
  by_cases hc : s0 = 0
  · rw [if_pos hc] at h
    exact (fr_r S_x_Rules_readClause w).trans (f_x_Rules_readClause_58 N  _ _ _ _ h)
  · rw [if_neg hc] at h
    obtain ⟨r1, w1, h1, h⟩ := aw_b2s h
    have c1 := (fr_r S_x_Rules_readClause w).trans (fr_m (by decide) (f_x_Rules_readSum N _ _ _ _ h1))
    by_cases hc : r1 = 0
    · rw [if_pos hc] at h
      cases h
      exact c1
    · rw [if_neg hc] at h
      exact (c1).trans (f_x_Rules_readClause_58 N  _ _ _ _ h)
theorem f_x_Rules_readClause_41 (N : Nat) : ∀ (w : aw_W) (y : Int) (v : aw_W), x_Rules_readClause_41 N w = some (y, v) → fr_ S_x_Rules_readClause w v := by
  intro w y v h
  unfold x_Rules_readClause_41 at h
  exact (fr_r S_x_Rules_readClause w).trans (f_x_Rules_readClause_42 N  _ _ _ _ h)
theorem f_x_Rules_readClause (N : Nat) : ∀ (w : aw_W) (y : Int) (v : aw_W), x_Rules_readClause N w = some (y, v) → fr_ S_x_Rules_readClause w v := by
  intro w y v h
  unfold x_Rules_readClause at h
  obtain ⟨r1, w1, h1, h⟩ := aw_b2s h
  have c1 := (fr_r S_x_Rules_readClause w).trans (fr_m (by decide) (f_x_Tape_take N _ _ _ _ h1))
  by_cases hc : r1 = 0
  · rw [if_pos hc] at h
    exact (c1).trans (f_x_Rules_readClause_18 N  _ _ _ h)
  · rw [if_neg hc] at h
    obtain ⟨r2, w2, h2, h⟩ := aw_b2s h
    have c2 := (c1).trans (fr_m (by decide) (f_x_Tape_take N _ _ _ _ h2))
    by_cases hc : r2 = 0
    · rw [if_pos hc] at h
      exact (c2).trans (f_x_Rules_readClause_18 N  _ _ _ h)
    · rw [if_neg hc] at h
      obtain ⟨r3, w3, h3, h⟩ := aw_b2s h
      have c3 := (c2).trans (fr_m (by decide) (f_x_Tape_sign N _ _ _ h3))
      by_cases hc : r3 = 33
      · rw [if_pos hc] at h
        exact (c3).trans (f_x_Rules_readClause_41 N  _ _ _ h)
      · rw [if_neg hc] at h
        by_cases hc : r3 = 40
        · rw [if_pos hc] at h
          exact (c3).trans (f_x_Rules_readClause_41 N  _ _ _ h)
        · rw [if_neg hc] at h
          exact (c3).trans (f_x_Rules_readClause_42 N  _ _ _ _ h)
def S_x_Rules_read : List (Nat × Nat) := [(1, 2), (11, 5), (14, 1000000)]
theorem f_x_Rules_read_66 (N : Nat) : ∀ (s0 : Int) (w : aw_W) (y : Int) (v : aw_W), x_Rules_read_66 N s0 w = some (y, v) → fr_ S_x_Rules_read w v := by
  intro s0 w y v h
  unfold x_Rules_read_66 at h
  cases h
  exact fr_r S_x_Rules_read w
theorem f_x_Rules_read_51 (N : Nat) : ∀ (w : aw_W) (y : Int) (v : aw_W), x_Rules_read_51 N w = some (y, v) → fr_ S_x_Rules_read w v := by
  intro w y v h
  unfold x_Rules_read_51 at h
  obtain ⟨r1, w1, h1, h⟩ := aw_b2s h
  have c1 := (fr_r S_x_Rules_read w).trans (fr_m (by decide) (f_x_Tape_sign N _ _ _ h1))
  by_cases hc : r1 = 0
  · rw [if_pos hc] at h
    exact (c1).trans (f_x_Rules_read_66 N  _ _ _ _ h)
  · rw [if_neg hc] at h
    exact (c1).trans (f_x_Rules_read_66 N  _ _ _ _ h)
theorem f_x_Rules_read_33 (N : Nat) : ∀ (w : aw_W) (y : Int) (v : aw_W), x_Rules_read_33 N w = some (y, v) → fr_ S_x_Rules_read w v := by
  intro w y v h
  unfold x_Rules_read_33 at h
  cases h
  exact fr_r S_x_Rules_read w
theorem f_x_Rules_read_14 (N : Nat) : ∀ (n : Nat) (x2 x3 : Int) (w : aw_W) (y : Int) (v : aw_W), x_Rules_read_14 N n x2 x3 w = some (y, v) → fr_ S_x_Rules_read w v := by
  intro n
  induction n with
  | zero => intro x2 x3 w y v h; rw [x_Rules_read_14] at h; cases h
  | succ n ih =>
    intro x2 x3 w y v h
    rw [x_Rules_read_14] at h
    by_cases hc : x2 = 0
    · rw [if_pos hc] at h
      exact (fr_r S_x_Rules_read w).trans (f_x_Rules_read_51 N  _ _ _ h)
    · rw [if_neg hc] at h
      by_cases hc : 160 ≤ x3
      · rw [if_pos hc] at h
        exact (fr_r S_x_Rules_read w).trans (f_x_Rules_read_51 N  _ _ _ h)
      · rw [if_neg hc] at h
        obtain ⟨r1, w1, h1, h⟩ := aw_b2s h
        have c1 := (fr_r S_x_Rules_read w).trans (fr_m (by decide) (f_x_Rules_readClause N _ _ _ h1))
        by_cases hc : r1 = 0
        · rw [if_pos hc] at h
          exact (c1).trans (f_x_Rules_read_33 N  _ _ _ h)
        · rw [if_neg hc] at h
          obtain ⟨r2, w2, h2, h⟩ := aw_b2s h
          have c2 := (c1).trans (fr_m (by decide) (f_x_Tape_take N _ _ _ _ h2))
          exact (c2).trans (ih _ _ _ _ _ h)
theorem f_x_Rules_read (N : Nat) : ∀ (w : aw_W) (y : Int) (v : aw_W), x_Rules_read N w = some (y, v) → fr_ S_x_Rules_read w v := by
  intro w y v h
  unfold x_Rules_read at h
  exact (((fr_r S_x_Rules_read w).up (by rfl)).up (by rfl)).trans (f_x_Rules_read_14 N  N _ _ _ _ _ h)
def S_x_indexIn_204 : List (Nat × Nat) := []
theorem f_x_indexIn_204_23 (N : Nat) : ∀ (w : aw_W) (y : Int) (v : aw_W), x_indexIn_204_23 N w = some (y, v) → fr_ S_x_indexIn_204 w v := by
  intro w y v h
  unfold x_indexIn_204_23 at h
  cases h
  exact fr_r S_x_indexIn_204 w
theorem f_x_indexIn_204_15 (N : Nat) : ∀ (x2 : Int) (w : aw_W) (y : Int) (v : aw_W), x_indexIn_204_15 N x2 w = some (y, v) → fr_ S_x_indexIn_204 w v := by
  intro x2 w y v h
  unfold x_indexIn_204_15 at h
  cases h
  exact fr_r S_x_indexIn_204 w
theorem f_x_indexIn_204_2 (N : Nat) : ∀ (n : Nat) (x1 x2 : Int) (w : aw_W) (y : Int) (v : aw_W), x_indexIn_204_2 N n x1 x2 w = some (y, v) → fr_ S_x_indexIn_204 w v := by
  intro n
  induction n with
  | zero => intro x1 x2 w y v h; rw [x_indexIn_204_2] at h; cases h
  | succ n ih =>
    intro x1 x2 w y v h
    rw [x_indexIn_204_2] at h
    by_cases hc : 5 ≤ x2
    · rw [if_pos hc] at h
      exact (fr_r S_x_indexIn_204 w).trans (f_x_indexIn_204_23 N  _ _ _ h)
    · rw [if_neg hc] at h
      obtain ⟨_, h⟩ := aw_cks h
      by_cases hc : (List.getD [114, 116, 113, 102, 109] (x2.toNat) 0 : Int) = x1
      · rw [if_pos hc] at h
        exact (fr_r S_x_indexIn_204 w).trans (f_x_indexIn_204_15 N  _ _ _ _ h)
      · rw [if_neg hc] at h
        exact (fr_r S_x_indexIn_204 w).trans (ih _ _ _ _ _ h)
theorem f_x_indexIn_204 (N : Nat) : ∀ (x1 : Int) (w : aw_W) (y : Int) (v : aw_W), x_indexIn_204 N x1 w = some (y, v) → fr_ S_x_indexIn_204 w v := by
  intro x1 w y v h
  unfold x_indexIn_204 at h
  exact (fr_r S_x_indexIn_204 w).trans (f_x_indexIn_204_2 N  N _ _ _ _ _ h)
def S_x_Land_readItems : List (Nat × Nat) := [(1, 2), (9, 1000000)]
theorem f_x_Land_readItems_128 (N : Nat) : ∀ (w : aw_W) (y : Int) (v : aw_W), x_Land_readItems_128 N w = some (y, v) → fr_ S_x_Land_readItems w v := by
  intro w y v h
  unfold x_Land_readItems_128 at h
  cases h
  exact fr_r S_x_Land_readItems w
theorem f_x_Land_readItems_100 (N : Nat) : ∀ (w : aw_W) (y : Int) (v : aw_W), x_Land_readItems_100 N w = some (y, v) → fr_ S_x_Land_readItems w v := by
  intro w y v h
  unfold x_Land_readItems_100 at h
  cases h
  exact (fr_r S_x_Land_readItems w).up (by rfl)
theorem f_x_Land_readItems_80 (N : Nat) : ∀ (w : aw_W) (y : Int) (v : aw_W), x_Land_readItems_80 N w = some (y, v) → fr_ S_x_Land_readItems w v := by
  intro w y v h
  unfold x_Land_readItems_80 at h
  cases h
  exact fr_r S_x_Land_readItems w
theorem f_x_Land_readItems_41 (N : Nat) : ∀ (w : aw_W) (y : Int) (v : aw_W), x_Land_readItems_41 N w = some (y, v) → fr_ S_x_Land_readItems w v := by
  intro w y v h
  unfold x_Land_readItems_41 at h
  cases h
  exact fr_r S_x_Land_readItems w
theorem f_x_Land_readItems_29 (N : Nat) : ∀ (w : aw_W) (y : Int) (v : aw_W), x_Land_readItems_29 N w = some (y, v) → fr_ S_x_Land_readItems w v := by
  intro w y v h
  unfold x_Land_readItems_29 at h
  cases h
  exact fr_r S_x_Land_readItems w
theorem f_x_Land_readItems_6 (N : Nat) : ∀ (n : Nat) (x5 x6 x7 : Int) (w : aw_W) (y : Int) (v : aw_W), x_Land_readItems_6 N n x5 x6 x7 w = some (y, v) → fr_ S_x_Land_readItems w v := by
  intro n
  induction n with
  | zero => intro x5 x6 x7 w y v h; rw [x_Land_readItems_6] at h; cases h
  | succ n ih =>
    intro x5 x6 x7 w y v h
    rw [x_Land_readItems_6] at h
    by_cases hc : 5 < x7
    · rw [if_pos hc] at h
      exact (fr_r S_x_Land_readItems w).trans (f_x_Land_readItems_128 N  _ _ _ h)
    · rw [if_neg hc] at h
      obtain ⟨r1, w1, h1, h⟩ := aw_b2s h
      have c1 := (fr_r S_x_Land_readItems w).trans (fr_m (by decide) (f_x_Tape_sign N _ _ _ h1))
      obtain ⟨r2, w2, h2, h⟩ := aw_b2s h
      have c2 := (c1).trans (fr_m (by decide) (f_x_indexIn_204 N _ _ _ _ h2))
      by_cases hc : r2 = (-1)
      · rw [if_pos hc] at h
        exact (c2).trans (f_x_Land_readItems_29 N  _ _ _ h)
      · rw [if_neg hc] at h
        by_cases hc : (aw_and (aw_shr x6 r2) 1) = 0
        · rw [if_pos hc] at h
          obtain ⟨r3, w3, h3, h⟩ := aw_b2s h
          have c3 := ((c2).up (by rfl)).trans (fr_m (by decide) (f_x_Tape_sign N _ _ _ h3))
          obtain ⟨r4, w4, h4, h⟩ := aw_b2s h
          have c4 := (c3).trans (fr_m (by decide) (f_x_Tape_number N _ _ _ _ h4))
          by_cases hc : r4 = (-1)
          · rw [if_pos hc] at h
            exact (c4).trans (f_x_Land_readItems_80 N  _ _ _ h)
          · rw [if_neg hc] at h
            obtain ⟨_, h⟩ := aw_cks h
            by_cases hc : r4 < (List.getD [1, 0, 0, 0, 0] (r2.toNat) 0 : Int)
            · rw [if_pos hc] at h
              exact (c4).trans (f_x_Land_readItems_100 N  _ _ _ h)
            · rw [if_neg hc] at h
              obtain ⟨_, h⟩ := aw_cks h
              by_cases hc : r4 ≤ (List.getD [6, 1, 2, 99, 9] (r2.toNat) 0 : Int)
              · rw [if_pos hc] at h
                obtain ⟨_, h⟩ := aw_cks h
                exact ((c4).upA (by rfl)).trans (ih _ _ _ _ _ _ h)
              · rw [if_neg hc] at h
                exact (c4).trans (f_x_Land_readItems_100 N  _ _ _ h)
        · rw [if_neg hc] at h
          exact (c2).trans (f_x_Land_readItems_41 N  _ _ _ h)
theorem f_x_Land_readItems (N : Nat) : ∀ (x5 : Int) (w : aw_W) (y : Int) (v : aw_W), x_Land_readItems N x5 w = some (y, v) → fr_ S_x_Land_readItems w v := by
  intro x5 w y v h
  unfold x_Land_readItems at h
  exact (fr_r S_x_Land_readItems w).trans (f_x_Land_readItems_6 N  N _ _ _ _ _ _ h)
def S_x_indexIn_200 : List (Nat × Nat) := []
theorem f_x_indexIn_200_23 (N : Nat) : ∀ (w : aw_W) (y : Int) (v : aw_W), x_indexIn_200_23 N w = some (y, v) → fr_ S_x_indexIn_200 w v := by
  intro w y v h
  unfold x_indexIn_200_23 at h
  cases h
  exact fr_r S_x_indexIn_200 w
theorem f_x_indexIn_200_15 (N : Nat) : ∀ (x2 : Int) (w : aw_W) (y : Int) (v : aw_W), x_indexIn_200_15 N x2 w = some (y, v) → fr_ S_x_indexIn_200 w v := by
  intro x2 w y v h
  unfold x_indexIn_200_15 at h
  cases h
  exact fr_r S_x_indexIn_200 w
theorem f_x_indexIn_200_2 (N : Nat) : ∀ (n : Nat) (x1 x2 : Int) (w : aw_W) (y : Int) (v : aw_W), x_indexIn_200_2 N n x1 x2 w = some (y, v) → fr_ S_x_indexIn_200 w v := by
  intro n
  induction n with
  | zero => intro x1 x2 w y v h; rw [x_indexIn_200_2] at h; cases h
  | succ n ih =>
    intro x1 x2 w y v h
    rw [x_indexIn_200_2] at h
    by_cases hc : 4 ≤ x2
    · rw [if_pos hc] at h
      exact (fr_r S_x_indexIn_200 w).trans (f_x_indexIn_200_23 N  _ _ _ h)
    · rw [if_neg hc] at h
      obtain ⟨_, h⟩ := aw_cks h
      by_cases hc : (List.getD [112, 119, 107, 98] (x2.toNat) 0 : Int) = x1
      · rw [if_pos hc] at h
        exact (fr_r S_x_indexIn_200 w).trans (f_x_indexIn_200_15 N  _ _ _ _ h)
      · rw [if_neg hc] at h
        exact (fr_r S_x_indexIn_200 w).trans (ih _ _ _ _ _ h)
theorem f_x_indexIn_200 (N : Nat) : ∀ (x1 : Int) (w : aw_W) (y : Int) (v : aw_W), x_indexIn_200 N x1 w = some (y, v) → fr_ S_x_indexIn_200 w v := by
  intro x1 w y v h
  unfold x_indexIn_200 at h
  exact (fr_r S_x_indexIn_200 w).trans (f_x_indexIn_200_2 N  N _ _ _ _ _ h)
def S_x_Land_readItems_1_200_201_202_8 : List (Nat × Nat) := [(1, 2), (8, 1000000)]
theorem f_x_Land_readItems_1_200_201_202_8_128 (N : Nat) : ∀ (w : aw_W) (y : Int) (v : aw_W), x_Land_readItems_1_200_201_202_8_128 N w = some (y, v) → fr_ S_x_Land_readItems_1_200_201_202_8 w v := by
  intro w y v h
  unfold x_Land_readItems_1_200_201_202_8_128 at h
  cases h
  exact fr_r S_x_Land_readItems_1_200_201_202_8 w
theorem f_x_Land_readItems_1_200_201_202_8_100 (N : Nat) : ∀ (w : aw_W) (y : Int) (v : aw_W), x_Land_readItems_1_200_201_202_8_100 N w = some (y, v) → fr_ S_x_Land_readItems_1_200_201_202_8 w v := by
  intro w y v h
  unfold x_Land_readItems_1_200_201_202_8_100 at h
  cases h
  exact (fr_r S_x_Land_readItems_1_200_201_202_8 w).up (by rfl)
theorem f_x_Land_readItems_1_200_201_202_8_80 (N : Nat) : ∀ (w : aw_W) (y : Int) (v : aw_W), x_Land_readItems_1_200_201_202_8_80 N w = some (y, v) → fr_ S_x_Land_readItems_1_200_201_202_8 w v := by
  intro w y v h
  unfold x_Land_readItems_1_200_201_202_8_80 at h
  cases h
  exact fr_r S_x_Land_readItems_1_200_201_202_8 w
theorem f_x_Land_readItems_1_200_201_202_8_41 (N : Nat) : ∀ (w : aw_W) (y : Int) (v : aw_W), x_Land_readItems_1_200_201_202_8_41 N w = some (y, v) → fr_ S_x_Land_readItems_1_200_201_202_8 w v := by
  intro w y v h
  unfold x_Land_readItems_1_200_201_202_8_41 at h
  cases h
  exact fr_r S_x_Land_readItems_1_200_201_202_8 w
theorem f_x_Land_readItems_1_200_201_202_8_29 (N : Nat) : ∀ (w : aw_W) (y : Int) (v : aw_W), x_Land_readItems_1_200_201_202_8_29 N w = some (y, v) → fr_ S_x_Land_readItems_1_200_201_202_8 w v := by
  intro w y v h
  unfold x_Land_readItems_1_200_201_202_8_29 at h
  cases h
  exact fr_r S_x_Land_readItems_1_200_201_202_8 w
theorem f_x_Land_readItems_1_200_201_202_8_6 (N : Nat) : ∀ (n : Nat) (x5 x6 x7 : Int) (w : aw_W) (y : Int) (v : aw_W), x_Land_readItems_1_200_201_202_8_6 N n x5 x6 x7 w = some (y, v) → fr_ S_x_Land_readItems_1_200_201_202_8 w v := by
  intro n
  induction n with
  | zero => intro x5 x6 x7 w y v h; rw [x_Land_readItems_1_200_201_202_8_6] at h; cases h
  | succ n ih =>
    intro x5 x6 x7 w y v h
    rw [x_Land_readItems_1_200_201_202_8_6] at h
    by_cases hc : 4 < x7
    · rw [if_pos hc] at h
      exact (fr_r S_x_Land_readItems_1_200_201_202_8 w).trans (f_x_Land_readItems_1_200_201_202_8_128 N  _ _ _ h)
    · rw [if_neg hc] at h
      obtain ⟨r1, w1, h1, h⟩ := aw_b2s h
      have c1 := (fr_r S_x_Land_readItems_1_200_201_202_8 w).trans (fr_m (by decide) (f_x_Tape_sign N _ _ _ h1))
      obtain ⟨r2, w2, h2, h⟩ := aw_b2s h
      have c2 := (c1).trans (fr_m (by decide) (f_x_indexIn_200 N _ _ _ _ h2))
      by_cases hc : r2 = (-1)
      · rw [if_pos hc] at h
        exact (c2).trans (f_x_Land_readItems_1_200_201_202_8_29 N  _ _ _ h)
      · rw [if_neg hc] at h
        by_cases hc : (aw_and (aw_shr x6 r2) 1) = 0
        · rw [if_pos hc] at h
          obtain ⟨r3, w3, h3, h⟩ := aw_b2s h
          have c3 := ((c2).up (by rfl)).trans (fr_m (by decide) (f_x_Tape_sign N _ _ _ h3))
          obtain ⟨r4, w4, h4, h⟩ := aw_b2s h
          have c4 := (c3).trans (fr_m (by decide) (f_x_Tape_number N _ _ _ _ h4))
          by_cases hc : r4 = (-1)
          · rw [if_pos hc] at h
            exact (c4).trans (f_x_Land_readItems_1_200_201_202_8_80 N  _ _ _ h)
          · rw [if_neg hc] at h
            obtain ⟨_, h⟩ := aw_cks h
            by_cases hc : r4 < (List.getD [1, 0, 0, 0] (r2.toNat) 0 : Int)
            · rw [if_pos hc] at h
              exact (c4).trans (f_x_Land_readItems_1_200_201_202_8_100 N  _ _ _ h)
            · rw [if_neg hc] at h
              obtain ⟨_, h⟩ := aw_cks h
              by_cases hc : r4 ≤ (List.getD [9, 99, 4, 9] (r2.toNat) 0 : Int)
              · rw [if_pos hc] at h
                obtain ⟨_, h⟩ := aw_cks h
                exact ((c4).upA (by rfl)).trans (ih _ _ _ _ _ _ h)
              · rw [if_neg hc] at h
                exact (c4).trans (f_x_Land_readItems_1_200_201_202_8_100 N  _ _ _ h)
        · rw [if_neg hc] at h
          exact (c2).trans (f_x_Land_readItems_1_200_201_202_8_41 N  _ _ _ h)
theorem f_x_Land_readItems_1_200_201_202_8 (N : Nat) : ∀ (x5 : Int) (w : aw_W) (y : Int) (v : aw_W), x_Land_readItems_1_200_201_202_8 N x5 w = some (y, v) → fr_ S_x_Land_readItems_1_200_201_202_8 w v := by
  intro x5 w y v h
  unfold x_Land_readItems_1_200_201_202_8 at h
  exact (fr_r S_x_Land_readItems_1_200_201_202_8 w).trans (f_x_Land_readItems_1_200_201_202_8_6 N  N _ _ _ _ _ _ h)
def S_x_Land_readClause : List (Nat × Nat) := [(1, 2), (7, 3), (7, 4), (8, 1000000), (9, 1000000)]
theorem f_x_Land_readClause_126 (N : Nat) : ∀ (w : aw_W) (y : Int) (v : aw_W), x_Land_readClause_126 N w = some (y, v) → fr_ S_x_Land_readClause w v := by
  intro w y v h
  unfold x_Land_readClause_126 at h
  cases h
  exact fr_r S_x_Land_readClause w
theorem f_x_Land_readClause_79 (N : Nat) : ∀ (x2 : Int) (w : aw_W) (y : Int) (v : aw_W), x_Land_readClause_79 N x2 w = some (y, v) → fr_ S_x_Land_readClause w v := by
  intro x2 w y v h
  unfold x_Land_readClause_79 at h
  by_cases hc : x2 = 108
  · rw [if_pos hc] at h
    by_cases hc : (w 7 3) = 0
    · rw [if_pos hc] at h
      obtain ⟨r1, w1, h1, h⟩ := aw_b2s h
      have c1 := (((fr_r S_x_Land_readClause w).up (by rfl)).up (by rfl)).trans (fr_m (by decide) (f_x_Land_readItems N _ _ _ _ h1))
      obtain ⟨_, h⟩ := aw_cks h
      cases h
      exact c1
    · rw [if_neg hc] at h
      exact (fr_r S_x_Land_readClause w).trans (f_x_Land_readClause_126 N  _ _ _ h)
  · rw [if_neg hc] at h
    exact (fr_r S_x_Land_readClause w).trans (f_x_Land_readClause_126 N  _ _ _ h)
theorem f_x_Land_readClause (N : Nat) : ∀ (w : aw_W) (y : Int) (v : aw_W), x_Land_readClause N w = some (y, v) → fr_ S_x_Land_readClause w v := by
  intro w y v h
  unfold x_Land_readClause at h
  obtain ⟨r1, w1, h1, h⟩ := aw_b2s h
  have c1 := (fr_r S_x_Land_readClause w).trans (fr_m (by decide) (f_x_Tape_sign N _ _ _ h1))
  by_cases hc : r1 = 115
  · rw [if_pos hc] at h
    by_cases hc : 6 ≤ (w1 7 4)
    · rw [if_pos hc] at h
      exact (c1).trans (f_x_Land_readClause_79 N  _ _ _ _ h)
    · rw [if_neg hc] at h
      obtain ⟨_, h⟩ := aw_cks h
      obtain ⟨r2, w2, h2, h⟩ := aw_b2s h
      have c2 := ((((c1).up (by rfl)).up (by rfl)).cpy (by rfl)).trans (fr_m (by decide) (f_x_Land_readItems_1_200_201_202_8 N _ _ _ _ h2))
      obtain ⟨_, h⟩ := aw_cks h
      cases h
      exact c2
  · rw [if_neg hc] at h
    exact (c1).trans (f_x_Land_readClause_79 N  _ _ _ _ h)
def S_x_Land_read : List (Nat × Nat) := [(1, 2), (7, 3), (7, 4), (8, 1000000), (9, 1000000)]
theorem f_x_Land_read_92 (N : Nat) : ∀ (s0 : Int) (w : aw_W) (y : Int) (v : aw_W), x_Land_read_92 N s0 w = some (y, v) → fr_ S_x_Land_read w v := by
  intro s0 w y v h
  unfold x_Land_read_92 at h
  cases h
  exact fr_r S_x_Land_read w
theorem f_x_Land_read_84 (N : Nat) : ∀ (w : aw_W) (y : Int) (v : aw_W), x_Land_read_84 N w = some (y, v) → fr_ S_x_Land_read w v := by
  intro w y v h
  unfold x_Land_read_84 at h
  exact (fr_r S_x_Land_read w).trans (f_x_Land_read_92 N  _ _ _ _ h)
theorem f_x_Land_read_69 (N : Nat) : ∀ (w : aw_W) (y : Int) (v : aw_W), x_Land_read_69 N w = some (y, v) → fr_ S_x_Land_read w v := by
  intro w y v h
  unfold x_Land_read_69 at h
  obtain ⟨r1, w1, h1, h⟩ := aw_b2s h
  have c1 := (fr_r S_x_Land_read w).trans (fr_m (by decide) (f_x_Tape_sign N _ _ _ h1))
  by_cases hc : r1 = 0
  · rw [if_pos hc] at h
    by_cases hc : 2 ≤ (w1 7 4)
    · rw [if_pos hc] at h
      exact (c1).trans (f_x_Land_read_92 N  _ _ _ _ h)
    · rw [if_neg hc] at h
      exact (c1).trans (f_x_Land_read_84 N  _ _ _ h)
  · rw [if_neg hc] at h
    exact (c1).trans (f_x_Land_read_84 N  _ _ _ h)
theorem f_x_Land_read_51 (N : Nat) : ∀ (w : aw_W) (y : Int) (v : aw_W), x_Land_read_51 N w = some (y, v) → fr_ S_x_Land_read w v := by
  intro w y v h
  unfold x_Land_read_51 at h
  cases h
  exact fr_r S_x_Land_read w
theorem f_x_Land_read_32 (N : Nat) : ∀ (n : Nat) (x2 x3 : Int) (w : aw_W) (y : Int) (v : aw_W), x_Land_read_32 N n x2 x3 w = some (y, v) → fr_ S_x_Land_read w v := by
  intro n
  induction n with
  | zero => intro x2 x3 w y v h; rw [x_Land_read_32] at h; cases h
  | succ n ih =>
    intro x2 x3 w y v h
    rw [x_Land_read_32] at h
    by_cases hc : x2 = 0
    · rw [if_pos hc] at h
      exact (fr_r S_x_Land_read w).trans (f_x_Land_read_69 N  _ _ _ h)
    · rw [if_neg hc] at h
      by_cases hc : 160 ≤ x3
      · rw [if_pos hc] at h
        exact (fr_r S_x_Land_read w).trans (f_x_Land_read_69 N  _ _ _ h)
      · rw [if_neg hc] at h
        obtain ⟨r1, w1, h1, h⟩ := aw_b2s h
        have c1 := (fr_r S_x_Land_read w).trans (fr_m (by decide) (f_x_Land_readClause N _ _ _ h1))
        by_cases hc : r1 = 0
        · rw [if_pos hc] at h
          exact (c1).trans (f_x_Land_read_51 N  _ _ _ h)
        · rw [if_neg hc] at h
          obtain ⟨r2, w2, h2, h⟩ := aw_b2s h
          have c2 := (c1).trans (fr_m (by decide) (f_x_Tape_take N _ _ _ _ h2))
          exact (c2).trans (ih _ _ _ _ _ h)
theorem f_x_Land_read (N : Nat) : ∀ (w : aw_W) (y : Int) (v : aw_W), x_Land_read N w = some (y, v) → fr_ S_x_Land_read w v := by
  intro w y v h
  unfold x_Land_read at h
  exact (((((fr_r S_x_Land_read w).up (by rfl)).up (by rfl)).cpy (by rfl)).up (by rfl)).trans (f_x_Land_read_32 N  N _ _ _ _ _ h)
def S_x_fault : List (Nat × Nat) := [(1, 2), (7, 3), (7, 4), (8, 1000000), (9, 1000000), (11, 5), (14, 1000000)]
theorem f_x_fault (N : Nat) : ∀ (x1 : Int) (w : aw_W) (y : Int) (v : aw_W), x_fault N x1 w = some (y, v) → fr_ S_x_fault w v := by
  intro x1 w y v h
  unfold x_fault at h
  by_cases hc : x1 = 0
  · rw [if_pos hc] at h
    obtain ⟨r2, w2, h2, h⟩ := aw_b2s h
    have c2 := (fr_r S_x_fault w).trans (fr_m (by decide) (f_x_Land_read N _ _ _ h2))
    cases h
    exact c2
  · rw [if_neg hc] at h
    by_cases hc : x1 = 1
    · rw [if_pos hc] at h
      obtain ⟨r1, w1, h1, h⟩ := aw_b2s h
      have c1 := (fr_r S_x_fault w).trans (fr_m (by decide) (f_x_Rules_read N _ _ _ h1))
      cases h
      exact c1
    · rw [if_neg hc] at h
      cases h
      exact fr_r S_x_fault w
def S_x_Tape_filled : List (Nat × Nat) := []
theorem f_x_Tape_filled_28 (N : Nat) : ∀ (x1 : Int) (w : aw_W) (y : Int) (v : aw_W), x_Tape_filled_28 N x1 w = some (y, v) → fr_ S_x_Tape_filled w v := by
  intro x1 w y v h
  unfold x_Tape_filled_28 at h
  cases h
  exact fr_r S_x_Tape_filled w
theorem f_x_Tape_filled_22 (N : Nat) (k5 : Int → Int → Int → aw_W → Option (Int × aw_W)) (hk5 : ∀ (x0 x1 x2 : Int) (w : aw_W) (y : Int) (v : aw_W), k5 x0 x1 x2 w = some (y, v) → fr_ S_x_Tape_filled w v) : ∀ (x0 x1 x2 : Int) (w : aw_W) (y : Int) (v : aw_W), x_Tape_filled_22 N k5 x0 x1 x2 w = some (y, v) → fr_ S_x_Tape_filled w v := by
  intro x0 x1 x2 w y v h
  unfold x_Tape_filled_22 at h
  exact (fr_r S_x_Tape_filled w).trans (hk5 _ _ _ _ _ _ h)
theorem f_x_Tape_filled_5 (N : Nat) : ∀ (n : Nat) (x0 x1 x2 : Int) (w : aw_W) (y : Int) (v : aw_W), x_Tape_filled_5 N n x0 x1 x2 w = some (y, v) → fr_ S_x_Tape_filled w v := by
  intro n
  induction n with
  | zero => intro x0 x1 x2 w y v h; rw [x_Tape_filled_5] at h; cases h
  | succ n ih =>
    intro x0 x1 x2 w y v h
    rw [x_Tape_filled_5] at h
    by_cases hc : x2 < 0
    · rw [if_pos hc] at h
      exact (fr_r S_x_Tape_filled w).trans (f_x_Tape_filled_28 N  _ _ _ _ h)
    · rw [if_neg hc] at h
      by_cases hc : (aw_and (aw_ushr x0 x2) 255) = 0
      · rw [if_pos hc] at h
        exact (fr_r S_x_Tape_filled w).trans (f_x_Tape_filled_22 N  _ ih _ _ _ _ _ _ h)
      · rw [if_neg hc] at h
        exact (fr_r S_x_Tape_filled w).trans (f_x_Tape_filled_22 N  _ ih _ _ _ _ _ _ h)
theorem f_x_Tape_filled (N : Nat) : ∀ (x0 : Int) (w : aw_W) (y : Int) (v : aw_W), x_Tape_filled N x0 w = some (y, v) → fr_ S_x_Tape_filled w v := by
  intro x0 w y v h
  unfold x_Tape_filled at h
  exact (fr_r S_x_Tape_filled w).trans (f_x_Tape_filled_5 N  N _ _ _ _ _ _ h)
def S_x_Tape_add : List (Nat × Nat) := [(1, 1), (2, 1000000)]
theorem f_x_Tape_add_57 (N : Nat) : ∀ (w v : aw_W), x_Tape_add_57 N w = some v → fr_ S_x_Tape_add w v := by
  intro w v h
  unfold x_Tape_add_57 at h
  cases h
  exact fr_r S_x_Tape_add w
theorem f_x_Tape_add_51 (N : Nat) (k3 : Int → Int → aw_W → Option (aw_W)) (hk3 : ∀ (x1 x2 : Int) (w v : aw_W), k3 x1 x2 w = some v → fr_ S_x_Tape_add w v) : ∀ (x1 x2 : Int) (w v : aw_W), x_Tape_add_51 N k3 x1 x2 w = some v → fr_ S_x_Tape_add w v := by
  intro x1 x2 w v h
  unfold x_Tape_add_51 at h
  exact (fr_r S_x_Tape_add w).trans (hk3 _ _ _ _ h)
theorem f_x_Tape_add_3 (N : Nat) : ∀ (n : Nat) (x1 x2 : Int) (w v : aw_W), x_Tape_add_3 N n x1 x2 w = some v → fr_ S_x_Tape_add w v := by
  intro n
  induction n with
  | zero => intro x1 x2 w v h; rw [x_Tape_add_3] at h; cases h
  | succ n ih =>
    intro x1 x2 w v h
    rw [x_Tape_add_3] at h
    by_cases hc : x2 < 0
    · rw [if_pos hc] at h
      exact (fr_r S_x_Tape_add w).trans (f_x_Tape_add_57 N  _ _ h)
    · rw [if_neg hc] at h
      by_cases hc : (aw_and (aw_ushr x1 x2) 255) = 0
      · rw [if_pos hc] at h
        exact (fr_r S_x_Tape_add w).trans (f_x_Tape_add_51 N  _ ih _ _ _ _ h)
      · rw [if_neg hc] at h
        by_cases hc : 160 ≤ (w 1 1)
        · rw [if_pos hc] at h
          exact (fr_r S_x_Tape_add w).trans (f_x_Tape_add_51 N  _ ih _ _ _ _ h)
        · rw [if_neg hc] at h
          obtain ⟨_, h⟩ := aw_cks h
          exact (((fr_r S_x_Tape_add w).upA (by rfl)).up (by rfl)).trans (f_x_Tape_add_51 N  _ ih _ _ _ _ h)
theorem f_x_Tape_add (N : Nat) : ∀ (x1 : Int) (w v : aw_W), x_Tape_add N x1 w = some v → fr_ S_x_Tape_add w v := by
  intro x1 w v h
  unfold x_Tape_add at h
  exact (fr_r S_x_Tape_add w).trans (f_x_Tape_add_3 N  N _ _ _ _ h)
def S_x_feed : List (Nat × Nat) := [(1, 1), (2, 1000000)]
theorem f_x_feed (N : Nat) : ∀ (x1 x2 x3 x4 x5 : Int) (w : aw_W) (y : Int) (v : aw_W), x_feed N x1 x2 x3 x4 x5 w = some (y, v) → fr_ S_x_feed w v := by
  intro x1 x2 x3 x4 x5 w y v h
  unfold x_feed at h
  obtain ⟨r1, w1, h1, h⟩ := aw_b2s h
  have c1 := (fr_r S_x_feed w).trans (fr_m (by decide) (f_x_Tape_filled N _ _ _ _ h1))
  obtain ⟨r2, w2, h2, h⟩ := aw_b2s h
  have c2 := (c1).trans (fr_m (by decide) (f_x_Tape_filled N _ _ _ _ h2))
  obtain ⟨r3, w3, h3, h⟩ := aw_b2s h
  have c3 := (c2).trans (fr_m (by decide) (f_x_Tape_filled N _ _ _ _ h3))
  obtain ⟨r4, w4, h4, h⟩ := aw_b2s h
  have c4 := (c3).trans (fr_m (by decide) (f_x_Tape_filled N _ _ _ _ h4))
  obtain ⟨r5, w5, h5, h⟩ := aw_b2s h
  have c5 := (c4).trans (fr_m (by decide) (f_x_Tape_filled N _ _ _ _ h5))
  by_cases hc : (aw_w ((w5 1 1) + (aw_w ((aw_w ((aw_w ((aw_w (r1 + r2)) + r3)) + r4)) + r5)))) ≤ 160
  · rw [if_pos hc] at h
    obtain ⟨w6, h6, h⟩ := aw_b1s h
    have c6 := (c5).trans (fr_m (by decide) (f_x_Tape_add N _ _ _ h6))
    obtain ⟨w7, h7, h⟩ := aw_b1s h
    have c7 := (c6).trans (fr_m (by decide) (f_x_Tape_add N _ _ _ h7))
    obtain ⟨w8, h8, h⟩ := aw_b1s h
    have c8 := (c7).trans (fr_m (by decide) (f_x_Tape_add N _ _ _ h8))
    obtain ⟨w9, h9, h⟩ := aw_b1s h
    have c9 := (c8).trans (fr_m (by decide) (f_x_Tape_add N _ _ _ h9))
    obtain ⟨w10, h10, h⟩ := aw_b1s h
    have c10 := (c9).trans (fr_m (by decide) (f_x_Tape_add N _ _ _ h10))
    cases h
    exact c10
  · rw [if_neg hc] at h
    cases h
    exact c5
def S_x_Land_holdsSome : List (Nat × Nat) := []
theorem f_x_Land_holdsSome_17 (N : Nat) : ∀ (s0 : Int) (w : aw_W) (y : Int) (v : aw_W), x_Land_holdsSome_17 N s0 w = some (y, v) → fr_ S_x_Land_holdsSome w v := by
  intro s0 w y v h
  unfold x_Land_holdsSome_17 at h
  obtain ⟨_, h⟩ := aw_cks h
  cases h
  exact fr_r S_x_Land_holdsSome w
theorem f_x_Land_holdsSome_16 (N : Nat) : ∀ (w : aw_W) (y : Int) (v : aw_W), x_Land_holdsSome_16 N w = some (y, v) → fr_ S_x_Land_holdsSome w v := by
  intro w y v h
  unfold x_Land_holdsSome_16 at h
  exact (fr_r S_x_Land_holdsSome w).trans (f_x_Land_holdsSome_17 N  _ _ _ _ h)
theorem f_x_Land_holdsSome (N : Nat) : ∀ (x1 : Int) (w : aw_W) (y : Int) (v : aw_W), x_Land_holdsSome N x1 w = some (y, v) → fr_ S_x_Land_holdsSome w v := by
  intro x1 w y v h
  unfold x_Land_holdsSome at h
  by_cases hc : x1 ≤ 0
  · rw [if_pos hc] at h
    exact (fr_r S_x_Land_holdsSome w).trans (f_x_Land_holdsSome_16 N  _ _ _ h)
  · rw [if_neg hc] at h
    obtain ⟨r1, w1, h1, h⟩ := aw_b2s h
    have c1 := (fr_r S_x_Land_holdsSome w).trans (fr_m (by decide) (f_x_Land_all N _ _ _ h1))
    by_cases hc : r1 < x1
    · rw [if_pos hc] at h
      exact (c1).trans (f_x_Land_holdsSome_16 N  _ _ _ h)
    · rw [if_neg hc] at h
      exact (c1).trans (f_x_Land_holdsSome_17 N  _ _ _ _ h)
def S_x_firm : List (Nat × Nat) := [(17, 3), (17, 4), (17, 5), (17, 6), (17, 7), (18, 2), (19, 1000000), (20, 1000000), (21, 1000000), (22, 2), (22, 3), (22, 4)]
theorem f_x_firm_22 (N : Nat) : ∀ (w : aw_W) (y : Int) (v : aw_W), x_firm_22 N w = some (y, v) → fr_ S_x_firm w v := by
  intro w y v h
  unfold x_firm_22 at h
  cases h
  exact fr_r S_x_firm w
theorem f_x_firm_48 (N : Nat) : ∀ (s0 : Int) (w : aw_W) (y : Int) (v : aw_W), x_firm_48 N s0 w = some (y, v) → fr_ S_x_firm w v := by
  intro s0 w y v h
  unfold x_firm_48 at h
  cases h
  exact fr_r S_x_firm w
theorem f_x_firm (N : Nat) : ∀ (x1 x2 : Int) (w : aw_W) (y : Int) (v : aw_W), x_firm N x1 x2 w = some (y, v) → fr_ S_x_firm w v := by
  intro x1 x2 w y v h
  unfold x_firm at h
  obtain ⟨r1, w1, h1, h⟩ := aw_b2s h
  have c1 := (fr_r S_x_firm w).trans (fr_m (by decide) (f_x_Land_holdsSome N _ _ _ _ h1))
  by_cases hc : r1 = 0
  · rw [if_pos hc] at h
    exact (c1).trans (f_x_firm_22 N  _ _ _ h)
  · rw [if_neg hc] at h
    obtain ⟨r2, w2, h2, h⟩ := aw_b2s h
    have c2 := (c1).trans (fr_m (by decide) (f_x_Sale_take N _ _ _ _ h2))
    by_cases hc : r2 = 0
    · rw [if_pos hc] at h
      exact (c2).trans (f_x_firm_22 N  _ _ _ h)
    · rw [if_neg hc] at h
      obtain ⟨w3, h3, h⟩ := aw_b1s h
      have c3 := (c2).trans (fr_m (by decide) (f_x_Replies_better N _ _ _ h3))
      by_cases hc : (w3 22 2) = (-1)
      · rw [if_pos hc] at h
        exact (c3).trans (f_x_firm_48 N  _ _ _ _ h)
      · rw [if_neg hc] at h
        exact (c3).trans (f_x_firm_48 N  _ _ _ _ h)
def S_x_gain : List (Nat × Nat) := [(17, 3), (17, 4), (17, 5), (17, 6), (18, 2), (19, 1000000), (20, 1000000), (21, 1000000)]
theorem f_x_gain_22 (N : Nat) : ∀ (w : aw_W) (y : Int) (v : aw_W), x_gain_22 N w = some (y, v) → fr_ S_x_gain w v := by
  intro w y v h
  unfold x_gain_22 at h
  cases h
  exact fr_r S_x_gain w
theorem f_x_gain (N : Nat) : ∀ (x1 x2 : Int) (w : aw_W) (y : Int) (v : aw_W), x_gain N x1 x2 w = some (y, v) → fr_ S_x_gain w v := by
  intro x1 x2 w y v h
  unfold x_gain at h
  obtain ⟨r1, w1, h1, h⟩ := aw_b2s h
  have c1 := (fr_r S_x_gain w).trans (fr_m (by decide) (f_x_Land_holds N _ _ _ _ h1))
  by_cases hc : r1 = 0
  · rw [if_pos hc] at h
    exact (c1).trans (f_x_gain_22 N  _ _ _ h)
  · rw [if_neg hc] at h
    obtain ⟨r2, w2, h2, h⟩ := aw_b2s h
    have c2 := (c1).trans (fr_m (by decide) (f_x_Sale_take N _ _ _ _ h2))
    by_cases hc : r2 = 0
    · rw [if_pos hc] at h
      exact (c2).trans (f_x_gain_22 N  _ _ _ h)
    · rw [if_neg hc] at h
      obtain ⟨w3, h3, h⟩ := aw_b1s h
      have c3 := (c2).trans (fr_m (by decide) (f_x_Sale_settle N _ _ h3))
      obtain ⟨r4, w4, h4, h⟩ := aw_b2s h
      have c4 := (c3).trans (fr_m (by decide) (f_x_Sale_gainOf N _ _ _ _ h4))
      cases h
      exact c4
def S_x_Book_add : List (Nat × Nat) := [(41, 4), (42, 1000000)]
theorem f_x_Book_add_32 (N : Nat) : ∀ (w v : aw_W), x_Book_add_32 N w = some v → fr_ S_x_Book_add w v := by
  intro w v h
  unfold x_Book_add_32 at h
  cases h
  exact fr_r S_x_Book_add w
theorem f_x_Book_add (N : Nat) : ∀ (x1 : Int) (w v : aw_W), x_Book_add N x1 w = some v → fr_ S_x_Book_add w v := by
  intro x1 w v h
  unfold x_Book_add at h
  by_cases hc : 40 ≤ (w 41 4)
  · rw [if_pos hc] at h
    exact (fr_r S_x_Book_add w).trans (f_x_Book_add_32 N  _ _ h)
  · rw [if_neg hc] at h
    obtain ⟨_, h⟩ := aw_cks h
    exact (((fr_r S_x_Book_add w).upA (by rfl)).up (by rfl)).trans (f_x_Book_add_32 N  _ _ h)
def S_x_honour : List (Nat × Nat) := [(21, 1000000), (41, 4), (42, 1000000)]
theorem f_x_honour_23 (N : Nat) : ∀ (w : aw_W) (y : Int) (v : aw_W), x_honour_23 N w = some (y, v) → fr_ S_x_honour w v := by
  intro w y v h
  unfold x_honour_23 at h
  cases h
  exact fr_r S_x_honour w
theorem f_x_honour (N : Nat) : ∀ (x1 : Int) (w : aw_W) (y : Int) (v : aw_W), x_honour N x1 w = some (y, v) → fr_ S_x_honour w v := by
  intro x1 w y v h
  unfold x_honour at h
  by_cases hc : 40 ≤ (w 41 4)
  · rw [if_pos hc] at h
    exact (fr_r S_x_honour w).trans (f_x_honour_23 N  _ _ _ h)
  · rw [if_neg hc] at h
    obtain ⟨r1, w1, h1, h⟩ := aw_b2s h
    have c1 := (fr_r S_x_honour w).trans (fr_m (by decide) (f_x_Sale_take N _ _ _ _ h1))
    by_cases hc : r1 = 0
    · rw [if_pos hc] at h
      exact (c1).trans (f_x_honour_23 N  _ _ _ h)
    · rw [if_neg hc] at h
      obtain ⟨w2, h2, h⟩ := aw_b1s h
      have c2 := (c1).trans (fr_m (by decide) (f_x_Book_add N _ _ _ h2))
      cases h
      exact c2
def S_x_hope : List (Nat × Nat) := [(17, 3), (17, 4), (17, 5), (17, 6), (18, 2), (19, 1000000), (20, 1000000), (21, 1000000), (22, 7), (22, 8)]
theorem f_x_hope_44 (N : Nat) : ∀ (w : aw_W) (y : Int) (v : aw_W), x_hope_44 N w = some (y, v) → fr_ S_x_hope w v := by
  intro w y v h
  unfold x_hope_44 at h
  cases h
  exact fr_r S_x_hope w
theorem f_x_hope_77 (N : Nat) : ∀ (s0 : Int) (w : aw_W) (y : Int) (v : aw_W), x_hope_77 N s0 w = some (y, v) → fr_ S_x_hope w v := by
  intro s0 w y v h
  unfold x_hope_77 at h
  cases h
  exact fr_r S_x_hope w
theorem f_x_hope (N : Nat) : ∀ (x1 x2 x3 : Int) (w : aw_W) (y : Int) (v : aw_W), x_hope N x1 x2 x3 w = some (y, v) → fr_ S_x_hope w v := by
  intro x1 x2 x3 w y v h
  unfold x_hope at h
  obtain ⟨r1, w1, h1, h⟩ := aw_b2s h
  have c1 := (fr_r S_x_hope w).trans (fr_m (by decide) (f_x_isSmall N _ _ _ h1))
  by_cases hc : r1 = 0
  · rw [if_pos hc] at h
    exact (c1).trans (f_x_hope_44 N  _ _ _ h)
  · rw [if_neg hc] at h
    obtain ⟨r2, w2, h2, h⟩ := aw_b2s h
    have c2 := (c1).trans (fr_m (by decide) (f_x_Land_holds N _ _ _ _ h2))
    by_cases hc : r2 = 0
    · rw [if_pos hc] at h
      exact (c2).trans (f_x_hope_44 N  _ _ _ h)
    · rw [if_neg hc] at h
      by_cases hc : x2 < 0
      · rw [if_pos hc] at h
        exact (c2).trans (f_x_hope_44 N  _ _ _ h)
      · rw [if_neg hc] at h
        by_cases hc : (w2 5 4) < x2
        · rw [if_pos hc] at h
          exact (c2).trans (f_x_hope_44 N  _ _ _ h)
        · rw [if_neg hc] at h
          by_cases hc : x3 < 0
          · rw [if_pos hc] at h
            exact (c2).trans (f_x_hope_44 N  _ _ _ h)
          · rw [if_neg hc] at h
            by_cases hc : x3 ≤ 1
            · rw [if_pos hc] at h
              obtain ⟨w3, h3, h⟩ := aw_b1s h
              have c3 := (c2).trans (fr_m (by decide) (f_x_Replies_against N _ _ _ _ h3))
              by_cases hc : x3 = 0
              · rw [if_pos hc] at h
                exact (c3).trans (f_x_hope_77 N  _ _ _ _ h)
              · rw [if_neg hc] at h
                exact (c3).trans (f_x_hope_77 N  _ _ _ _ h)
            · rw [if_neg hc] at h
              exact (c2).trans (f_x_hope_44 N  _ _ _ h)
