def S_x_waits : List (Nat × Nat) := [(35, 1000000), (36, 1000000), (37, 1000000), (38, 1000000)]
theorem f_x_waits_22 (N : Nat) : ∀ (w : aw_W) (y : Int) (v : aw_W), x_waits_22 N w = some (y, v) → fr_ S_x_waits w v := by
  intro w y v h
  unfold x_waits_22 at h
  cases h
  exact fr_r S_x_waits w
theorem f_x_waits (N : Nat) : ∀ (x1 x2 : Int) (w : aw_W) (y : Int) (v : aw_W), x_waits N x1 x2 w = some (y, v) → fr_ S_x_waits w v := by
  intro x1 x2 w y v h
  unfold x_waits at h
  obtain ⟨r1, w1, h1, h⟩ := aw_b2s h
  have c1 := (fr_r S_x_waits w).trans (fr_m (by decide) (f_x_Land_holds N _ _ _ _ h1))
  by_cases hc : r1 = 0
  · rw [if_pos hc] at h
    exact (c1).trans (f_x_waits_22 N  _ _ _ h)
  · rw [if_neg hc] at h
    by_cases hc : x1 < 1
    · rw [if_pos hc] at h
      exact (c1).trans (f_x_waits_22 N  _ _ _ h)
    · rw [if_neg hc] at h
      by_cases hc : x1 ≤ 60
      · rw [if_pos hc] at h
        obtain ⟨w2, h2, h⟩ := aw_b1s h
        have c2 := (c1).trans (fr_m (by decide) (f_x_Waiting_behindTheFirst N _ _ _ h2))
        obtain ⟨r3, w3, h3, h⟩ := aw_b2s h
        have c3 := (c2).trans (fr_m (by decide) (f_x_Waiting_tillTheFirst N _ _ _ _ _ h3))
        obtain ⟨r4, w4, h4, h⟩ := aw_b2s h
        have c4 := (c3).trans (fr_m (by decide) (f_x_Waiting_turnOf N _ _ _ _ _ h4))
        cases h
        exact c4
      · rw [if_neg hc] at h
        exact (c1).trans (f_x_waits_22 N  _ _ _ h)
def S_x_without : List (Nat × Nat) := [(15, 1000000), (16, 1000000), (26, 7), (26, 8), (27, 2), (28, 1000000), (29, 1000000), (30, 1000000), (31, 1000000), (32, 1000000), (33, 1000000)]
theorem f_x_without_19 (N : Nat) : ∀ (w : aw_W) (y : Int) (v : aw_W), x_without_19 N w = some (y, v) → fr_ S_x_without w v := by
  intro w y v h
  unfold x_without_19 at h
  cases h
  exact fr_r S_x_without w
theorem f_x_without (N : Nat) : ∀ (x1 x2 x3 : Int) (w : aw_W) (y : Int) (v : aw_W), x_without N x1 x2 x3 w = some (y, v) → fr_ S_x_without w v := by
  intro x1 x2 x3 w y v h
  unfold x_without at h
  obtain ⟨r1, w1, h1, h⟩ := aw_b2s h
  have c1 := (fr_r S_x_without w).trans (fr_m (by decide) (f_x_Land_holds N _ _ _ _ h1))
  by_cases hc : r1 = 0
  · rw [if_pos hc] at h
    exact (c1).trans (f_x_without_19 N  _ _ _ h)
  · rw [if_neg hc] at h
    obtain ⟨r2, w2, h2, h⟩ := aw_b2s h
    have c2 := (c1).trans (fr_m (by decide) (f_x_mayRun N _ _ _ _ _ h2))
    by_cases hc : r2 = 0
    · rw [if_pos hc] at h
      exact (c2).trans (f_x_without_19 N  _ _ _ h)
    · rw [if_neg hc] at h
      obtain ⟨r3, w3, h3, h⟩ := aw_b2s h
      have c3 := (c2).trans (fr_m (by decide) (f_x_holderWith N _ _ _ _ _ _ _ h3))
      cases h
      exact c3
def S_x_Book_drawOf : List (Nat × Nat) := []
theorem f_x_Book_drawOf_16 (N : Nat) : ∀ (s0 : Int) (w : aw_W) (y : Int) (v : aw_W), x_Book_drawOf_16 N s0 w = some (y, v) → fr_ S_x_Book_drawOf w v := by
  intro s0 w y v h
  unfold x_Book_drawOf_16 at h
  cases h
  exact fr_r S_x_Book_drawOf w
theorem f_x_Book_drawOf (N : Nat) : ∀ (x0 x1 : Int) (w : aw_W) (y : Int) (v : aw_W), x_Book_drawOf N x0 x1 w = some (y, v) → fr_ S_x_Book_drawOf w v := by
  intro x0 x1 w y v h
  unfold x_Book_drawOf at h
  by_cases hc : x0 ≤ 0
  · rw [if_pos hc] at h
    exact (fr_r S_x_Book_drawOf w).trans (f_x_Book_drawOf_16 N  _ _ _ _ h)
  · rw [if_neg hc] at h
    obtain ⟨_, h⟩ := aw_cks h
    exact (fr_r S_x_Book_drawOf w).trans (f_x_Book_drawOf_16 N  _ _ _ _ h)
def S_x_Book_draw : List (Nat × Nat) := [(21, 1000000), (41, 4), (42, 1000000)]
theorem f_x_Book_draw_88 (N : Nat) : ∀ (w v : aw_W), x_Book_draw_88 N w = some v → fr_ S_x_Book_draw w v := by
  intro w v h
  unfold x_Book_draw_88 at h
  cases h
  exact fr_r S_x_Book_draw w
theorem f_x_Book_draw_71 (N : Nat) (k6 : Int → Int → Int → aw_W → Option (aw_W)) (hk6 : ∀ (x1 x4 x6 : Int) (w v : aw_W), k6 x1 x4 x6 w = some v → fr_ S_x_Book_draw w v) : ∀ (x1 x4 x6 : Int) (w v : aw_W), x_Book_draw_71 N k6 x1 x4 x6 w = some v → fr_ S_x_Book_draw w v := by
  intro x1 x4 x6 w v h
  unfold x_Book_draw_71 at h
  obtain ⟨r1, w1, h1, h⟩ := aw_b2s h
  have c1 := (fr_r S_x_Book_draw w).trans (fr_m (by decide) (f_x_Sale_row N _ _ _ h1))
  obtain ⟨w2, h2, h⟩ := aw_b1s h
  have c2 := (c1).trans (fr_m (by decide) (f_x_Book_add N _ _ _ h2))
  exact (c2).trans (hk6 _ _ _ _ _ h)
theorem f_x_Book_draw_15 (N : Nat) (k6 : Int → Int → Int → aw_W → Option (aw_W)) (hk6 : ∀ (x1 x4 x6 : Int) (w v : aw_W), k6 x1 x4 x6 w = some v → fr_ S_x_Book_draw w v) : ∀ (n : Nat) (x1 x4 x6 x7 : Int) (w v : aw_W), x_Book_draw_15 N k6 n x1 x4 x6 x7 w = some v → fr_ S_x_Book_draw w v := by
  intro n
  induction n with
  | zero => intro x1 x4 x6 x7 w v h; rw [x_Book_draw_15] at h; cases h
  | succ n ih =>
    intro x1 x4 x6 x7 w v h
    rw [x_Book_draw_15] at h
    by_cases hc : (w 3 4) ≤ x7
    · rw [if_pos hc] at h
      exact (fr_r S_x_Book_draw w).trans (f_x_Book_draw_71 N  _ hk6 _ _ _ _ _ h)
    · rw [if_neg hc] at h
      obtain ⟨r1, w1, h1, h⟩ := aw_b2s h
      have c1 := (fr_r S_x_Book_draw w).trans (fr_m (by decide) (f_x_Book_drawOf N _ _ _ _ _ h1))
      obtain ⟨_, h⟩ := aw_cks h
      exact ((c1).upA (by rfl)).trans (ih _ _ _ _ _ _ h)
theorem f_x_Book_draw_6 (N : Nat) : ∀ (n : Nat) (x1 x4 x6 : Int) (w v : aw_W), x_Book_draw_6 N n x1 x4 x6 w = some v → fr_ S_x_Book_draw w v := by
  intro n
  induction n with
  | zero => intro x1 x4 x6 w v h; rw [x_Book_draw_6] at h; cases h
  | succ n ih =>
    intro x1 x4 x6 w v h
    rw [x_Book_draw_6] at h
    by_cases hc : x1 ≤ x6
    · rw [if_pos hc] at h
      exact (fr_r S_x_Book_draw w).trans (f_x_Book_draw_88 N  _ _ h)
    · rw [if_neg hc] at h
      exact (fr_r S_x_Book_draw w).trans (f_x_Book_draw_15 N  _ ih N _ _ _ _ _ _ h)
theorem f_x_Book_draw (N : Nat) : ∀ (x1 x2 : Int) (w v : aw_W), x_Book_draw N x1 x2 w = some v → fr_ S_x_Book_draw w v := by
  intro x1 x2 w v h
  unfold x_Book_draw at h
  exact (fr_r S_x_Book_draw w).trans (f_x_Book_draw_6 N  N _ _ _ _ _ h)
def S_x_years : List (Nat × Nat) := [(21, 1000000), (41, 4), (42, 1000000)]
theorem f_x_years_29 (N : Nat) : ∀ (w : aw_W) (y : Int) (v : aw_W), x_years_29 N w = some (y, v) → fr_ S_x_years w v := by
  intro w y v h
  unfold x_years_29 at h
  cases h
  exact fr_r S_x_years w
theorem f_x_years (N : Nat) : ∀ (x1 x2 : Int) (w : aw_W) (y : Int) (v : aw_W), x_years N x1 x2 w = some (y, v) → fr_ S_x_years w v := by
  intro x1 x2 w y v h
  unfold x_years at h
  by_cases hc : (w 3 4) = 0
  · rw [if_pos hc] at h
    exact (fr_r S_x_years w).trans (f_x_years_29 N  _ _ _ h)
  · rw [if_neg hc] at h
    by_cases hc : x1 < 1
    · rw [if_pos hc] at h
      exact (fr_r S_x_years w).trans (f_x_years_29 N  _ _ _ h)
    · rw [if_neg hc] at h
      by_cases hc : x1 ≤ (aw_w (40 - (w 41 4)))
      · rw [if_pos hc] at h
        obtain ⟨w1, h1, h⟩ := aw_b1s h
        have c1 := (fr_r S_x_years w).trans (fr_m (by decide) (f_x_Book_draw N _ _ _ _ h1))
        cases h
        exact c1
      · rw [if_neg hc] at h
        exact (fr_r S_x_years w).trans (f_x_years_29 N  _ _ _ h)
def S_m_back : List (Nat × Nat) := [(49, 0), (49, 43), (56, 1000000), (58, 1000000), (69, 1000000)]
theorem f_m_back_91 (N : Nat) : ∀ (w : aw_W) (y : Int) (v : aw_W), m_back_91 N w = some (y, v) → fr_ S_m_back w v := by
  intro w y v h
  unfold m_back_91 at h
  cases h
  exact (fr_r S_m_back w).up (by rfl)
theorem f_m_back_68 (N : Nat) : ∀ (n : Nat) (x1 : Int) (w : aw_W) (y : Int) (v : aw_W), m_back_68 N n x1 w = some (y, v) → fr_ S_m_back w v := by
  intro n
  induction n with
  | zero => intro x1 w y v h; rw [m_back_68] at h; cases h
  | succ n ih =>
    intro x1 w y v h
    rw [m_back_68] at h
    by_cases hc : 5 ≤ x1
    · rw [if_pos hc] at h
      exact (fr_r S_m_back w).trans (f_m_back_91 N  _ _ _ h)
    · rw [if_neg hc] at h
      obtain ⟨_, h⟩ := aw_cks h
      obtain ⟨_, h⟩ := aw_cks h
      exact ((fr_r S_m_back w).upA (by rfl)).trans (ih _ _ _ _ h)
theorem f_m_back_66 (N : Nat) : ∀ (w : aw_W) (y : Int) (v : aw_W), m_back_66 N w = some (y, v) → fr_ S_m_back w v := by
  intro w y v h
  unfold m_back_66 at h
  exact (fr_r S_m_back w).trans (f_m_back_68 N  N _ _ _ _ h)
theorem f_m_back_42 (N : Nat) : ∀ (n : Nat) (x1 : Int) (w : aw_W) (y : Int) (v : aw_W), m_back_42 N n x1 w = some (y, v) → fr_ S_m_back w v := by
  intro n
  induction n with
  | zero => intro x1 w y v h; rw [m_back_42] at h; cases h
  | succ n ih =>
    intro x1 w y v h
    rw [m_back_42] at h
    by_cases hc : 6 ≤ x1
    · rw [if_pos hc] at h
      exact (fr_r S_m_back w).trans (f_m_back_66 N  _ _ _ h)
    · rw [if_neg hc] at h
      obtain ⟨_, h⟩ := aw_cks h
      obtain ⟨_, h⟩ := aw_cks h
      exact ((fr_r S_m_back w).upA (by rfl)).trans (ih _ _ _ _ h)
theorem f_m_back_40 (N : Nat) : ∀ (w : aw_W) (y : Int) (v : aw_W), m_back_40 N w = some (y, v) → fr_ S_m_back w v := by
  intro w y v h
  unfold m_back_40 at h
  exact (fr_r S_m_back w).trans (f_m_back_42 N  N _ _ _ _ h)
theorem f_m_back_16 (N : Nat) : ∀ (n : Nat) (x1 : Int) (w : aw_W) (y : Int) (v : aw_W), m_back_16 N n x1 w = some (y, v) → fr_ S_m_back w v := by
  intro n
  induction n with
  | zero => intro x1 w y v h; rw [m_back_16] at h; cases h
  | succ n ih =>
    intro x1 w y v h
    rw [m_back_16] at h
    by_cases hc : 40 ≤ x1
    · rw [if_pos hc] at h
      exact (fr_r S_m_back w).trans (f_m_back_40 N  _ _ _ h)
    · rw [if_neg hc] at h
      obtain ⟨_, h⟩ := aw_cks h
      obtain ⟨_, h⟩ := aw_cks h
      exact ((fr_r S_m_back w).upA (by rfl)).trans (ih _ _ _ _ h)
theorem f_m_back (N : Nat) : ∀ (w : aw_W) (y : Int) (v : aw_W), m_back N w = some (y, v) → fr_ S_m_back w v := by
  intro w y v h
  unfold m_back at h
  by_cases hc : (w 49 51) = 0
  · rw [if_pos hc] at h
    cases h
    exact (fr_r S_m_back w).up (by rfl)
  · rw [if_neg hc] at h
    exact ((fr_r S_m_back w).up (by rfl)).trans (f_m_back_16 N  N _ _ _ _ h)
def S_m_isIn : List (Nat × Nat) := []
theorem f_m_isIn_18 (N : Nat) : ∀ (s0 : Int) (w : aw_W) (y : Int) (v : aw_W), m_isIn_18 N s0 w = some (y, v) → fr_ S_m_isIn w v := by
  intro s0 w y v h
  unfold m_isIn_18 at h
  obtain ⟨_, h⟩ := aw_cks h
  cases h
  exact fr_r S_m_isIn w
theorem f_m_isIn_17 (N : Nat) : ∀ (w : aw_W) (y : Int) (v : aw_W), m_isIn_17 N w = some (y, v) → fr_ S_m_isIn w v := by
  intro w y v h
  unfold m_isIn_17 at h
  exact (fr_r S_m_isIn w).trans (f_m_isIn_18 N  _ _ _ _ h)
theorem f_m_isIn (N : Nat) : ∀ (x0 x2 x4 : Int) (w : aw_W) (y : Int) (v : aw_W), m_isIn N x0 x2 x4 w = some (y, v) → fr_ S_m_isIn w v := by
  intro x0 x2 x4 w y v h
  unfold m_isIn at h
  by_cases hc : (aw_cmpL x0 x2) < 0
  · rw [if_pos hc] at h
    exact (fr_r S_m_isIn w).trans (f_m_isIn_17 N  _ _ _ h)
  · rw [if_neg hc] at h
    by_cases hc : 0 < (aw_cmpL x0 x4)
    · rw [if_pos hc] at h
      exact (fr_r S_m_isIn w).trans (f_m_isIn_17 N  _ _ _ h)
    · rw [if_neg hc] at h
      exact (fr_r S_m_isIn w).trans (f_m_isIn_18 N  _ _ _ _ h)
def S_m_lay : List (Nat × Nat) := [(64, 1000000)]
theorem f_m_lay_86 (N : Nat) : ∀ (s0 : Int) (w : aw_W) (y : Int) (v : aw_W), m_lay_86 N s0 w = some (y, v) → fr_ S_m_lay w v := by
  intro s0 w y v h
  unfold m_lay_86 at h
  obtain ⟨_, h⟩ := aw_cks h
  cases h
  exact fr_r S_m_lay w
theorem f_m_lay_85 (N : Nat) : ∀ (w : aw_W) (y : Int) (v : aw_W), m_lay_85 N w = some (y, v) → fr_ S_m_lay w v := by
  intro w y v h
  unfold m_lay_85 at h
  exact (fr_r S_m_lay w).trans (f_m_lay_86 N  _ _ _ _ h)
theorem f_m_lay_73 (N : Nat) : ∀ (x2 x3 : Int) (w : aw_W) (y : Int) (v : aw_W), m_lay_73 N x2 x3 w = some (y, v) → fr_ S_m_lay w v := by
  intro x2 x3 w y v h
  unfold m_lay_73 at h
  by_cases hc : x3 = 0
  · rw [if_pos hc] at h
    exact (fr_r S_m_lay w).trans (f_m_lay_85 N  _ _ _ h)
  · rw [if_neg hc] at h
    by_cases hc : x2 = 0
    · rw [if_pos hc] at h
      exact (fr_r S_m_lay w).trans (f_m_lay_86 N  _ _ _ _ h)
    · rw [if_neg hc] at h
      exact (fr_r S_m_lay w).trans (f_m_lay_85 N  _ _ _ h)
theorem f_m_lay_66 (N : Nat) (k20 : Int → Int → Int → aw_W → Option (Int × aw_W)) (hk20 : ∀ (x2 x3 x4 : Int) (w : aw_W) (y : Int) (v : aw_W), k20 x2 x3 x4 w = some (y, v) → fr_ S_m_lay w v) : ∀ (x2 x4 s0 : Int) (w : aw_W) (y : Int) (v : aw_W), m_lay_66 N k20 x2 x4 s0 w = some (y, v) → fr_ S_m_lay w v := by
  intro x2 x4 s0 w y v h
  unfold m_lay_66 at h
  exact (fr_r S_m_lay w).trans (hk20 _ _ _ _ _ _ h)
theorem f_m_lay_65 (N : Nat) (k20 : Int → Int → Int → aw_W → Option (Int × aw_W)) (hk20 : ∀ (x2 x3 x4 : Int) (w : aw_W) (y : Int) (v : aw_W), k20 x2 x3 x4 w = some (y, v) → fr_ S_m_lay w v) : ∀ (x2 x4 : Int) (w : aw_W) (y : Int) (v : aw_W), m_lay_65 N k20 x2 x4 w = some (y, v) → fr_ S_m_lay w v := by
  intro x2 x4 w y v h
  unfold m_lay_65 at h
  exact (fr_r S_m_lay w).trans (f_m_lay_66 N  _ hk20 _ _ _ _ _ _ h)
theorem f_m_lay_20 (N : Nat) : ∀ (n : Nat) (x2 x3 x4 : Int) (w : aw_W) (y : Int) (v : aw_W), m_lay_20 N n x2 x3 x4 w = some (y, v) → fr_ S_m_lay w v := by
  intro n
  induction n with
  | zero => intro x2 x3 x4 w y v h; rw [m_lay_20] at h; cases h
  | succ n ih =>
    intro x2 x3 x4 w y v h
    rw [m_lay_20] at h
    by_cases hc : x4 < 0
    · rw [if_pos hc] at h
      exact (fr_r S_m_lay w).trans (f_m_lay_73 N  _ _ _ _ _ h)
    · rw [if_neg hc] at h
      obtain ⟨_, h⟩ := aw_cks h
      by_cases hc : x3 = 0
      · rw [if_pos hc] at h
        exact ((fr_r S_m_lay w).upA (by rfl)).trans (f_m_lay_65 N  _ ih _ _ _ _ _ h)
      · rw [if_neg hc] at h
        obtain ⟨_, h⟩ := aw_cks h
        by_cases hc : (w 56 4) < ((aw_up w 64 x4.toNat (aw_w (Int.tmod x2 10))) 64 x4.toNat)
        · rw [if_pos hc] at h
          exact ((fr_r S_m_lay w).upA (by rfl)).trans (f_m_lay_65 N  _ ih _ _ _ _ _ h)
        · rw [if_neg hc] at h
          exact ((fr_r S_m_lay w).upA (by rfl)).trans (f_m_lay_66 N  _ ih _ _ _ _ _ _ h)
theorem f_m_lay_11 (N : Nat) : ∀ (x2 s0 : Int) (w : aw_W) (y : Int) (v : aw_W), m_lay_11 N x2 s0 w = some (y, v) → fr_ S_m_lay w v := by
  intro x2 s0 w y v h
  unfold m_lay_11 at h
  exact (fr_r S_m_lay w).trans (f_m_lay_20 N  N _ _ _ _ _ _ h)
theorem f_m_lay (N : Nat) : ∀ (x1 : Int) (w : aw_W) (y : Int) (v : aw_W), m_lay N x1 w = some (y, v) → fr_ S_m_lay w v := by
  intro x1 w y v h
  unfold m_lay at h
  by_cases hc : x1 < 0
  · rw [if_pos hc] at h
    exact (fr_r S_m_lay w).trans (f_m_lay_11 N  _ _ _ _ _ h)
  · rw [if_neg hc] at h
    exact (fr_r S_m_lay w).trans (f_m_lay_11 N  _ _ _ _ _ h)
def S_m_judge : List (Nat × Nat) := [(59, 1000000), (60, 1000000)]
theorem f_m_judge_35 (N : Nat) : ∀ (w v : aw_W), m_judge_35 N w = some v → fr_ S_m_judge w v := by
  intro w v h
  unfold m_judge_35 at h
  cases h
  exact fr_r S_m_judge w
theorem f_m_judge_2 (N : Nat) : ∀ (n : Nat) (x1 : Int) (w v : aw_W), m_judge_2 N n x1 w = some v → fr_ S_m_judge w v := by
  intro n
  induction n with
  | zero => intro x1 w v h; rw [m_judge_2] at h; cases h
  | succ n ih =>
    intro x1 w v h
    rw [m_judge_2] at h
    by_cases hc : (w 49 22) ≤ x1
    · rw [if_pos hc] at h
      exact (fr_r S_m_judge w).trans (f_m_judge_35 N  _ _ h)
    · rw [if_neg hc] at h
      obtain ⟨_, h⟩ := aw_cks h
      obtain ⟨_, h⟩ := aw_cks h
      obtain ⟨_, h⟩ := aw_cks h
      exact (((fr_r S_m_judge w).upA (by rfl)).upA (by rfl)).trans (ih _ _ _ h)
theorem f_m_judge (N : Nat) : ∀ (w v : aw_W), m_judge N w = some v → fr_ S_m_judge w v := by
  intro w v h
  unfold m_judge at h
  exact (fr_r S_m_judge w).trans (f_m_judge_2 N  N _ _ _ h)
def S_m_isAhead : List (Nat × Nat) := []
theorem f_m_isAhead_14 (N : Nat) : ∀ (w : aw_W) (y : Int) (v : aw_W), m_isAhead_14 N w = some (y, v) → fr_ S_m_isAhead w v := by
  intro w y v h
  unfold m_isAhead_14 at h
  cases h
  exact fr_r S_m_isAhead w
theorem f_m_isAhead_69 (N : Nat) : ∀ (s0 : Int) (w : aw_W) (y : Int) (v : aw_W), m_isAhead_69 N s0 w = some (y, v) → fr_ S_m_isAhead w v := by
  intro s0 w y v h
  unfold m_isAhead_69 at h
  obtain ⟨_, h⟩ := aw_cks h
  cases h
  exact fr_r S_m_isAhead w
theorem f_m_isAhead_64 (N : Nat) : ∀ (w : aw_W) (y : Int) (v : aw_W), m_isAhead_64 N w = some (y, v) → fr_ S_m_isAhead w v := by
  intro w y v h
  unfold m_isAhead_64 at h
  exact (fr_r S_m_isAhead w).trans (f_m_isAhead_69 N  _ _ _ _ h)
theorem f_m_isAhead_40 (N : Nat) : ∀ (x1 x2 : Int) (w : aw_W) (y : Int) (v : aw_W), m_isAhead_40 N x1 x2 w = some (y, v) → fr_ S_m_isAhead w v := by
  intro x1 x2 w y v h
  unfold m_isAhead_40 at h
  obtain ⟨_, h⟩ := aw_cks h
  by_cases hc : (w 60 x2.toNat) = 0
  · rw [if_pos hc] at h
    obtain ⟨_, h⟩ := aw_cks h
    obtain ⟨_, h⟩ := aw_cks h
    by_cases hc : (w 59 x1.toNat) ≤ (w 59 x2.toNat)
    · rw [if_pos hc] at h
      exact (fr_r S_m_isAhead w).trans (f_m_isAhead_69 N  _ _ _ _ h)
    · rw [if_neg hc] at h
      exact (fr_r S_m_isAhead w).trans (f_m_isAhead_64 N  _ _ _ h)
  · rw [if_neg hc] at h
    exact (fr_r S_m_isAhead w).trans (f_m_isAhead_64 N  _ _ _ h)
theorem f_m_isAhead_89 (N : Nat) : ∀ (s0 : Int) (w : aw_W) (y : Int) (v : aw_W), m_isAhead_89 N s0 w = some (y, v) → fr_ S_m_isAhead w v := by
  intro s0 w y v h
  unfold m_isAhead_89 at h
  obtain ⟨_, h⟩ := aw_cks h
  cases h
  exact fr_r S_m_isAhead w
theorem f_m_isAhead_88 (N : Nat) : ∀ (w : aw_W) (y : Int) (v : aw_W), m_isAhead_88 N w = some (y, v) → fr_ S_m_isAhead w v := by
  intro w y v h
  unfold m_isAhead_88 at h
  exact (fr_r S_m_isAhead w).trans (f_m_isAhead_89 N  _ _ _ _ h)
theorem f_m_isAhead (N : Nat) : ∀ (x1 x2 : Int) (w : aw_W) (y : Int) (v : aw_W), m_isAhead N x1 x2 w = some (y, v) → fr_ S_m_isAhead w v := by
  intro x1 x2 w y v h
  unfold m_isAhead at h
  by_cases hc : x1 = x2
  · rw [if_pos hc] at h
    exact (fr_r S_m_isAhead w).trans (f_m_isAhead_14 N  _ _ _ h)
  · rw [if_neg hc] at h
    obtain ⟨_, h⟩ := aw_cks h
    by_cases hc : (w 60 x1.toNat) = 0
    · rw [if_pos hc] at h
      obtain ⟨_, h⟩ := aw_cks h
      by_cases hc : (w 60 x2.toNat) = 0
      · rw [if_pos hc] at h
        obtain ⟨_, h⟩ := aw_cks h
        obtain ⟨_, h⟩ := aw_cks h
        by_cases hc : (w 59 x1.toNat) = (w 59 x2.toNat)
        · rw [if_pos hc] at h
          by_cases hc : (w 56 1) = 0
          · rw [if_pos hc] at h
            by_cases hc : x2 ≤ x1
            · rw [if_pos hc] at h
              exact (fr_r S_m_isAhead w).trans (f_m_isAhead_88 N  _ _ _ h)
            · rw [if_neg hc] at h
              exact (fr_r S_m_isAhead w).trans (f_m_isAhead_89 N  _ _ _ _ h)
          · rw [if_neg hc] at h
            exact (fr_r S_m_isAhead w).trans (f_m_isAhead_88 N  _ _ _ h)
        · rw [if_neg hc] at h
          exact (fr_r S_m_isAhead w).trans (f_m_isAhead_40 N  _ _ _ _ _ h)
      · rw [if_neg hc] at h
        exact (fr_r S_m_isAhead w).trans (f_m_isAhead_40 N  _ _ _ _ _ h)
    · rw [if_neg hc] at h
      exact (fr_r S_m_isAhead w).trans (f_m_isAhead_14 N  _ _ _ h)
def S_m_aheadOf : List (Nat × Nat) := []
theorem f_m_aheadOf_35 (N : Nat) : ∀ (x2 : Int) (w : aw_W) (y : Int) (v : aw_W), m_aheadOf_35 N x2 w = some (y, v) → fr_ S_m_aheadOf w v := by
  intro x2 w y v h
  unfold m_aheadOf_35 at h
  cases h
  exact fr_r S_m_aheadOf w
theorem f_m_aheadOf_27 (N : Nat) (k4 : Int → Int → Int → aw_W → Option (Int × aw_W)) (hk4 : ∀ (x1 x2 x3 : Int) (w : aw_W) (y : Int) (v : aw_W), k4 x1 x2 x3 w = some (y, v) → fr_ S_m_aheadOf w v) : ∀ (x1 x3 s0 s1 : Int) (w : aw_W) (y : Int) (v : aw_W), m_aheadOf_27 N k4 x1 x3 s0 s1 w = some (y, v) → fr_ S_m_aheadOf w v := by
  intro x1 x3 s0 s1 w y v h
  unfold m_aheadOf_27 at h
  exact (fr_r S_m_aheadOf w).trans (hk4 _ _ _ _ _ _ h)
theorem f_m_aheadOf_4 (N : Nat) : ∀ (n : Nat) (x1 x2 x3 : Int) (w : aw_W) (y : Int) (v : aw_W), m_aheadOf_4 N n x1 x2 x3 w = some (y, v) → fr_ S_m_aheadOf w v := by
  intro n
  induction n with
  | zero => intro x1 x2 x3 w y v h; rw [m_aheadOf_4] at h; cases h
  | succ n ih =>
    intro x1 x2 x3 w y v h
    rw [m_aheadOf_4] at h
    by_cases hc : (w 49 22) ≤ x3
    · rw [if_pos hc] at h
      exact (fr_r S_m_aheadOf w).trans (f_m_aheadOf_35 N  _ _ _ _ h)
    · rw [if_neg hc] at h
      obtain ⟨r1, w1, h1, h⟩ := aw_b2s h
      have c1 := (fr_r S_m_aheadOf w).trans (fr_m (by decide) (f_m_isAhead N _ _ _ _ _ h1))
      by_cases hc : r1 = 0
      · rw [if_pos hc] at h
        exact (c1).trans (f_m_aheadOf_27 N  _ ih _ _ _ _ _ _ _ h)
      · rw [if_neg hc] at h
        exact (c1).trans (f_m_aheadOf_27 N  _ ih _ _ _ _ _ _ _ h)
theorem f_m_aheadOf (N : Nat) : ∀ (x1 : Int) (w : aw_W) (y : Int) (v : aw_W), m_aheadOf N x1 w = some (y, v) → fr_ S_m_aheadOf w v := by
  intro x1 w y v h
  unfold m_aheadOf at h
  exact (fr_r S_m_aheadOf w).trans (f_m_aheadOf_4 N  N _ _ _ _ _ _ h)
def S_m_areAlike : List (Nat × Nat) := []
theorem f_m_areAlike_53 (N : Nat) : ∀ (s0 : Int) (w : aw_W) (y : Int) (v : aw_W), m_areAlike_53 N s0 w = some (y, v) → fr_ S_m_areAlike w v := by
  intro s0 w y v h
  unfold m_areAlike_53 at h
  obtain ⟨_, h⟩ := aw_cks h
  cases h
  exact fr_r S_m_areAlike w
theorem f_m_areAlike_52 (N : Nat) : ∀ (w : aw_W) (y : Int) (v : aw_W), m_areAlike_52 N w = some (y, v) → fr_ S_m_areAlike w v := by
  intro w y v h
  unfold m_areAlike_52 at h
  exact (fr_r S_m_areAlike w).trans (f_m_areAlike_53 N  _ _ _ _ h)
theorem f_m_areAlike (N : Nat) : ∀ (x1 x2 : Int) (w : aw_W) (y : Int) (v : aw_W), m_areAlike N x1 x2 w = some (y, v) → fr_ S_m_areAlike w v := by
  intro x1 x2 w y v h
  unfold m_areAlike at h
  by_cases hc : x1 = x2
  · rw [if_pos hc] at h
    exact (fr_r S_m_areAlike w).trans (f_m_areAlike_52 N  _ _ _ h)
  · rw [if_neg hc] at h
    obtain ⟨_, h⟩ := aw_cks h
    by_cases hc : (w 60 x1.toNat) = 0
    · rw [if_pos hc] at h
      obtain ⟨_, h⟩ := aw_cks h
      by_cases hc : (w 60 x2.toNat) = 0
      · rw [if_pos hc] at h
        obtain ⟨_, h⟩ := aw_cks h
        obtain ⟨_, h⟩ := aw_cks h
        by_cases hc : (w 59 x1.toNat) = (w 59 x2.toNat)
        · rw [if_pos hc] at h
          by_cases hc : (w 56 1) = 1
          · rw [if_pos hc] at h
            exact (fr_r S_m_areAlike w).trans (f_m_areAlike_53 N  _ _ _ _ h)
          · rw [if_neg hc] at h
            exact (fr_r S_m_areAlike w).trans (f_m_areAlike_52 N  _ _ _ h)
        · rw [if_neg hc] at h
          exact (fr_r S_m_areAlike w).trans (f_m_areAlike_52 N  _ _ _ h)
      · rw [if_neg hc] at h
        exact (fr_r S_m_areAlike w).trans (f_m_areAlike_52 N  _ _ _ h)
    · rw [if_neg hc] at h
      exact (fr_r S_m_areAlike w).trans (f_m_areAlike_52 N  _ _ _ h)
def S_m_winner : List (Nat × Nat) := []
theorem f_m_winner_87 (N : Nat) : ∀ (w : aw_W) (y : Int) (v : aw_W), m_winner_87 N w = some (y, v) → fr_ S_m_winner w v := by
  intro w y v h
  unfold m_winner_87 at h
  cases h
  exact fr_r S_m_winner w
theorem f_m_winner_81 (N : Nat) (k2 : Int → aw_W → Option (Int × aw_W)) (hk2 : ∀ (x1 : Int) (w : aw_W) (y : Int) (v : aw_W), k2 x1 w = some (y, v) → fr_ S_m_winner w v) : ∀ (x1 : Int) (w : aw_W) (y : Int) (v : aw_W), m_winner_81 N k2 x1 w = some (y, v) → fr_ S_m_winner w v := by
  intro x1 w y v h
  unfold m_winner_81 at h
  exact (fr_r S_m_winner w).trans (hk2 _ _ _ _ h)
theorem f_m_winner_79 (N : Nat) : ∀ (x1 : Int) (w : aw_W) (y : Int) (v : aw_W), m_winner_79 N x1 w = some (y, v) → fr_ S_m_winner w v := by
  intro x1 w y v h
  unfold m_winner_79 at h
  cases h
  exact fr_r S_m_winner w
theorem f_m_winner_75 (N : Nat) (k2 : Int → aw_W → Option (Int × aw_W)) (hk2 : ∀ (x1 : Int) (w : aw_W) (y : Int) (v : aw_W), k2 x1 w = some (y, v) → fr_ S_m_winner w v) : ∀ (x1 x2 : Int) (w : aw_W) (y : Int) (v : aw_W), m_winner_75 N k2 x1 x2 w = some (y, v) → fr_ S_m_winner w v := by
  intro x1 x2 w y v h
  unfold m_winner_75 at h
  by_cases hc : x2 = 0
  · rw [if_pos hc] at h
    exact (fr_r S_m_winner w).trans (f_m_winner_81 N  _ hk2 _ _ _ _ h)
  · rw [if_neg hc] at h
    exact (fr_r S_m_winner w).trans (f_m_winner_79 N  _ _ _ _ h)
theorem f_m_winner_68 (N : Nat) (k2 : Int → aw_W → Option (Int × aw_W)) (hk2 : ∀ (x1 : Int) (w : aw_W) (y : Int) (v : aw_W), k2 x1 w = some (y, v) → fr_ S_m_winner w v) (k42 : Int → Int → Int → aw_W → Option (Int × aw_W)) (hk42 : ∀ (x1 x2 x3 : Int) (w : aw_W) (y : Int) (v : aw_W), k42 x1 x2 x3 w = some (y, v) → fr_ S_m_winner w v) : ∀ (x1 x3 s0 : Int) (w : aw_W) (y : Int) (v : aw_W), m_winner_68 N k2 k42 x1 x3 s0 w = some (y, v) → fr_ S_m_winner w v := by
  intro x1 x3 s0 w y v h
  unfold m_winner_68 at h
  exact (fr_r S_m_winner w).trans (hk42 _ _ _ _ _ _ h)
theorem f_m_winner_67 (N : Nat) (k2 : Int → aw_W → Option (Int × aw_W)) (hk2 : ∀ (x1 : Int) (w : aw_W) (y : Int) (v : aw_W), k2 x1 w = some (y, v) → fr_ S_m_winner w v) (k42 : Int → Int → Int → aw_W → Option (Int × aw_W)) (hk42 : ∀ (x1 x2 x3 : Int) (w : aw_W) (y : Int) (v : aw_W), k42 x1 x2 x3 w = some (y, v) → fr_ S_m_winner w v) : ∀ (x1 x3 : Int) (w : aw_W) (y : Int) (v : aw_W), m_winner_67 N k2 k42 x1 x3 w = some (y, v) → fr_ S_m_winner w v := by
  intro x1 x3 w y v h
  unfold m_winner_67 at h
  exact (fr_r S_m_winner w).trans (f_m_winner_68 N  _ hk2 _ hk42 _ _ _ _ _ _ h)
theorem f_m_winner_42 (N : Nat) (k2 : Int → aw_W → Option (Int × aw_W)) (hk2 : ∀ (x1 : Int) (w : aw_W) (y : Int) (v : aw_W), k2 x1 w = some (y, v) → fr_ S_m_winner w v) : ∀ (n : Nat) (x1 x2 x3 : Int) (w : aw_W) (y : Int) (v : aw_W), m_winner_42 N k2 n x1 x2 x3 w = some (y, v) → fr_ S_m_winner w v := by
  intro n
  induction n with
  | zero => intro x1 x2 x3 w y v h; rw [m_winner_42] at h; cases h
  | succ n ih =>
    intro x1 x2 x3 w y v h
    rw [m_winner_42] at h
    by_cases hc : (w 49 22) ≤ x3
    · rw [if_pos hc] at h
      exact (fr_r S_m_winner w).trans (f_m_winner_75 N  _ hk2 _ _ _ _ _ h)
    · rw [if_neg hc] at h
      by_cases hc : x2 = 0
      · rw [if_pos hc] at h
        exact (fr_r S_m_winner w).trans (f_m_winner_67 N  _ hk2 _ ih _ _ _ _ _ h)
      · rw [if_neg hc] at h
        obtain ⟨r1, w1, h1, h⟩ := aw_b2s h
        have c1 := (fr_r S_m_winner w).trans (fr_m (by decide) (f_m_areAlike N _ _ _ _ _ h1))
        by_cases hc : r1 = 0
        · rw [if_pos hc] at h
          exact (c1).trans (f_m_winner_68 N  _ hk2 _ ih _ _ _ _ _ _ h)
        · rw [if_neg hc] at h
          exact (c1).trans (f_m_winner_67 N  _ hk2 _ ih _ _ _ _ _ h)
theorem f_m_winner_2 (N : Nat) : ∀ (n : Nat) (x1 : Int) (w : aw_W) (y : Int) (v : aw_W), m_winner_2 N n x1 w = some (y, v) → fr_ S_m_winner w v := by
  intro n
  induction n with
  | zero => intro x1 w y v h; rw [m_winner_2] at h; cases h
  | succ n ih =>
    intro x1 w y v h
    rw [m_winner_2] at h
    by_cases hc : (w 49 22) ≤ x1
    · rw [if_pos hc] at h
      exact (fr_r S_m_winner w).trans (f_m_winner_87 N  _ _ _ h)
    · rw [if_neg hc] at h
      obtain ⟨_, h⟩ := aw_cks h
      by_cases hc : (w 60 x1.toNat) = 0
      · rw [if_pos hc] at h
        obtain ⟨r1, w1, h1, h⟩ := aw_b2s h
        have c1 := (fr_r S_m_winner w).trans (fr_m (by decide) (f_m_aheadOf N _ _ _ _ h1))
        by_cases hc : r1 = (aw_w ((w1 56 0) - 1))
        · rw [if_pos hc] at h
          exact (c1).trans (f_m_winner_42 N  _ ih N _ _ _ _ _ _ h)
        · rw [if_neg hc] at h
          exact (c1).trans (f_m_winner_81 N  _ ih _ _ _ _ h)
      · rw [if_neg hc] at h
        exact (fr_r S_m_winner w).trans (f_m_winner_81 N  _ ih _ _ _ _ h)
theorem f_m_winner (N : Nat) : ∀ (w : aw_W) (y : Int) (v : aw_W), m_winner N w = some (y, v) → fr_ S_m_winner w v := by
  intro w y v h
  unfold m_winner at h
  exact (fr_r S_m_winner w).trans (f_m_winner_2 N  N _ _ _ _ h)
def S_m_isBefore : List (Nat × Nat) := []
theorem f_m_isBefore_40 (N : Nat) : ∀ (s0 : Int) (w : aw_W) (y : Int) (v : aw_W), m_isBefore_40 N s0 w = some (y, v) → fr_ S_m_isBefore w v := by
  intro s0 w y v h
  unfold m_isBefore_40 at h
  obtain ⟨_, h⟩ := aw_cks h
  cases h
  exact fr_r S_m_isBefore w
theorem f_m_isBefore_35 (N : Nat) : ∀ (w : aw_W) (y : Int) (v : aw_W), m_isBefore_35 N w = some (y, v) → fr_ S_m_isBefore w v := by
  intro w y v h
  unfold m_isBefore_35 at h
  exact (fr_r S_m_isBefore w).trans (f_m_isBefore_40 N  _ _ _ _ h)
theorem f_m_isBefore_39 (N : Nat) : ∀ (w : aw_W) (y : Int) (v : aw_W), m_isBefore_39 N w = some (y, v) → fr_ S_m_isBefore w v := by
  intro w y v h
  unfold m_isBefore_39 at h
  exact (fr_r S_m_isBefore w).trans (f_m_isBefore_40 N  _ _ _ _ h)
theorem f_m_isBefore (N : Nat) : ∀ (x1 x2 : Int) (w : aw_W) (y : Int) (v : aw_W), m_isBefore N x1 x2 w = some (y, v) → fr_ S_m_isBefore w v := by
  intro x1 x2 w y v h
  unfold m_isBefore at h
  obtain ⟨_, h⟩ := aw_cks h
  obtain ⟨_, h⟩ := aw_cks h
  by_cases hc : (w 64 x2.toNat) < (w 64 x1.toNat)
  · rw [if_pos hc] at h
    exact (fr_r S_m_isBefore w).trans (f_m_isBefore_35 N  _ _ _ h)
  · rw [if_neg hc] at h
    obtain ⟨_, h⟩ := aw_cks h
    obtain ⟨_, h⟩ := aw_cks h
    by_cases hc : (w 64 x1.toNat) = (w 64 x2.toNat)
    · rw [if_pos hc] at h
      by_cases hc : x2 ≤ x1
      · rw [if_pos hc] at h
        exact (fr_r S_m_isBefore w).trans (f_m_isBefore_39 N  _ _ _ h)
      · rw [if_neg hc] at h
        exact (fr_r S_m_isBefore w).trans (f_m_isBefore_35 N  _ _ _ h)
    · rw [if_neg hc] at h
      exact (fr_r S_m_isBefore w).trans (f_m_isBefore_39 N  _ _ _ h)
def S_m_paidBy : List (Nat × Nat) := []
theorem f_m_paidBy_131 (N : Nat) : ∀ (s0 : Int) (w : aw_W) (y : Int) (v : aw_W), m_paidBy_131 N s0 w = some (y, v) → fr_ S_m_paidBy w v := by
  intro s0 w y v h
  unfold m_paidBy_131 at h
  cases h
  exact fr_r S_m_paidBy w
theorem f_m_paidBy_97 (N : Nat) : ∀ (x1 x2 : Int) (w : aw_W) (y : Int) (v : aw_W), m_paidBy_97 N x1 x2 w = some (y, v) → fr_ S_m_paidBy w v := by
  intro x1 x2 w y v h
  unfold m_paidBy_97 at h
  by_cases hc : x2 = (-1)
  · rw [if_pos hc] at h
    by_cases hc : (w 56 2) = 1
    · rw [if_pos hc] at h
      obtain ⟨_, h⟩ := aw_cks h
      exact (fr_r S_m_paidBy w).trans (f_m_paidBy_131 N  _ _ _ _ h)
    · rw [if_neg hc] at h
      exact (fr_r S_m_paidBy w).trans (f_m_paidBy_131 N  _ _ _ _ h)
  · rw [if_neg hc] at h
    obtain ⟨_, h⟩ := aw_cks h
    exact (fr_r S_m_paidBy w).trans (f_m_paidBy_131 N  _ _ _ _ h)
theorem f_m_paidBy_91 (N : Nat) (k20 : Int → Int → Int → aw_W → Option (Int × aw_W)) (hk20 : ∀ (x1 x2 x3 : Int) (w : aw_W) (y : Int) (v : aw_W), k20 x1 x2 x3 w = some (y, v) → fr_ S_m_paidBy w v) : ∀ (x1 x2 x3 : Int) (w : aw_W) (y : Int) (v : aw_W), m_paidBy_91 N k20 x1 x2 x3 w = some (y, v) → fr_ S_m_paidBy w v := by
  intro x1 x2 x3 w y v h
  unfold m_paidBy_91 at h
  exact (fr_r S_m_paidBy w).trans (hk20 _ _ _ _ _ _ h)
theorem f_m_paidBy_89 (N : Nat) (k20 : Int → Int → Int → aw_W → Option (Int × aw_W)) (hk20 : ∀ (x1 x2 x3 : Int) (w : aw_W) (y : Int) (v : aw_W), k20 x1 x2 x3 w = some (y, v) → fr_ S_m_paidBy w v) : ∀ (x1 x3 : Int) (w : aw_W) (y : Int) (v : aw_W), m_paidBy_89 N k20 x1 x3 w = some (y, v) → fr_ S_m_paidBy w v := by
  intro x1 x3 w y v h
  unfold m_paidBy_89 at h
  exact (fr_r S_m_paidBy w).trans (f_m_paidBy_91 N  _ hk20 _ _ _ _ _ _ h)
theorem f_m_paidBy_86 (N : Nat) (k20 : Int → Int → Int → aw_W → Option (Int × aw_W)) (hk20 : ∀ (x1 x2 x3 : Int) (w : aw_W) (y : Int) (v : aw_W), k20 x1 x2 x3 w = some (y, v) → fr_ S_m_paidBy w v) : ∀ (x1 x2 x3 s0 s1 : Int) (w : aw_W) (y : Int) (v : aw_W), m_paidBy_86 N k20 x1 x2 x3 s0 s1 w = some (y, v) → fr_ S_m_paidBy w v := by
  intro x1 x2 x3 s0 s1 w y v h
  unfold m_paidBy_86 at h
  by_cases hc : s1 = s0
  · rw [if_pos hc] at h
    exact (fr_r S_m_paidBy w).trans (f_m_paidBy_91 N  _ hk20 _ _ _ _ _ _ h)
  · rw [if_neg hc] at h
    exact (fr_r S_m_paidBy w).trans (f_m_paidBy_89 N  _ hk20 _ _ _ _ _ h)
theorem f_m_paidBy_54 (N : Nat) (k20 : Int → Int → Int → aw_W → Option (Int × aw_W)) (hk20 : ∀ (x1 x2 x3 : Int) (w : aw_W) (y : Int) (v : aw_W), k20 x1 x2 x3 w = some (y, v) → fr_ S_m_paidBy w v) : ∀ (x1 x2 x3 s0 s1 : Int) (w : aw_W) (y : Int) (v : aw_W), m_paidBy_54 N k20 x1 x2 x3 s0 s1 w = some (y, v) → fr_ S_m_paidBy w v := by
  intro x1 x2 x3 s0 s1 w y v h
  unfold m_paidBy_54 at h
  by_cases hc : s1 = s0
  · rw [if_pos hc] at h
    by_cases hc : x2 = (-1)
    · rw [if_pos hc] at h
      exact (fr_r S_m_paidBy w).trans (f_m_paidBy_89 N  _ hk20 _ _ _ _ _ h)
    · rw [if_neg hc] at h
      obtain ⟨r1, w1, h1, h⟩ := aw_b2s h
      have c1 := (fr_r S_m_paidBy w).trans (fr_m (by decide) (f_m_isBefore N _ _ _ _ _ h1))
      by_cases hc : (w1 56 2) = 1
      · rw [if_pos hc] at h
        exact (c1).trans (f_m_paidBy_86 N  _ hk20 _ _ _ _ _ _ _ _ h)
      · rw [if_neg hc] at h
        exact (c1).trans (f_m_paidBy_86 N  _ hk20 _ _ _ _ _ _ _ _ h)
  · rw [if_neg hc] at h
    exact (fr_r S_m_paidBy w).trans (f_m_paidBy_91 N  _ hk20 _ _ _ _ _ _ h)
theorem f_m_paidBy_20 (N : Nat) : ∀ (n : Nat) (x1 x2 x3 : Int) (w : aw_W) (y : Int) (v : aw_W), m_paidBy_20 N n x1 x2 x3 w = some (y, v) → fr_ S_m_paidBy w v := by
  intro n
  induction n with
  | zero => intro x1 x2 x3 w y v h; rw [m_paidBy_20] at h; cases h
  | succ n ih =>
    intro x1 x2 x3 w y v h
    rw [m_paidBy_20] at h
    by_cases hc : (w 49 22) ≤ x3
    · rw [if_pos hc] at h
      exact (fr_r S_m_paidBy w).trans (f_m_paidBy_97 N  _ _ _ _ _ h)
    · rw [if_neg hc] at h
      by_cases hc : x3 = x1
      · rw [if_pos hc] at h
        exact (fr_r S_m_paidBy w).trans (f_m_paidBy_91 N  _ ih _ _ _ _ _ _ h)
      · rw [if_neg hc] at h
        obtain ⟨r1, w1, h1, h⟩ := aw_b2s h
        have c1 := (fr_r S_m_paidBy w).trans (fr_m (by decide) (f_m_isBefore N _ _ _ _ _ h1))
        by_cases hc : (w1 56 2) = 1
        · rw [if_pos hc] at h
          exact (c1).trans (f_m_paidBy_54 N  _ ih _ _ _ _ _ _ _ _ h)
        · rw [if_neg hc] at h
          exact (c1).trans (f_m_paidBy_54 N  _ ih _ _ _ _ _ _ _ _ h)
theorem f_m_paidBy (N : Nat) : ∀ (x1 : Int) (w : aw_W) (y : Int) (v : aw_W), m_paidBy N x1 w = some (y, v) → fr_ S_m_paidBy w v := by
  intro x1 w y v h
  unfold m_paidBy at h
  by_cases hc : (w 56 2) = 0
  · rw [if_pos hc] at h
    obtain ⟨_, h⟩ := aw_cks h
    cases h
    exact fr_r S_m_paidBy w
  · rw [if_neg hc] at h
    exact (fr_r S_m_paidBy w).trans (f_m_paidBy_20 N  N _ _ _ _ _ _ h)
def S_m_firsts : List (Nat × Nat) := []
theorem f_m_firsts_45 (N : Nat) : ∀ (x1 : Int) (w : aw_W) (y : Int) (v : aw_W), m_firsts_45 N x1 w = some (y, v) → fr_ S_m_firsts w v := by
  intro x1 w y v h
  unfold m_firsts_45 at h
  cases h
  exact fr_r S_m_firsts w
theorem f_m_firsts_37 (N : Nat) (k4 : Int → Int → aw_W → Option (Int × aw_W)) (hk4 : ∀ (x1 x2 : Int) (w : aw_W) (y : Int) (v : aw_W), k4 x1 x2 w = some (y, v) → fr_ S_m_firsts w v) : ∀ (x2 s0 s1 : Int) (w : aw_W) (y : Int) (v : aw_W), m_firsts_37 N k4 x2 s0 s1 w = some (y, v) → fr_ S_m_firsts w v := by
  intro x2 s0 s1 w y v h
  unfold m_firsts_37 at h
  exact (fr_r S_m_firsts w).trans (hk4 _ _ _ _ _ h)
theorem f_m_firsts_36 (N : Nat) (k4 : Int → Int → aw_W → Option (Int × aw_W)) (hk4 : ∀ (x1 x2 : Int) (w : aw_W) (y : Int) (v : aw_W), k4 x1 x2 w = some (y, v) → fr_ S_m_firsts w v) : ∀ (x2 s0 : Int) (w : aw_W) (y : Int) (v : aw_W), m_firsts_36 N k4 x2 s0 w = some (y, v) → fr_ S_m_firsts w v := by
  intro x2 s0 w y v h
  unfold m_firsts_36 at h
  exact (fr_r S_m_firsts w).trans (f_m_firsts_37 N  _ hk4 _ _ _ _ _ _ h)
theorem f_m_firsts_4 (N : Nat) : ∀ (n : Nat) (x1 x2 : Int) (w : aw_W) (y : Int) (v : aw_W), m_firsts_4 N n x1 x2 w = some (y, v) → fr_ S_m_firsts w v := by
  intro n
  induction n with
  | zero => intro x1 x2 w y v h; rw [m_firsts_4] at h; cases h
  | succ n ih =>
    intro x1 x2 w y v h
    rw [m_firsts_4] at h
    by_cases hc : (w 49 22) ≤ x2
    · rw [if_pos hc] at h
      exact (fr_r S_m_firsts w).trans (f_m_firsts_45 N  _ _ _ _ h)
    · rw [if_neg hc] at h
      obtain ⟨_, h⟩ := aw_cks h
      by_cases hc : (w 60 x2.toNat) = 0
      · rw [if_pos hc] at h
        obtain ⟨r1, w1, h1, h⟩ := aw_b2s h
        have c1 := (fr_r S_m_firsts w).trans (fr_m (by decide) (f_m_aheadOf N _ _ _ _ h1))
        by_cases hc : r1 = 0
        · rw [if_pos hc] at h
          exact (c1).trans (f_m_firsts_37 N  _ ih _ _ _ _ _ _ h)
        · rw [if_neg hc] at h
          exact (c1).trans (f_m_firsts_36 N  _ ih _ _ _ _ _ h)
      · rw [if_neg hc] at h
        exact (fr_r S_m_firsts w).trans (f_m_firsts_36 N  _ ih _ _ _ _ _ h)
theorem f_m_firsts (N : Nat) : ∀ (w : aw_W) (y : Int) (v : aw_W), m_firsts N w = some (y, v) → fr_ S_m_firsts w v := by
  intro w y v h
  unfold m_firsts at h
  exact (fr_r S_m_firsts w).trans (f_m_firsts_4 N  N _ _ _ _ _ h)
def S_m_allPaid : List (Nat × Nat) := [(59, 1000000), (60, 1000000)]
theorem f_m_allPaid_24 (N : Nat) : ∀ (s0 : Int) (w : aw_W) (y : Int) (v : aw_W), m_allPaid_24 N s0 w = some (y, v) → fr_ S_m_allPaid w v := by
  intro s0 w y v h
  unfold m_allPaid_24 at h
  obtain ⟨r1, w1, h1, h⟩ := aw_b2s h
  have c1 := (fr_r S_m_allPaid w).trans (fr_m (by decide) (f_m_firsts N _ _ _ h1))
  obtain ⟨r2, w2, h2, h⟩ := aw_b2s h
  have c2 := (c1).trans (fr_m (by decide) (f_j_Int_bitCount N _ _ _ _ h2))
  cases h
  exact c2
theorem f_m_allPaid (N : Nat) : ∀ (w : aw_W) (y : Int) (v : aw_W), m_allPaid N w = some (y, v) → fr_ S_m_allPaid w v := by
  intro w y v h
  unfold m_allPaid at h
  obtain ⟨w1, h1, h⟩ := aw_b1s h
  have c1 := (fr_r S_m_allPaid w).trans (fr_m (by decide) (f_m_judge N _ _ h1))
  obtain ⟨r2, w2, h2, h⟩ := aw_b2s h
  have c2 := (c1).trans (fr_m (by decide) (f_m_winner N _ _ _ h2))
  by_cases hc : r2 = (-1)
  · rw [if_pos hc] at h
    exact (c2).trans (f_m_allPaid_24 N  _ _ _ _ h)
  · rw [if_neg hc] at h
    obtain ⟨r3, w3, h3, h⟩ := aw_b2s h
    have c3 := (c2).trans (fr_m (by decide) (f_m_winner N _ _ _ h3))
    obtain ⟨r4, w4, h4, h⟩ := aw_b2s h
    have c4 := (c3).trans (fr_m (by decide) (f_m_paidBy N _ _ _ _ h4))
    exact (c4).trans (f_m_allPaid_24 N  _ _ _ _ h)
def S_m_bids : List (Nat × Nat) := [(49, 0), (59, 1000000), (60, 1000000), (64, 1000000)]
theorem f_m_bids_32 (N : Nat) : ∀ (w : aw_W) (y : Int) (v : aw_W), m_bids_32 N w = some (y, v) → fr_ S_m_bids w v := by
  intro w y v h
  unfold m_bids_32 at h
  cases h
  exact fr_r S_m_bids w
theorem f_m_bids_95 (N : Nat) : ∀ (s0 : Int) (w : aw_W) (y : Int) (v : aw_W), m_bids_95 N s0 w = some (y, v) → fr_ S_m_bids w v := by
  intro s0 w y v h
  unfold m_bids_95 at h
  cases h
  exact fr_r S_m_bids w
theorem f_m_bids (N : Nat) : ∀ (x1 x2 : Int) (w : aw_W) (y : Int) (v : aw_W), m_bids N x1 x2 w = some (y, v) → fr_ S_m_bids w v := by
  intro x1 x2 w y v h
  unfold m_bids at h
  by_cases hc : (w 49 22) = 0
  · rw [if_pos hc] at h
    exact ((fr_r S_m_bids w).up (by rfl)).trans (f_m_bids_32 N  _ _ _ h)
  · rw [if_neg hc] at h
    obtain ⟨r1, w1, h1, h⟩ := aw_b2s h
    have c1 := ((fr_r S_m_bids w).up (by rfl)).trans (fr_m (by decide) (f_m_isIn N _ _ _ _ _ _ h1))
    by_cases hc : r1 = 0
    · rw [if_pos hc] at h
      exact (c1).trans (f_m_bids_32 N  _ _ _ h)
    · rw [if_neg hc] at h
      obtain ⟨r2, w2, h2, h⟩ := aw_b2s h
      have c2 := (c1).trans (fr_m (by decide) (f_m_lay N _ _ _ _ h2))
      by_cases hc : r2 = 0
      · rw [if_pos hc] at h
        exact (c2).trans (f_m_bids_32 N  _ _ _ h)
      · rw [if_neg hc] at h
        obtain ⟨w3, h3, h⟩ := aw_b1s h
        have c3 := (c2).trans (fr_m (by decide) (f_m_judge N _ _ h3))
        by_cases hc : x2 = 0
        · rw [if_pos hc] at h
          obtain ⟨r9, w9, h9, h⟩ := aw_b2s h
          have c9 := (c3).trans (fr_m (by decide) (f_m_winner N _ _ _ h9))
          exact (c9).trans (f_m_bids_95 N  _ _ _ _ h)
        · rw [if_neg hc] at h
          by_cases hc : x2 = 1
          · rw [if_pos hc] at h
            obtain ⟨r6, w6, h6, h⟩ := aw_b2s h
            have c6 := (c3).trans (fr_m (by decide) (f_m_winner N _ _ _ h6))
            by_cases hc : r6 = (-1)
            · rw [if_pos hc] at h
              exact (c6).trans (f_m_bids_95 N  _ _ _ _ h)
            · rw [if_neg hc] at h
              obtain ⟨r7, w7, h7, h⟩ := aw_b2s h
              have c7 := (c6).trans (fr_m (by decide) (f_m_winner N _ _ _ h7))
              obtain ⟨r8, w8, h8, h⟩ := aw_b2s h
              have c8 := (c7).trans (fr_m (by decide) (f_m_paidBy N _ _ _ _ h8))
              exact (c8).trans (f_m_bids_95 N  _ _ _ _ h)
          · rw [if_neg hc] at h
            by_cases hc : x2 = 2
            · rw [if_pos hc] at h
              obtain ⟨r5, w5, h5, h⟩ := aw_b2s h
              have c5 := (c3).trans (fr_m (by decide) (f_m_firsts N _ _ _ h5))
              exact (c5).trans (f_m_bids_95 N  _ _ _ _ h)
            · rw [if_neg hc] at h
              obtain ⟨r4, w4, h4, h⟩ := aw_b2s h
              have c4 := (c3).trans (fr_m (by decide) (f_m_allPaid N _ _ _ h4))
              exact (c4).trans (f_m_bids_95 N  _ _ _ _ h)
def S_m_areFew : List (Nat × Nat) := []
theorem f_m_areFew_20 (N : Nat) : ∀ (s0 : Int) (w : aw_W) (y : Int) (v : aw_W), m_areFew_20 N s0 w = some (y, v) → fr_ S_m_areFew w v := by
  intro s0 w y v h
  unfold m_areFew_20 at h
  obtain ⟨_, h⟩ := aw_cks h
  cases h
  exact fr_r S_m_areFew w
theorem f_m_areFew_19 (N : Nat) : ∀ (w : aw_W) (y : Int) (v : aw_W), m_areFew_19 N w = some (y, v) → fr_ S_m_areFew w v := by
  intro w y v h
  unfold m_areFew_19 at h
  exact (fr_r S_m_areFew w).trans (f_m_areFew_20 N  _ _ _ _ h)
theorem f_m_areFew (N : Nat) : ∀ (w : aw_W) (y : Int) (v : aw_W), m_areFew N w = some (y, v) → fr_ S_m_areFew w v := by
  intro w y v h
  unfold m_areFew at h
  by_cases hc : (w 49 22) ≤ 0
  · rw [if_pos hc] at h
    exact (fr_r S_m_areFew w).trans (f_m_areFew_19 N  _ _ _ h)
  · rw [if_neg hc] at h
    by_cases hc : 4 < (w 49 22)
    · rw [if_pos hc] at h
      exact (fr_r S_m_areFew w).trans (f_m_areFew_19 N  _ _ _ h)
    · rw [if_neg hc] at h
      exact (fr_r S_m_areFew w).trans (f_m_areFew_20 N  _ _ _ _ h)
def S_m_isStriver : List (Nat × Nat) := []
theorem f_m_isStriver_17 (N : Nat) : ∀ (s0 : Int) (w : aw_W) (y : Int) (v : aw_W), m_isStriver_17 N s0 w = some (y, v) → fr_ S_m_isStriver w v := by
  intro s0 w y v h
  unfold m_isStriver_17 at h
  obtain ⟨_, h⟩ := aw_cks h
  cases h
  exact fr_r S_m_isStriver w
theorem f_m_isStriver_16 (N : Nat) : ∀ (w : aw_W) (y : Int) (v : aw_W), m_isStriver_16 N w = some (y, v) → fr_ S_m_isStriver w v := by
  intro w y v h
  unfold m_isStriver_16 at h
  exact (fr_r S_m_isStriver w).trans (f_m_isStriver_17 N  _ _ _ _ h)
theorem f_m_isStriver (N : Nat) : ∀ (x1 : Int) (w : aw_W) (y : Int) (v : aw_W), m_isStriver N x1 w = some (y, v) → fr_ S_m_isStriver w v := by
  intro x1 w y v h
  unfold m_isStriver at h
  by_cases hc : x1 < 0
  · rw [if_pos hc] at h
    exact (fr_r S_m_isStriver w).trans (f_m_isStriver_16 N  _ _ _ h)
  · rw [if_neg hc] at h
    by_cases hc : (w 49 22) ≤ x1
    · rw [if_pos hc] at h
      exact (fr_r S_m_isStriver w).trans (f_m_isStriver_16 N  _ _ _ h)
    · rw [if_neg hc] at h
      exact (fr_r S_m_isStriver w).trans (f_m_isStriver_17 N  _ _ _ _ h)
def S_m_has : List (Nat × Nat) := []
theorem f_m_has_14 (N : Nat) : ∀ (s0 : Int) (w : aw_W) (y : Int) (v : aw_W), m_has_14 N s0 w = some (y, v) → fr_ S_m_has w v := by
  intro s0 w y v h
  unfold m_has_14 at h
  obtain ⟨_, h⟩ := aw_cks h
  cases h
  exact fr_r S_m_has w
theorem f_m_has (N : Nat) : ∀ (x0 x1 : Int) (w : aw_W) (y : Int) (v : aw_W), m_has N x0 x1 w = some (y, v) → fr_ S_m_has w v := by
  intro x0 x1 w y v h
  unfold m_has at h
  by_cases hc : (aw_and (aw_shr x0 x1) 1) = 1
  · rw [if_pos hc] at h
    exact (fr_r S_m_has w).trans (f_m_has_14 N  _ _ _ _ h)
  · rw [if_neg hc] at h
    exact (fr_r S_m_has w).trans (f_m_has_14 N  _ _ _ _ h)
def S_m_gainOf : List (Nat × Nat) := [(59, 1000000), (60, 1000000)]
theorem f_m_gainOf_53 (N : Nat) : ∀ (s0 s1 : Int) (w : aw_W) (y : Int) (v : aw_W), m_gainOf_53 N s0 s1 w = some (y, v) → fr_ S_m_gainOf w v := by
  intro s0 s1 w y v h
  unfold m_gainOf_53 at h
  cases h
  exact fr_r S_m_gainOf w
theorem f_m_gainOf_32 (N : Nat) : ∀ (x1 s0 : Int) (w : aw_W) (y : Int) (v : aw_W), m_gainOf_32 N x1 s0 w = some (y, v) → fr_ S_m_gainOf w v := by
  intro x1 s0 w y v h
  unfold m_gainOf_32 at h
  obtain ⟨r1, w1, h1, h⟩ := aw_b2s h
  have c1 := (fr_r S_m_gainOf w).trans (fr_m (by decide) (f_m_firsts N _ _ _ h1))
  obtain ⟨r2, w2, h2, h⟩ := aw_b2s h
  have c2 := (c1).trans (fr_m (by decide) (f_m_has N _ _ _ _ _ h2))
  by_cases hc : r2 = 0
  · rw [if_pos hc] at h
    exact (c2).trans (f_m_gainOf_53 N  _ _ _ _ _ h)
  · rw [if_neg hc] at h
    exact (c2).trans (f_m_gainOf_53 N  _ _ _ _ _ h)
theorem f_m_gainOf (N : Nat) : ∀ (x1 : Int) (w : aw_W) (y : Int) (v : aw_W), m_gainOf N x1 w = some (y, v) → fr_ S_m_gainOf w v := by
  intro x1 w y v h
  unfold m_gainOf at h
  obtain ⟨w1, h1, h⟩ := aw_b1s h
  have c1 := (fr_r S_m_gainOf w).trans (fr_m (by decide) (f_m_judge N _ _ h1))
  obtain ⟨r2, w2, h2, h⟩ := aw_b2s h
  have c2 := (c1).trans (fr_m (by decide) (f_m_winner N _ _ _ h2))
  by_cases hc : r2 = x1
  · rw [if_pos hc] at h
    obtain ⟨_, h⟩ := aw_cks h
    obtain ⟨r3, w3, h3, h⟩ := aw_b2s h
    have c3 := (c2).trans (fr_m (by decide) (f_m_paidBy N _ _ _ _ h3))
    exact (c3).trans (f_m_gainOf_32 N  _ _ _ _ _ h)
  · rw [if_neg hc] at h
    exact (c2).trans (f_m_gainOf_32 N  _ _ _ _ _ h)
def S_m_goHope : List (Nat × Nat) := [(49, 45), (49, 46), (59, 1000000), (60, 1000000), (64, 1000000)]
theorem f_m_goHope_96 (N : Nat) (c_m_goHope : Int → Int → aw_W → Option (aw_W)) (hc_m_goHope : ∀ (x1 x2 : Int) (w v : aw_W), c_m_goHope x1 x2 w = some v → fr_ S_m_goHope w v) : ∀ (w v : aw_W), m_goHope_96 c_m_goHope N w = some v → fr_ S_m_goHope w v := by
  intro w v h
  unfold m_goHope_96 at h
  cases h
  exact fr_r S_m_goHope w
theorem f_m_goHope_65 (N : Nat) (c_m_goHope : Int → Int → aw_W → Option (aw_W)) (hc_m_goHope : ∀ (x1 x2 : Int) (w v : aw_W), c_m_goHope x1 x2 w = some v → fr_ S_m_goHope w v) : ∀ (n : Nat) (x1 x2 x3 : Int) (w v : aw_W), m_goHope_65 c_m_goHope N n x1 x2 x3 w = some v → fr_ S_m_goHope w v := by
  intro n
  induction n with
  | zero => intro x1 x2 x3 w v h; rw [m_goHope_65] at h; cases h
  | succ n ih =>
    intro x1 x2 x3 w v h
    rw [m_goHope_65] at h
    by_cases hc : (w 56 4) < x3
    · rw [if_pos hc] at h
      exact (fr_r S_m_goHope w).trans (f_m_goHope_96 N c_m_goHope hc_m_goHope  _ _ h)
    · rw [if_neg hc] at h
      obtain ⟨_, h⟩ := aw_cks h
      obtain ⟨w1, h1, h⟩ := aw_b1s h
      have c1 := ((fr_r S_m_goHope w).upA (by rfl)).trans (hc_m_goHope _ _ _ _ h1)
      exact (c1).trans (ih _ _ _ _ _ h)
theorem f_m_goHope_30 (N : Nat) (c_m_goHope : Int → Int → aw_W → Option (aw_W)) (hc_m_goHope : ∀ (x1 x2 : Int) (w v : aw_W), c_m_goHope x1 x2 w = some v → fr_ S_m_goHope w v) : ∀ (x2 s0 s1 : Int) (w v : aw_W), m_goHope_30 c_m_goHope N x2 s0 s1 w = some v → fr_ S_m_goHope w v := by
  intro x2 s0 s1 w v h
  unfold m_goHope_30 at h
  obtain ⟨r1, w1, h1, h⟩ := aw_b2s h
  have c1 := ((fr_r S_m_goHope w).up (by rfl)).trans (fr_m (by decide) (f_m_gainOf N _ _ _ _ h1))
  cases h
  exact (c1).up (by rfl)
theorem f_m_goHope_b (N : Nat) (c_m_goHope : Int → Int → aw_W → Option (aw_W)) (hc_m_goHope : ∀ (x1 x2 : Int) (w v : aw_W), c_m_goHope x1 x2 w = some v → fr_ S_m_goHope w v) : ∀ (x1 x2 : Int) (w v : aw_W), m_goHope_b c_m_goHope N x1 x2 w = some v → fr_ S_m_goHope w v := by
  intro x1 x2 w v h
  unfold m_goHope_b at h
  by_cases hc : x1 = (w 49 22)
  · rw [if_pos hc] at h
    obtain ⟨w2, h2, h⟩ := aw_b1s h
    have c2 := (fr_r S_m_goHope w).trans (fr_m (by decide) (f_m_judge N _ _ h2))
    obtain ⟨r3, w3, h3, h⟩ := aw_b2s h
    have c3 := (c2).trans (fr_m (by decide) (f_m_winner N _ _ _ h3))
    by_cases hc : r3 = x2
    · rw [if_pos hc] at h
      exact (c3).trans (f_m_goHope_30 N c_m_goHope hc_m_goHope  _ _ _ _ _ h)
    · rw [if_neg hc] at h
      exact (c3).trans (f_m_goHope_30 N c_m_goHope hc_m_goHope  _ _ _ _ _ h)
  · rw [if_neg hc] at h
    by_cases hc : x1 = x2
    · rw [if_pos hc] at h
      obtain ⟨w1, h1, h⟩ := aw_b1s h
      have c1 := (fr_r S_m_goHope w).trans (hc_m_goHope _ _ _ _ h1)
      cases h
      exact c1
    · rw [if_neg hc] at h
      exact (fr_r S_m_goHope w).trans (f_m_goHope_65 N c_m_goHope hc_m_goHope  N _ _ _ _ _ h)
theorem f_g_m_goHope (N : Nat) : ∀ D : Nat, (∀ (x1 x2 : Int) (w v : aw_W), (g_m_goHope N D) x1 x2 w = some v → fr_ S_m_goHope w v)
  | 0 => fun _ _ _ _ h => (by cases h)
  | D + 1 => by
    have ih := f_g_m_goHope N D
    exact f_m_goHope_b N _ ih
theorem f_m_goHope (N : Nat) : ∀ (x1 x2 : Int) (w v : aw_W), m_goHope N x1 x2 w = some v → fr_ S_m_goHope w v := (f_g_m_goHope N 60)
def S_m_hopes : List (Nat × Nat) := [(49, 45), (49, 46), (59, 1000000), (60, 1000000), (64, 1000000)]
theorem f_m_hopes (N : Nat) : ∀ (x1 x2 : Int) (w v : aw_W), m_hopes N x1 x2 w = some v → fr_ S_m_hopes w v := by
  intro x1 x2 w v h
  unfold m_hopes at h
  obtain ⟨_, h⟩ := aw_cks h
  obtain ⟨w1, h1, h⟩ := aw_b1s h
  have c1 := ((((fr_r S_m_hopes w).up (by rfl)).up (by rfl)).upA (by rfl)).trans (fr_m (by decide) (f_m_goHope N _ _ _ _ h1))
  cases h
  exact c1
def S_m_bold : List (Nat × Nat) := [(49, 0), (49, 45), (49, 46), (59, 1000000), (60, 1000000), (64, 1000000)]
theorem f_m_bold_20 (N : Nat) : ∀ (w : aw_W) (y : Int) (v : aw_W), m_bold_20 N w = some (y, v) → fr_ S_m_bold w v := by
  intro w y v h
  unfold m_bold_20 at h
  cases h
  exact fr_r S_m_bold w
theorem f_m_bold_77 (N : Nat) : ∀ (x2 : Int) (w : aw_W) (y : Int) (v : aw_W), m_bold_77 N x2 w = some (y, v) → fr_ S_m_bold w v := by
  intro x2 w y v h
  unfold m_bold_77 at h
  cases h
  exact fr_r S_m_bold w
theorem f_m_bold_71 (N : Nat) (k29 : Int → Int → Int → Int → aw_W → Option (Int × aw_W)) (hk29 : ∀ (x1 x2 x3 x4 : Int) (w : aw_W) (y : Int) (v : aw_W), k29 x1 x2 x3 x4 w = some (y, v) → fr_ S_m_bold w v) : ∀ (x1 x2 x3 x4 : Int) (w : aw_W) (y : Int) (v : aw_W), m_bold_71 N k29 x1 x2 x3 x4 w = some (y, v) → fr_ S_m_bold w v := by
  intro x1 x2 x3 x4 w y v h
  unfold m_bold_71 at h
  exact (fr_r S_m_bold w).trans (hk29 _ _ _ _ _ _ _ h)
theorem f_m_bold_63 (N : Nat) (k29 : Int → Int → Int → Int → aw_W → Option (Int × aw_W)) (hk29 : ∀ (x1 x2 x3 x4 : Int) (w : aw_W) (y : Int) (v : aw_W), k29 x1 x2 x3 x4 w = some (y, v) → fr_ S_m_bold w v) : ∀ (x1 x4 : Int) (w : aw_W) (y : Int) (v : aw_W), m_bold_63 N k29 x1 x4 w = some (y, v) → fr_ S_m_bold w v := by
  intro x1 x4 w y v h
  unfold m_bold_63 at h
  exact (fr_r S_m_bold w).trans (f_m_bold_71 N  _ hk29 _ _ _ _ _ _ _ h)
theorem f_m_bold_29 (N : Nat) : ∀ (n : Nat) (x1 x2 x3 x4 : Int) (w : aw_W) (y : Int) (v : aw_W), m_bold_29 N n x1 x2 x3 x4 w = some (y, v) → fr_ S_m_bold w v := by
  intro n
  induction n with
  | zero => intro x1 x2 x3 x4 w y v h; rw [m_bold_29] at h; cases h
  | succ n ih =>
    intro x1 x2 x3 x4 w y v h
    rw [m_bold_29] at h
    by_cases hc : (w 56 4) < x4
    · rw [if_pos hc] at h
      exact (fr_r S_m_bold w).trans (f_m_bold_77 N  _ _ _ _ h)
    · rw [if_neg hc] at h
      obtain ⟨w1, h1, h⟩ := aw_b1s h
      have c1 := (fr_r S_m_bold w).trans (fr_m (by decide) (f_m_hopes N _ _ _ _ h1))
      by_cases hc : x2 = (-1)
      · rw [if_pos hc] at h
        exact (c1).trans (f_m_bold_63 N  _ ih _ _ _ _ _ h)
      · rw [if_neg hc] at h
        by_cases hc : x3 < (w1 49 46)
        · rw [if_pos hc] at h
          exact (c1).trans (f_m_bold_63 N  _ ih _ _ _ _ _ h)
        · rw [if_neg hc] at h
          exact (c1).trans (f_m_bold_71 N  _ ih _ _ _ _ _ _ _ h)
theorem f_m_bold (N : Nat) : ∀ (x1 : Int) (w : aw_W) (y : Int) (v : aw_W), m_bold N x1 w = some (y, v) → fr_ S_m_bold w v := by
  intro x1 w y v h
  unfold m_bold at h
  obtain ⟨r1, w1, h1, h⟩ := aw_b2s h
  have c1 := ((fr_r S_m_bold w).up (by rfl)).trans (fr_m (by decide) (f_m_areFew N _ _ _ h1))
  by_cases hc : r1 = 0
  · rw [if_pos hc] at h
    exact (c1).trans (f_m_bold_20 N  _ _ _ h)
  · rw [if_neg hc] at h
    obtain ⟨r2, w2, h2, h⟩ := aw_b2s h
    have c2 := (c1).trans (fr_m (by decide) (f_m_isStriver N _ _ _ _ h2))
    by_cases hc : r2 = 0
    · rw [if_pos hc] at h
      exact (c2).trans (f_m_bold_20 N  _ _ _ h)
    · rw [if_neg hc] at h
      exact (c2).trans (f_m_bold_29 N  N _ _ _ _ _ _ _ h)
def S_m_isRace : List (Nat × Nat) := []
theorem f_m_isRace_36 (N : Nat) : ∀ (s0 : Int) (w : aw_W) (y : Int) (v : aw_W), m_isRace_36 N s0 w = some (y, v) → fr_ S_m_isRace w v := by
  intro s0 w y v h
  unfold m_isRace_36 at h
  obtain ⟨_, h⟩ := aw_cks h
  cases h
  exact fr_r S_m_isRace w
theorem f_m_isRace_35 (N : Nat) : ∀ (w : aw_W) (y : Int) (v : aw_W), m_isRace_35 N w = some (y, v) → fr_ S_m_isRace w v := by
  intro w y v h
  unfold m_isRace_35 at h
  exact (fr_r S_m_isRace w).trans (f_m_isRace_36 N  _ _ _ _ h)
theorem f_m_isRace (N : Nat) : ∀ (x1 x2 : Int) (w : aw_W) (y : Int) (v : aw_W), m_isRace N x1 x2 w = some (y, v) → fr_ S_m_isRace w v := by
  intro x1 x2 w y v h
  unfold m_isRace at h
  by_cases hc : (w 49 22) ≤ 0
  · rw [if_pos hc] at h
    exact (fr_r S_m_isRace w).trans (f_m_isRace_35 N  _ _ _ h)
  · rw [if_neg hc] at h
    obtain ⟨r1, w1, h1, h⟩ := aw_b2s h
    have c1 := (fr_r S_m_isRace w).trans (fr_m (by decide) (f_m_isIn N _ _ _ _ _ _ h1))
    by_cases hc : r1 = 0
    · rw [if_pos hc] at h
      exact (c1).trans (f_m_isRace_35 N  _ _ _ h)
    · rw [if_neg hc] at h
      obtain ⟨r2, w2, h2, h⟩ := aw_b2s h
      have c2 := (c1).trans (fr_m (by decide) (f_m_isIn N _ _ _ _ _ _ h2))
      by_cases hc : r2 = 0
      · rw [if_pos hc] at h
        exact (c2).trans (f_m_isRace_35 N  _ _ _ h)
      · rw [if_neg hc] at h
        exact (c2).trans (f_m_isRace_36 N  _ _ _ _ h)
def S_m_goneBy : List (Nat × Nat) := []
theorem f_m_goneBy (N : Nat) : ∀ (x1 x2 : Int) (w : aw_W) (y : Int) (v : aw_W), m_goneBy N x1 x2 w = some (y, v) → fr_ S_m_goneBy w v := by
  intro x1 x2 w y v h
  unfold m_goneBy at h
  obtain ⟨_, h⟩ := aw_cks h
  cases h
  exact fr_r S_m_goneBy w
def S_m_opens : List (Nat × Nat) := [(49, 5), (49, 8), (49, 9), (49, 10), (49, 11)]
theorem f_m_opens (N : Nat) : ∀ (x2 x3 : Int) (w v : aw_W), m_opens N x2 x3 w = some v → fr_ S_m_opens w v := by
  intro x2 x3 w v h
  unfold m_opens at h
  cases h
  exact (((((fr_r S_m_opens w).up (by rfl)).up (by rfl)).up (by rfl)).up (by rfl)).up (by rfl)
def S_m_look : List (Nat × Nat) := [(49, 10)]
theorem f_m_look_76 (N : Nat) : ∀ (s0 : Int) (w : aw_W) (y : Int) (v : aw_W), m_look_76 N s0 w = some (y, v) → fr_ S_m_look w v := by
  intro s0 w y v h
  unfold m_look_76 at h
  cases h
  exact fr_r S_m_look w
theorem f_m_look_43 (N : Nat) : ∀ (w : aw_W) (y : Int) (v : aw_W), m_look_43 N w = some (y, v) → fr_ S_m_look w v := by
  intro w y v h
  unfold m_look_43 at h
  by_cases hc : (w 49 9) ≤ (w 49 10)
  · rw [if_pos hc] at h
    exact (fr_r S_m_look w).trans (f_m_look_76 N  _ _ _ _ h)
  · rw [if_neg hc] at h
    obtain ⟨_, h⟩ := aw_cks h
    exact (fr_r S_m_look w).trans (f_m_look_76 N  _ _ _ _ h)
theorem f_m_look_0 (N : Nat) : ∀ (n : Nat) (w : aw_W) (y : Int) (v : aw_W), m_look_0 N n w = some (y, v) → fr_ S_m_look w v := by
  intro n
  induction n with
  | zero => intro w y v h; rw [m_look_0] at h; cases h
  | succ n ih =>
    intro w y v h
    rw [m_look_0] at h
    by_cases hc : (w 49 9) ≤ (w 49 10)
    · rw [if_pos hc] at h
      exact (fr_r S_m_look w).trans (f_m_look_43 N  _ _ _ h)
    · rw [if_neg hc] at h
      obtain ⟨_, h⟩ := aw_cks h
      by_cases hc : (w ((w 49 5).toNat) ((aw_w ((w 49 8) + (w 49 10))).toNat)) = 32
      · rw [if_pos hc] at h
        exact ((fr_r S_m_look w).up (by rfl)).trans (ih _ _ _ h)
      · rw [if_neg hc] at h
        exact (fr_r S_m_look w).trans (f_m_look_43 N  _ _ _ h)
theorem f_m_look (N : Nat) : ∀ (w : aw_W) (y : Int) (v : aw_W), m_look N w = some (y, v) → fr_ S_m_look w v := by
  intro w y v h
  unfold m_look at h
  exact (fr_r S_m_look w).trans (f_m_look_0 N  N _ _ _ h)
def S_m_isAmong : List (Nat × Nat) := []
theorem f_m_isAmong_27 (N : Nat) : ∀ (w : aw_W) (y : Int) (v : aw_W), m_isAmong_27 N w = some (y, v) → fr_ S_m_isAmong w v := by
  intro w y v h
  unfold m_isAmong_27 at h
  cases h
  exact fr_r S_m_isAmong w
theorem f_m_isAmong_19 (N : Nat) : ∀ (w : aw_W) (y : Int) (v : aw_W), m_isAmong_19 N w = some (y, v) → fr_ S_m_isAmong w v := by
  intro w y v h
  unfold m_isAmong_19 at h
  cases h
  exact fr_r S_m_isAmong w
theorem f_m_isAmong_2 (N : Nat) : ∀ (n : Nat) (x1 x2 : Int) (w : aw_W) (y : Int) (v : aw_W), m_isAmong_2 N n x1 x2 w = some (y, v) → fr_ S_m_isAmong w v := by
  intro n
  induction n with
  | zero => intro x1 x2 w y v h; rw [m_isAmong_2] at h; cases h
  | succ n ih =>
    intro x1 x2 w y v h
    rw [m_isAmong_2] at h
    obtain ⟨r1, w1, h1, h⟩ := aw_b2s h
    have c1 := (fr_r S_m_isAmong w).trans (fr_m (by decide) (f_j_Str_length N _ _ _ h1))
    by_cases hc : r1 ≤ x2
    · rw [if_pos hc] at h
      exact (c1).trans (f_m_isAmong_27 N  _ _ _ h)
    · rw [if_neg hc] at h
      obtain ⟨r2, w2, h2, h⟩ := aw_b2s h
      have c2 := (c1).trans (fr_m (by decide) (f_j_Str_charAt N _ _ _ _ h2))
      by_cases hc : r2 = x1
      · rw [if_pos hc] at h
        exact (c2).trans (f_m_isAmong_19 N  _ _ _ h)
      · rw [if_neg hc] at h
        exact (c2).trans (ih _ _ _ _ _ h)
theorem f_m_isAmong (N : Nat) : ∀ (x1 : Int) (w : aw_W) (y : Int) (v : aw_W), m_isAmong N x1 w = some (y, v) → fr_ S_m_isAmong w v := by
  intro x1 w y v h
  unfold m_isAmong at h
  exact (fr_r S_m_isAmong w).trans (f_m_isAmong_2 N  N _ _ _ _ _ h)
def S_m_fails : List (Nat × Nat) := [(49, 11)]
theorem f_m_fails_16 (N : Nat) : ∀ (w : aw_W) (y : Int) (v : aw_W), m_fails_16 N w = some (y, v) → fr_ S_m_fails w v := by
  intro w y v h
  unfold m_fails_16 at h
  cases h
  exact fr_r S_m_fails w
theorem f_m_fails (N : Nat) : ∀ (w : aw_W) (y : Int) (v : aw_W), m_fails N w = some (y, v) → fr_ S_m_fails w v := by
  intro w y v h
  unfold m_fails at h
  by_cases hc : (w 49 11) = (-1)
  · rw [if_pos hc] at h
    exact ((fr_r S_m_fails w).up (by rfl)).trans (f_m_fails_16 N  _ _ _ h)
  · rw [if_neg hc] at h
    exact (fr_r S_m_fails w).trans (f_m_fails_16 N  _ _ _ h)
def S_m_takes : List (Nat × Nat) := [(49, 10), (49, 11)]
theorem f_m_takes_16 (N : Nat) : ∀ (w : aw_W) (y : Int) (v : aw_W), m_takes_16 N w = some (y, v) → fr_ S_m_takes w v := by
  intro w y v h
  unfold m_takes_16 at h
  obtain ⟨r1, w1, h1, h⟩ := aw_b2s h
  have c1 := (fr_r S_m_takes w).trans (fr_m (by decide) (f_m_fails N _ _ _ h1))
  obtain ⟨_, h⟩ := aw_cks h
  cases h
  exact c1
theorem f_m_takes (N : Nat) : ∀ (x1 : Int) (w : aw_W) (y : Int) (v : aw_W), m_takes N x1 w = some (y, v) → fr_ S_m_takes w v := by
  intro x1 w y v h
  unfold m_takes at h
  by_cases hc : (w 49 11) = (-1)
  · rw [if_pos hc] at h
    obtain ⟨r1, w1, h1, h⟩ := aw_b2s h
    have c1 := (fr_r S_m_takes w).trans (fr_m (by decide) (f_m_look N _ _ _ h1))
    by_cases hc : r1 = x1
    · rw [if_pos hc] at h
      cases h
      exact (c1).up (by rfl)
    · rw [if_neg hc] at h
      exact (c1).trans (f_m_takes_16 N  _ _ _ h)
  · rw [if_neg hc] at h
    exact (fr_r S_m_takes w).trans (f_m_takes_16 N  _ _ _ h)
def S_m_isAmong_221 : List (Nat × Nat) := []
theorem f_m_isAmong_221_27 (N : Nat) : ∀ (w : aw_W) (y : Int) (v : aw_W), m_isAmong_221_27 N w = some (y, v) → fr_ S_m_isAmong_221 w v := by
  intro w y v h
  unfold m_isAmong_221_27 at h
  cases h
  exact fr_r S_m_isAmong_221 w
theorem f_m_isAmong_221_19 (N : Nat) : ∀ (w : aw_W) (y : Int) (v : aw_W), m_isAmong_221_19 N w = some (y, v) → fr_ S_m_isAmong_221 w v := by
  intro w y v h
  unfold m_isAmong_221_19 at h
  cases h
  exact fr_r S_m_isAmong_221 w
theorem f_m_isAmong_221_2 (N : Nat) : ∀ (n : Nat) (x1 x2 : Int) (w : aw_W) (y : Int) (v : aw_W), m_isAmong_221_2 N n x1 x2 w = some (y, v) → fr_ S_m_isAmong_221 w v := by
  intro n
  induction n with
  | zero => intro x1 x2 w y v h; rw [m_isAmong_221_2] at h; cases h
  | succ n ih =>
    intro x1 x2 w y v h
    rw [m_isAmong_221_2] at h
    obtain ⟨r1, w1, h1, h⟩ := aw_b2s h
    have c1 := (fr_r S_m_isAmong_221 w).trans (fr_m (by decide) (f_j_Str_length_221 N _ _ _ h1))
    by_cases hc : r1 ≤ x2
    · rw [if_pos hc] at h
      exact (c1).trans (f_m_isAmong_221_27 N  _ _ _ h)
    · rw [if_neg hc] at h
      obtain ⟨r2, w2, h2, h⟩ := aw_b2s h
      have c2 := (c1).trans (fr_m (by decide) (f_j_Str_charAt_221 N _ _ _ _ h2))
      by_cases hc : r2 = x1
      · rw [if_pos hc] at h
        exact (c2).trans (f_m_isAmong_221_19 N  _ _ _ h)
      · rw [if_neg hc] at h
        exact (c2).trans (ih _ _ _ _ _ h)
theorem f_m_isAmong_221 (N : Nat) : ∀ (x1 : Int) (w : aw_W) (y : Int) (v : aw_W), m_isAmong_221 N x1 w = some (y, v) → fr_ S_m_isAmong_221 w v := by
  intro x1 w y v h
  unfold m_isAmong_221 at h
  exact (fr_r S_m_isAmong_221 w).trans (f_m_isAmong_221_2 N  N _ _ _ _ _ h)
def S_m_isDigit : List (Nat × Nat) := []
theorem f_m_isDigit_54 (N : Nat) : ∀ (s0 : Int) (w : aw_W) (y : Int) (v : aw_W), m_isDigit_54 N s0 w = some (y, v) → fr_ S_m_isDigit w v := by
  intro s0 w y v h
  unfold m_isDigit_54 at h
  obtain ⟨_, h⟩ := aw_cks h
  cases h
  exact fr_r S_m_isDigit w
theorem f_m_isDigit_53 (N : Nat) : ∀ (w : aw_W) (y : Int) (v : aw_W), m_isDigit_53 N w = some (y, v) → fr_ S_m_isDigit w v := by
  intro w y v h
  unfold m_isDigit_53 at h
  exact (fr_r S_m_isDigit w).trans (f_m_isDigit_54 N  _ _ _ _ h)
theorem f_m_isDigit (N : Nat) : ∀ (w : aw_W) (y : Int) (v : aw_W), m_isDigit N w = some (y, v) → fr_ S_m_isDigit w v := by
  intro w y v h
  unfold m_isDigit at h
  by_cases hc : (w 49 9) ≤ (w 49 10)
  · rw [if_pos hc] at h
    exact (fr_r S_m_isDigit w).trans (f_m_isDigit_53 N  _ _ _ h)
  · rw [if_neg hc] at h
    obtain ⟨_, h⟩ := aw_cks h
    by_cases hc : (w ((w 49 5).toNat) ((aw_w ((w 49 8) + (w 49 10))).toNat)) < 48
    · rw [if_pos hc] at h
      exact (fr_r S_m_isDigit w).trans (f_m_isDigit_53 N  _ _ _ h)
    · rw [if_neg hc] at h
      obtain ⟨_, h⟩ := aw_cks h
      by_cases hc : 57 < (w ((w 49 5).toNat) ((aw_w ((w 49 8) + (w 49 10))).toNat))
      · rw [if_pos hc] at h
        exact (fr_r S_m_isDigit w).trans (f_m_isDigit_53 N  _ _ _ h)
      · rw [if_neg hc] at h
        exact (fr_r S_m_isDigit w).trans (f_m_isDigit_54 N  _ _ _ _ h)
def S_m_goesIn : List (Nat × Nat) := [(49, 10), (49, 11), (49, 12)]
theorem f_m_goesIn (N : Nat) : ∀ (w : aw_W) (y : Int) (v : aw_W), m_goesIn N w = some (y, v) → fr_ S_m_goesIn w v := by
  intro w y v h
  unfold m_goesIn at h
  by_cases hc : (w 49 12) = 6
  · rw [if_pos hc] at h
    obtain ⟨r1, w1, h1, h⟩ := aw_b2s h
    have c1 := (fr_r S_m_goesIn w).trans (fr_m (by decide) (f_m_fails N _ _ _ h1))
    obtain ⟨_, h⟩ := aw_cks h
    cases h
    exact c1
  · rw [if_neg hc] at h
    cases h
    exact ((fr_r S_m_goesIn w).up (by rfl)).up (by rfl)
def S_m_within : List (Nat × Nat) := []
theorem f_m_within (N : Nat) : ∀ (x0 : Int) (w : aw_W) (y : Int) (v : aw_W), m_within N x0 w = some (y, v) → fr_ S_m_within w v := by
  intro x0 w y v h
  unfold m_within at h
  cases h
  exact fr_r S_m_within w
def S_m_atom : List (Nat × Nat) := [(49, 10), (49, 11), (49, 12)]
theorem f_m_atom_156 (N : Nat) (c_m_atom : aw_W → Option (Int × aw_W)) (c_m_term : aw_W → Option (Int × aw_W)) (c_m_sum : aw_W → Option (Int × aw_W)) (hc_m_atom : ∀ (w : aw_W) (y : Int) (v : aw_W), c_m_atom w = some (y, v) → fr_ S_m_atom w v) (hc_m_term : ∀ (w : aw_W) (y : Int) (v : aw_W), c_m_term w = some (y, v) → fr_ S_m_atom w v) (hc_m_sum : ∀ (w : aw_W) (y : Int) (v : aw_W), c_m_sum w = some (y, v) → fr_ S_m_atom w v) : ∀ (x2 : Int) (w : aw_W) (y : Int) (v : aw_W), m_atom_156 c_m_atom c_m_term c_m_sum N x2 w = some (y, v) → fr_ S_m_atom w v := by
  intro x2 w y v h
  unfold m_atom_156 at h
  cases h
  exact fr_r S_m_atom w
theorem f_m_atom_110 (N : Nat) (c_m_atom : aw_W → Option (Int × aw_W)) (c_m_term : aw_W → Option (Int × aw_W)) (c_m_sum : aw_W → Option (Int × aw_W)) (hc_m_atom : ∀ (w : aw_W) (y : Int) (v : aw_W), c_m_atom w = some (y, v) → fr_ S_m_atom w v) (hc_m_term : ∀ (w : aw_W) (y : Int) (v : aw_W), c_m_term w = some (y, v) → fr_ S_m_atom w v) (hc_m_sum : ∀ (w : aw_W) (y : Int) (v : aw_W), c_m_sum w = some (y, v) → fr_ S_m_atom w v) : ∀ (w : aw_W) (y : Int) (v : aw_W), m_atom_110 c_m_atom c_m_term c_m_sum N w = some (y, v) → fr_ S_m_atom w v := by
  intro w y v h
  unfold m_atom_110 at h
  obtain ⟨r1, w1, h1, h⟩ := aw_b2s h
  have c1 := (fr_r S_m_atom w).trans (fr_m (by decide) (f_m_fails N _ _ _ h1))
  cases h
  exact c1
theorem f_m_atom_90 (N : Nat) (c_m_atom : aw_W → Option (Int × aw_W)) (c_m_term : aw_W → Option (Int × aw_W)) (c_m_sum : aw_W → Option (Int × aw_W)) (hc_m_atom : ∀ (w : aw_W) (y : Int) (v : aw_W), c_m_atom w = some (y, v) → fr_ S_m_atom w v) (hc_m_term : ∀ (w : aw_W) (y : Int) (v : aw_W), c_m_term w = some (y, v) → fr_ S_m_atom w v) (hc_m_sum : ∀ (w : aw_W) (y : Int) (v : aw_W), c_m_sum w = some (y, v) → fr_ S_m_atom w v) : ∀ (n : Nat) (x2 x3 : Int) (w : aw_W) (y : Int) (v : aw_W), m_atom_90 c_m_atom c_m_term c_m_sum N n x2 x3 w = some (y, v) → fr_ S_m_atom w v := by
  intro n
  induction n with
  | zero => intro x2 x3 w y v h; rw [m_atom_90] at h; cases h
  | succ n ih =>
    intro x2 x3 w y v h
    rw [m_atom_90] at h
    obtain ⟨r1, w1, h1, h⟩ := aw_b2s h
    have c1 := (fr_r S_m_atom w).trans (fr_m (by decide) (f_m_isDigit N _ _ _ h1))
    by_cases hc : r1 = 0
    · rw [if_pos hc] at h
      exact (c1).trans (f_m_atom_156 N c_m_atom c_m_term c_m_sum hc_m_atom hc_m_term hc_m_sum  _ _ _ _ h)
    · rw [if_neg hc] at h
      by_cases hc : (w1 49 11) = (-1)
      · rw [if_pos hc] at h
        by_cases hc : x3 = 4
        · rw [if_pos hc] at h
          exact (c1).trans (f_m_atom_110 N c_m_atom c_m_term c_m_sum hc_m_atom hc_m_term hc_m_sum  _ _ _ h)
        · rw [if_neg hc] at h
          obtain ⟨_, h⟩ := aw_cks h
          exact ((c1).up (by rfl)).trans (ih _ _ _ _ _ h)
      · rw [if_neg hc] at h
        exact (c1).trans (f_m_atom_156 N c_m_atom c_m_term c_m_sum hc_m_atom hc_m_term hc_m_sum  _ _ _ _ h)
theorem f_m_atom_86 (N : Nat) (c_m_atom : aw_W → Option (Int × aw_W)) (c_m_term : aw_W → Option (Int × aw_W)) (c_m_sum : aw_W → Option (Int × aw_W)) (hc_m_atom : ∀ (w : aw_W) (y : Int) (v : aw_W), c_m_atom w = some (y, v) → fr_ S_m_atom w v) (hc_m_term : ∀ (w : aw_W) (y : Int) (v : aw_W), c_m_term w = some (y, v) → fr_ S_m_atom w v) (hc_m_sum : ∀ (w : aw_W) (y : Int) (v : aw_W), c_m_sum w = some (y, v) → fr_ S_m_atom w v) : ∀ (w : aw_W) (y : Int) (v : aw_W), m_atom_86 c_m_atom c_m_term c_m_sum N w = some (y, v) → fr_ S_m_atom w v := by
  intro w y v h
  unfold m_atom_86 at h
  exact (fr_r S_m_atom w).trans (f_m_atom_90 N c_m_atom c_m_term c_m_sum hc_m_atom hc_m_term hc_m_sum  N _ _ _ _ _ h)
theorem f_m_atom_b (N : Nat) (c_m_atom : aw_W → Option (Int × aw_W)) (c_m_term : aw_W → Option (Int × aw_W)) (c_m_sum : aw_W → Option (Int × aw_W)) (hc_m_atom : ∀ (w : aw_W) (y : Int) (v : aw_W), c_m_atom w = some (y, v) → fr_ S_m_atom w v) (hc_m_term : ∀ (w : aw_W) (y : Int) (v : aw_W), c_m_term w = some (y, v) → fr_ S_m_atom w v) (hc_m_sum : ∀ (w : aw_W) (y : Int) (v : aw_W), c_m_sum w = some (y, v) → fr_ S_m_atom w v) : ∀ (w : aw_W) (y : Int) (v : aw_W), m_atom_b c_m_atom c_m_term c_m_sum N w = some (y, v) → fr_ S_m_atom w v := by
  intro w y v h
  unfold m_atom_b at h
  obtain ⟨r1, w1, h1, h⟩ := aw_b2s h
  have c1 := (fr_r S_m_atom w).trans (fr_m (by decide) (f_m_look N _ _ _ h1))
  obtain ⟨r2, w2, h2, h⟩ := aw_b2s h
  have c2 := (c1).trans (fr_m (by decide) (f_m_isAmong_221 N _ _ _ _ h2))
  by_cases hc : r2 = 0
  · rw [if_pos hc] at h
    by_cases hc : r1 = 91
    · rw [if_pos hc] at h
      obtain ⟨r5, w5, h5, h⟩ := aw_b2s h
      have c5 := (c2).trans (fr_m (by decide) (f_m_goesIn N _ _ _ h5))
      by_cases hc : r5 = 0
      · rw [if_pos hc] at h
        cases h
        exact c5
      · rw [if_neg hc] at h
        obtain ⟨r6, w6, h6, h⟩ := aw_b2s h
        have c6 := (c5).trans (hc_m_sum _ _ _ h6)
        obtain ⟨r7, w7, h7, h⟩ := aw_b2s h
        have c7 := (c6).trans (fr_m (by decide) (f_m_takes N _ _ _ _ h7))
        by_cases hc : r7 = 0
        · rw [if_pos hc] at h
          cases h
          exact c7
        · rw [if_neg hc] at h
          cases h
          exact (c7).up (by rfl)
    · rw [if_neg hc] at h
      obtain ⟨r3, w3, h3, h⟩ := aw_b2s h
      have c3 := (c2).trans (fr_m (by decide) (f_m_isDigit N _ _ _ h3))
      by_cases hc : r3 = 0
      · rw [if_pos hc] at h
        obtain ⟨r4, w4, h4, h⟩ := aw_b2s h
        have c4 := (c3).trans (fr_m (by decide) (f_m_fails N _ _ _ h4))
        exact (c4).trans (f_m_atom_86 N c_m_atom c_m_term c_m_sum hc_m_atom hc_m_term hc_m_sum  _ _ _ h)
      · rw [if_neg hc] at h
        exact (c3).trans (f_m_atom_86 N c_m_atom c_m_term c_m_sum hc_m_atom hc_m_term hc_m_sum  _ _ _ h)
  · rw [if_neg hc] at h
    obtain ⟨_, h⟩ := aw_cks h
    cases h
    exact (c2).up (by rfl)
theorem f_m_term_94 (N : Nat) (c_m_atom : aw_W → Option (Int × aw_W)) (c_m_term : aw_W → Option (Int × aw_W)) (c_m_sum : aw_W → Option (Int × aw_W)) (hc_m_atom : ∀ (w : aw_W) (y : Int) (v : aw_W), c_m_atom w = some (y, v) → fr_ S_m_atom w v) (hc_m_term : ∀ (w : aw_W) (y : Int) (v : aw_W), c_m_term w = some (y, v) → fr_ S_m_atom w v) (hc_m_sum : ∀ (w : aw_W) (y : Int) (v : aw_W), c_m_sum w = some (y, v) → fr_ S_m_atom w v) : ∀ (x1 : Int) (w : aw_W) (y : Int) (v : aw_W), m_term_94 c_m_atom c_m_term c_m_sum N x1 w = some (y, v) → fr_ S_m_atom w v := by
  intro x1 w y v h
  unfold m_term_94 at h
  cases h
  exact fr_r S_m_atom w
theorem f_m_term_87 (N : Nat) (c_m_atom : aw_W → Option (Int × aw_W)) (c_m_term : aw_W → Option (Int × aw_W)) (c_m_sum : aw_W → Option (Int × aw_W)) (hc_m_atom : ∀ (w : aw_W) (y : Int) (v : aw_W), c_m_atom w = some (y, v) → fr_ S_m_atom w v) (hc_m_term : ∀ (w : aw_W) (y : Int) (v : aw_W), c_m_term w = some (y, v) → fr_ S_m_atom w v) (hc_m_sum : ∀ (w : aw_W) (y : Int) (v : aw_W), c_m_sum w = some (y, v) → fr_ S_m_atom w v) (k5 : Int → aw_W → Option (Int × aw_W)) (hk5 : ∀ (x1 : Int) (w : aw_W) (y : Int) (v : aw_W), k5 x1 w = some (y, v) → fr_ S_m_atom w v) : ∀ (s0 : Int) (w : aw_W) (y : Int) (v : aw_W), m_term_87 c_m_atom c_m_term c_m_sum N k5 s0 w = some (y, v) → fr_ S_m_atom w v := by
  intro s0 w y v h
  unfold m_term_87 at h
  obtain ⟨r1, w1, h1, h⟩ := aw_b2s h
  have c1 := (fr_r S_m_atom w).trans (fr_m (by decide) (f_m_within N _ _ _ _ h1))
  exact (c1).trans (hk5 _ _ _ _ h)
theorem f_m_term_45 (N : Nat) (c_m_atom : aw_W → Option (Int × aw_W)) (c_m_term : aw_W → Option (Int × aw_W)) (c_m_sum : aw_W → Option (Int × aw_W)) (hc_m_atom : ∀ (w : aw_W) (y : Int) (v : aw_W), c_m_atom w = some (y, v) → fr_ S_m_atom w v) (hc_m_term : ∀ (w : aw_W) (y : Int) (v : aw_W), c_m_term w = some (y, v) → fr_ S_m_atom w v) (hc_m_sum : ∀ (w : aw_W) (y : Int) (v : aw_W), c_m_sum w = some (y, v) → fr_ S_m_atom w v) (k5 : Int → aw_W → Option (Int × aw_W)) (hk5 : ∀ (x1 : Int) (w : aw_W) (y : Int) (v : aw_W), k5 x1 w = some (y, v) → fr_ S_m_atom w v) : ∀ (x1 s0 : Int) (w : aw_W) (y : Int) (v : aw_W), m_term_45 c_m_atom c_m_term c_m_sum N k5 x1 s0 w = some (y, v) → fr_ S_m_atom w v := by
  intro x1 s0 w y v h
  unfold m_term_45 at h
  obtain ⟨r1, w1, h1, h⟩ := aw_b2s h
  have c1 := ((fr_r S_m_atom w).up (by rfl)).trans (hc_m_atom _ _ _ h1)
  by_cases hc : s0 = 0
  · rw [if_pos hc] at h
    by_cases hc : (aw_cmpL r1 0) = 0
    · rw [if_pos hc] at h
      exact (c1).trans (f_m_term_87 N c_m_atom c_m_term c_m_sum hc_m_atom hc_m_term hc_m_sum  _ hk5 _ _ _ _ h)
    · rw [if_neg hc] at h
      obtain ⟨_, h⟩ := aw_cks h
      exact (c1).trans (f_m_term_87 N c_m_atom c_m_term c_m_sum hc_m_atom hc_m_term hc_m_sum  _ hk5 _ _ _ _ h)
  · rw [if_neg hc] at h
    exact (c1).trans (f_m_term_87 N c_m_atom c_m_term c_m_sum hc_m_atom hc_m_term hc_m_sum  _ hk5 _ _ _ _ h)
theorem f_m_term_31 (N : Nat) (c_m_atom : aw_W → Option (Int × aw_W)) (c_m_term : aw_W → Option (Int × aw_W)) (c_m_sum : aw_W → Option (Int × aw_W)) (hc_m_atom : ∀ (w : aw_W) (y : Int) (v : aw_W), c_m_atom w = some (y, v) → fr_ S_m_atom w v) (hc_m_term : ∀ (w : aw_W) (y : Int) (v : aw_W), c_m_term w = some (y, v) → fr_ S_m_atom w v) (hc_m_sum : ∀ (w : aw_W) (y : Int) (v : aw_W), c_m_sum w = some (y, v) → fr_ S_m_atom w v) (k5 : Int → aw_W → Option (Int × aw_W)) (hk5 : ∀ (x1 : Int) (w : aw_W) (y : Int) (v : aw_W), k5 x1 w = some (y, v) → fr_ S_m_atom w v) : ∀ (x1 : Int) (w : aw_W) (y : Int) (v : aw_W), m_term_31 c_m_atom c_m_term c_m_sum N k5 x1 w = some (y, v) → fr_ S_m_atom w v := by
  intro x1 w y v h
  unfold m_term_31 at h
  obtain ⟨r1, w1, h1, h⟩ := aw_b2s h
  have c1 := (fr_r S_m_atom w).trans (fr_m (by decide) (f_m_look N _ _ _ h1))
  by_cases hc : r1 = 42
  · rw [if_pos hc] at h
    exact (c1).trans (f_m_term_45 N c_m_atom c_m_term c_m_sum hc_m_atom hc_m_term hc_m_sum  _ hk5 _ _ _ _ _ h)
  · rw [if_neg hc] at h
    exact (c1).trans (f_m_term_45 N c_m_atom c_m_term c_m_sum hc_m_atom hc_m_term hc_m_sum  _ hk5 _ _ _ _ _ h)
theorem f_m_term_5 (N : Nat) (c_m_atom : aw_W → Option (Int × aw_W)) (c_m_term : aw_W → Option (Int × aw_W)) (c_m_sum : aw_W → Option (Int × aw_W)) (hc_m_atom : ∀ (w : aw_W) (y : Int) (v : aw_W), c_m_atom w = some (y, v) → fr_ S_m_atom w v) (hc_m_term : ∀ (w : aw_W) (y : Int) (v : aw_W), c_m_term w = some (y, v) → fr_ S_m_atom w v) (hc_m_sum : ∀ (w : aw_W) (y : Int) (v : aw_W), c_m_sum w = some (y, v) → fr_ S_m_atom w v) : ∀ (n : Nat) (x1 : Int) (w : aw_W) (y : Int) (v : aw_W), m_term_5 c_m_atom c_m_term c_m_sum N n x1 w = some (y, v) → fr_ S_m_atom w v := by
  intro n
  induction n with
  | zero => intro x1 w y v h; rw [m_term_5] at h; cases h
  | succ n ih =>
    intro x1 w y v h
    rw [m_term_5] at h
    by_cases hc : (w 49 11) = (-1)
    · rw [if_pos hc] at h
      obtain ⟨r1, w1, h1, h⟩ := aw_b2s h
      have c1 := (fr_r S_m_atom w).trans (fr_m (by decide) (f_m_look N _ _ _ h1))
      by_cases hc : r1 = 42
      · rw [if_pos hc] at h
        exact (c1).trans (f_m_term_31 N c_m_atom c_m_term c_m_sum hc_m_atom hc_m_term hc_m_sum  _ ih _ _ _ _ h)
      · rw [if_neg hc] at h
        obtain ⟨r2, w2, h2, h⟩ := aw_b2s h
        have c2 := (c1).trans (fr_m (by decide) (f_m_look N _ _ _ h2))
        by_cases hc : r2 = 47
        · rw [if_pos hc] at h
          exact (c2).trans (f_m_term_31 N c_m_atom c_m_term c_m_sum hc_m_atom hc_m_term hc_m_sum  _ ih _ _ _ _ h)
        · rw [if_neg hc] at h
          exact (c2).trans (f_m_term_94 N c_m_atom c_m_term c_m_sum hc_m_atom hc_m_term hc_m_sum  _ _ _ _ h)
    · rw [if_neg hc] at h
      exact (fr_r S_m_atom w).trans (f_m_term_94 N c_m_atom c_m_term c_m_sum hc_m_atom hc_m_term hc_m_sum  _ _ _ _ h)
theorem f_m_term_b (N : Nat) (c_m_atom : aw_W → Option (Int × aw_W)) (c_m_term : aw_W → Option (Int × aw_W)) (c_m_sum : aw_W → Option (Int × aw_W)) (hc_m_atom : ∀ (w : aw_W) (y : Int) (v : aw_W), c_m_atom w = some (y, v) → fr_ S_m_atom w v) (hc_m_term : ∀ (w : aw_W) (y : Int) (v : aw_W), c_m_term w = some (y, v) → fr_ S_m_atom w v) (hc_m_sum : ∀ (w : aw_W) (y : Int) (v : aw_W), c_m_sum w = some (y, v) → fr_ S_m_atom w v) : ∀ (w : aw_W) (y : Int) (v : aw_W), m_term_b c_m_atom c_m_term c_m_sum N w = some (y, v) → fr_ S_m_atom w v := by
  intro w y v h
  unfold m_term_b at h
  obtain ⟨r1, w1, h1, h⟩ := aw_b2s h
  have c1 := (fr_r S_m_atom w).trans (hc_m_atom _ _ _ h1)
  exact (c1).trans (f_m_term_5 N c_m_atom c_m_term c_m_sum hc_m_atom hc_m_term hc_m_sum  N _ _ _ _ h)
theorem f_m_sum_84 (N : Nat) (c_m_atom : aw_W → Option (Int × aw_W)) (c_m_term : aw_W → Option (Int × aw_W)) (c_m_sum : aw_W → Option (Int × aw_W)) (hc_m_atom : ∀ (w : aw_W) (y : Int) (v : aw_W), c_m_atom w = some (y, v) → fr_ S_m_atom w v) (hc_m_term : ∀ (w : aw_W) (y : Int) (v : aw_W), c_m_term w = some (y, v) → fr_ S_m_atom w v) (hc_m_sum : ∀ (w : aw_W) (y : Int) (v : aw_W), c_m_sum w = some (y, v) → fr_ S_m_atom w v) : ∀ (x1 : Int) (w : aw_W) (y : Int) (v : aw_W), m_sum_84 c_m_atom c_m_term c_m_sum N x1 w = some (y, v) → fr_ S_m_atom w v := by
  intro x1 w y v h
  unfold m_sum_84 at h
  cases h
  exact fr_r S_m_atom w
theorem f_m_sum_77 (N : Nat) (c_m_atom : aw_W → Option (Int × aw_W)) (c_m_term : aw_W → Option (Int × aw_W)) (c_m_sum : aw_W → Option (Int × aw_W)) (hc_m_atom : ∀ (w : aw_W) (y : Int) (v : aw_W), c_m_atom w = some (y, v) → fr_ S_m_atom w v) (hc_m_term : ∀ (w : aw_W) (y : Int) (v : aw_W), c_m_term w = some (y, v) → fr_ S_m_atom w v) (hc_m_sum : ∀ (w : aw_W) (y : Int) (v : aw_W), c_m_sum w = some (y, v) → fr_ S_m_atom w v) (k5 : Int → aw_W → Option (Int × aw_W)) (hk5 : ∀ (x1 : Int) (w : aw_W) (y : Int) (v : aw_W), k5 x1 w = some (y, v) → fr_ S_m_atom w v) : ∀ (s0 : Int) (w : aw_W) (y : Int) (v : aw_W), m_sum_77 c_m_atom c_m_term c_m_sum N k5 s0 w = some (y, v) → fr_ S_m_atom w v := by
  intro s0 w y v h
  unfold m_sum_77 at h
  obtain ⟨r1, w1, h1, h⟩ := aw_b2s h
  have c1 := (fr_r S_m_atom w).trans (fr_m (by decide) (f_m_within N _ _ _ _ h1))
  exact (c1).trans (hk5 _ _ _ _ h)
theorem f_m_sum_45 (N : Nat) (c_m_atom : aw_W → Option (Int × aw_W)) (c_m_term : aw_W → Option (Int × aw_W)) (c_m_sum : aw_W → Option (Int × aw_W)) (hc_m_atom : ∀ (w : aw_W) (y : Int) (v : aw_W), c_m_atom w = some (y, v) → fr_ S_m_atom w v) (hc_m_term : ∀ (w : aw_W) (y : Int) (v : aw_W), c_m_term w = some (y, v) → fr_ S_m_atom w v) (hc_m_sum : ∀ (w : aw_W) (y : Int) (v : aw_W), c_m_sum w = some (y, v) → fr_ S_m_atom w v) (k5 : Int → aw_W → Option (Int × aw_W)) (hk5 : ∀ (x1 : Int) (w : aw_W) (y : Int) (v : aw_W), k5 x1 w = some (y, v) → fr_ S_m_atom w v) : ∀ (x1 s0 : Int) (w : aw_W) (y : Int) (v : aw_W), m_sum_45 c_m_atom c_m_term c_m_sum N k5 x1 s0 w = some (y, v) → fr_ S_m_atom w v := by
  intro x1 s0 w y v h
  unfold m_sum_45 at h
  obtain ⟨r1, w1, h1, h⟩ := aw_b2s h
  have c1 := ((fr_r S_m_atom w).up (by rfl)).trans (hc_m_term _ _ _ h1)
  by_cases hc : s0 = 0
  · rw [if_pos hc] at h
    exact (c1).trans (f_m_sum_77 N c_m_atom c_m_term c_m_sum hc_m_atom hc_m_term hc_m_sum  _ hk5 _ _ _ _ h)
  · rw [if_neg hc] at h
    exact (c1).trans (f_m_sum_77 N c_m_atom c_m_term c_m_sum hc_m_atom hc_m_term hc_m_sum  _ hk5 _ _ _ _ h)
theorem f_m_sum_31 (N : Nat) (c_m_atom : aw_W → Option (Int × aw_W)) (c_m_term : aw_W → Option (Int × aw_W)) (c_m_sum : aw_W → Option (Int × aw_W)) (hc_m_atom : ∀ (w : aw_W) (y : Int) (v : aw_W), c_m_atom w = some (y, v) → fr_ S_m_atom w v) (hc_m_term : ∀ (w : aw_W) (y : Int) (v : aw_W), c_m_term w = some (y, v) → fr_ S_m_atom w v) (hc_m_sum : ∀ (w : aw_W) (y : Int) (v : aw_W), c_m_sum w = some (y, v) → fr_ S_m_atom w v) (k5 : Int → aw_W → Option (Int × aw_W)) (hk5 : ∀ (x1 : Int) (w : aw_W) (y : Int) (v : aw_W), k5 x1 w = some (y, v) → fr_ S_m_atom w v) : ∀ (x1 : Int) (w : aw_W) (y : Int) (v : aw_W), m_sum_31 c_m_atom c_m_term c_m_sum N k5 x1 w = some (y, v) → fr_ S_m_atom w v := by
  intro x1 w y v h
  unfold m_sum_31 at h
  obtain ⟨r1, w1, h1, h⟩ := aw_b2s h
  have c1 := (fr_r S_m_atom w).trans (fr_m (by decide) (f_m_look N _ _ _ h1))
  by_cases hc : r1 = 43
  · rw [if_pos hc] at h
    exact (c1).trans (f_m_sum_45 N c_m_atom c_m_term c_m_sum hc_m_atom hc_m_term hc_m_sum  _ hk5 _ _ _ _ _ h)
  · rw [if_neg hc] at h
    exact (c1).trans (f_m_sum_45 N c_m_atom c_m_term c_m_sum hc_m_atom hc_m_term hc_m_sum  _ hk5 _ _ _ _ _ h)
theorem f_m_sum_5 (N : Nat) (c_m_atom : aw_W → Option (Int × aw_W)) (c_m_term : aw_W → Option (Int × aw_W)) (c_m_sum : aw_W → Option (Int × aw_W)) (hc_m_atom : ∀ (w : aw_W) (y : Int) (v : aw_W), c_m_atom w = some (y, v) → fr_ S_m_atom w v) (hc_m_term : ∀ (w : aw_W) (y : Int) (v : aw_W), c_m_term w = some (y, v) → fr_ S_m_atom w v) (hc_m_sum : ∀ (w : aw_W) (y : Int) (v : aw_W), c_m_sum w = some (y, v) → fr_ S_m_atom w v) : ∀ (n : Nat) (x1 : Int) (w : aw_W) (y : Int) (v : aw_W), m_sum_5 c_m_atom c_m_term c_m_sum N n x1 w = some (y, v) → fr_ S_m_atom w v := by
  intro n
  induction n with
  | zero => intro x1 w y v h; rw [m_sum_5] at h; cases h
  | succ n ih =>
    intro x1 w y v h
    rw [m_sum_5] at h
    by_cases hc : (w 49 11) = (-1)
    · rw [if_pos hc] at h
      obtain ⟨r1, w1, h1, h⟩ := aw_b2s h
      have c1 := (fr_r S_m_atom w).trans (fr_m (by decide) (f_m_look N _ _ _ h1))
      by_cases hc : r1 = 43
      · rw [if_pos hc] at h
        exact (c1).trans (f_m_sum_31 N c_m_atom c_m_term c_m_sum hc_m_atom hc_m_term hc_m_sum  _ ih _ _ _ _ h)
      · rw [if_neg hc] at h
        obtain ⟨r2, w2, h2, h⟩ := aw_b2s h
        have c2 := (c1).trans (fr_m (by decide) (f_m_look N _ _ _ h2))
        by_cases hc : r2 = 45
        · rw [if_pos hc] at h
          exact (c2).trans (f_m_sum_31 N c_m_atom c_m_term c_m_sum hc_m_atom hc_m_term hc_m_sum  _ ih _ _ _ _ h)
        · rw [if_neg hc] at h
          exact (c2).trans (f_m_sum_84 N c_m_atom c_m_term c_m_sum hc_m_atom hc_m_term hc_m_sum  _ _ _ _ h)
    · rw [if_neg hc] at h
      exact (fr_r S_m_atom w).trans (f_m_sum_84 N c_m_atom c_m_term c_m_sum hc_m_atom hc_m_term hc_m_sum  _ _ _ _ h)
theorem f_m_sum_b (N : Nat) (c_m_atom : aw_W → Option (Int × aw_W)) (c_m_term : aw_W → Option (Int × aw_W)) (c_m_sum : aw_W → Option (Int × aw_W)) (hc_m_atom : ∀ (w : aw_W) (y : Int) (v : aw_W), c_m_atom w = some (y, v) → fr_ S_m_atom w v) (hc_m_term : ∀ (w : aw_W) (y : Int) (v : aw_W), c_m_term w = some (y, v) → fr_ S_m_atom w v) (hc_m_sum : ∀ (w : aw_W) (y : Int) (v : aw_W), c_m_sum w = some (y, v) → fr_ S_m_atom w v) : ∀ (w : aw_W) (y : Int) (v : aw_W), m_sum_b c_m_atom c_m_term c_m_sum N w = some (y, v) → fr_ S_m_atom w v := by
  intro w y v h
  unfold m_sum_b at h
  obtain ⟨r1, w1, h1, h⟩ := aw_b2s h
  have c1 := (fr_r S_m_atom w).trans (hc_m_term _ _ _ h1)
  exact (c1).trans (f_m_sum_5 N c_m_atom c_m_term c_m_sum hc_m_atom hc_m_term hc_m_sum  N _ _ _ _ h)
theorem f_g_m_atom (N : Nat) : ∀ D : Nat, (∀ (w : aw_W) (y : Int) (v : aw_W), (g_m_atom N D).1 w = some (y, v) → fr_ S_m_atom w v) ∧ (∀ (w : aw_W) (y : Int) (v : aw_W), (g_m_atom N D).2.1 w = some (y, v) → fr_ S_m_atom w v) ∧ (∀ (w : aw_W) (y : Int) (v : aw_W), (g_m_atom N D).2.2 w = some (y, v) → fr_ S_m_atom w v)
  | 0 => ⟨fun _ _ _ h => (by cases h), fun _ _ _ h => (by cases h), fun _ _ _ h => (by cases h)⟩
  | D + 1 => by
    have ih := f_g_m_atom N D
    exact ⟨f_m_atom_b N _ _ _ ih.1 ih.2.1 ih.2.2, f_m_term_b N _ _ _ ih.1 ih.2.1 ih.2.2, f_m_sum_b N _ _ _ ih.1 ih.2.1 ih.2.2⟩
theorem f_m_atom (N : Nat) : ∀ (w : aw_W) (y : Int) (v : aw_W), m_atom N w = some (y, v) → fr_ S_m_atom w v := (f_g_m_atom N 60).1
theorem f_m_term (N : Nat) : ∀ (w : aw_W) (y : Int) (v : aw_W), m_term N w = some (y, v) → fr_ S_m_atom w v := (f_g_m_atom N 60).2.1
theorem f_m_sum (N : Nat) : ∀ (w : aw_W) (y : Int) (v : aw_W), m_sum N w = some (y, v) → fr_ S_m_atom w v := (f_g_m_atom N 60).2.2
def S_m_isSign : List (Nat × Nat) := []
theorem f_m_isSign_23 (N : Nat) : ∀ (s0 : Int) (w : aw_W) (y : Int) (v : aw_W), m_isSign_23 N s0 w = some (y, v) → fr_ S_m_isSign w v := by
  intro s0 w y v h
  unfold m_isSign_23 at h
  obtain ⟨_, h⟩ := aw_cks h
  cases h
  exact fr_r S_m_isSign w
theorem f_m_isSign_18 (N : Nat) : ∀ (w : aw_W) (y : Int) (v : aw_W), m_isSign_18 N w = some (y, v) → fr_ S_m_isSign w v := by
  intro w y v h
  unfold m_isSign_18 at h
  exact (fr_r S_m_isSign w).trans (f_m_isSign_23 N  _ _ _ _ h)
theorem f_m_isSign (N : Nat) : ∀ (x0 : Int) (w : aw_W) (y : Int) (v : aw_W), m_isSign N x0 w = some (y, v) → fr_ S_m_isSign w v := by
  intro x0 w y v h
  unfold m_isSign at h
  by_cases hc : x0 = 61
  · rw [if_pos hc] at h
    exact (fr_r S_m_isSign w).trans (f_m_isSign_18 N  _ _ _ h)
  · rw [if_neg hc] at h
    by_cases hc : x0 = 60
    · rw [if_pos hc] at h
      exact (fr_r S_m_isSign w).trans (f_m_isSign_18 N  _ _ _ h)
    · rw [if_neg hc] at h
      by_cases hc : x0 = 62
      · rw [if_pos hc] at h
        exact (fr_r S_m_isSign w).trans (f_m_isSign_18 N  _ _ _ h)
      · rw [if_neg hc] at h
        exact (fr_r S_m_isSign w).trans (f_m_isSign_23 N  _ _ _ _ h)
def S_m_compares : List (Nat × Nat) := [(49, 10), (49, 11), (49, 12)]
theorem f_m_compares_111 (N : Nat) : ∀ (s0 : Int) (w : aw_W) (y : Int) (v : aw_W), m_compares_111 N s0 w = some (y, v) → fr_ S_m_compares w v := by
  intro s0 w y v h
  unfold m_compares_111 at h
  obtain ⟨_, h⟩ := aw_cks h
  cases h
  exact fr_r S_m_compares w
theorem f_m_compares_12 (N : Nat) : ∀ (s0 : Int) (w : aw_W) (y : Int) (v : aw_W), m_compares_12 N s0 w = some (y, v) → fr_ S_m_compares w v := by
  intro s0 w y v h
  unfold m_compares_12 at h
  by_cases hc : (w 49 11) = (-1)
  · rw [if_pos hc] at h
    obtain ⟨r1, w1, h1, h⟩ := aw_b2s h
    have c1 := (fr_r S_m_compares w).trans (fr_m (by decide) (f_m_look N _ _ _ h1))
    obtain ⟨r2, w2, h2, h⟩ := aw_b2s h
    have c2 := (c1).trans (fr_m (by decide) (f_m_isSign N _ _ _ _ h2))
    by_cases hc : r2 = 0
    · rw [if_pos hc] at h
      obtain ⟨r4, w4, h4, h⟩ := aw_b2s h
      have c4 := (c2).trans (fr_m (by decide) (f_m_fails N _ _ _ h4))
      obtain ⟨_, h⟩ := aw_cks h
      cases h
      exact c4
    · rw [if_neg hc] at h
      obtain ⟨r3, w3, h3, h⟩ := aw_b2s h
      have c3 := ((c2).up (by rfl)).trans (fr_m (by decide) (f_m_sum N _ _ _ h3))
      by_cases hc : r1 = 61
      · rw [if_pos hc] at h
        by_cases hc : s0 = r3
        · rw [if_pos hc] at h
          exact (c3).trans (f_m_compares_111 N  _ _ _ _ h)
        · rw [if_neg hc] at h
          exact (c3).trans (f_m_compares_111 N  _ _ _ _ h)
      · rw [if_neg hc] at h
        by_cases hc : r1 = 60
        · rw [if_pos hc] at h
          by_cases hc : r3 ≤ s0
          · rw [if_pos hc] at h
            exact (c3).trans (f_m_compares_111 N  _ _ _ _ h)
          · rw [if_neg hc] at h
            exact (c3).trans (f_m_compares_111 N  _ _ _ _ h)
        · rw [if_neg hc] at h
          by_cases hc : s0 ≤ r3
          · rw [if_pos hc] at h
            exact (c3).trans (f_m_compares_111 N  _ _ _ _ h)
          · rw [if_neg hc] at h
            exact (c3).trans (f_m_compares_111 N  _ _ _ _ h)
  · rw [if_neg hc] at h
    cases h
    exact fr_r S_m_compares w
theorem f_m_compares (N : Nat) : ∀ (x1 x2 : Int) (w : aw_W) (y : Int) (v : aw_W), m_compares N x1 x2 w = some (y, v) → fr_ S_m_compares w v := by
  intro x1 x2 w y v h
  unfold m_compares at h
  by_cases hc : x1 = 0
  · rw [if_pos hc] at h
    obtain ⟨r1, w1, h1, h⟩ := aw_b2s h
    have c1 := (fr_r S_m_compares w).trans (fr_m (by decide) (f_m_sum N _ _ _ h1))
    exact (c1).trans (f_m_compares_12 N  _ _ _ _ h)
  · rw [if_neg hc] at h
    exact (fr_r S_m_compares w).trans (f_m_compares_12 N  _ _ _ _ h)
def S_m_unit : List (Nat × Nat) := [(49, 10), (49, 11), (49, 12)]
theorem f_m_unit_44 (N : Nat) (c_m_unit : aw_W → Option (Int × aw_W)) (c_m_part : Int → Int → aw_W → Option (Int × aw_W)) (c_m_condition : Int → Int → aw_W → Option (Int × aw_W)) (hc_m_unit : ∀ (w : aw_W) (y : Int) (v : aw_W), c_m_unit w = some (y, v) → fr_ S_m_unit w v) (hc_m_part : ∀ (x1 x2 : Int) (w : aw_W) (y : Int) (v : aw_W), c_m_part x1 x2 w = some (y, v) → fr_ S_m_unit w v) (hc_m_condition : ∀ (x1 x2 : Int) (w : aw_W) (y : Int) (v : aw_W), c_m_condition x1 x2 w = some (y, v) → fr_ S_m_unit w v) : ∀ (s0 : Int) (w : aw_W) (y : Int) (v : aw_W), m_unit_44 c_m_unit c_m_part c_m_condition N s0 w = some (y, v) → fr_ S_m_unit w v := by
  intro s0 w y v h
  unfold m_unit_44 at h
  obtain ⟨_, h⟩ := aw_cks h
  cases h
  exact fr_r S_m_unit w
theorem f_m_unit_b (N : Nat) (c_m_unit : aw_W → Option (Int × aw_W)) (c_m_part : Int → Int → aw_W → Option (Int × aw_W)) (c_m_condition : Int → Int → aw_W → Option (Int × aw_W)) (hc_m_unit : ∀ (w : aw_W) (y : Int) (v : aw_W), c_m_unit w = some (y, v) → fr_ S_m_unit w v) (hc_m_part : ∀ (x1 x2 : Int) (w : aw_W) (y : Int) (v : aw_W), c_m_part x1 x2 w = some (y, v) → fr_ S_m_unit w v) (hc_m_condition : ∀ (x1 x2 : Int) (w : aw_W) (y : Int) (v : aw_W), c_m_condition x1 x2 w = some (y, v) → fr_ S_m_unit w v) : ∀ (w : aw_W) (y : Int) (v : aw_W), m_unit_b c_m_unit c_m_part c_m_condition N w = some (y, v) → fr_ S_m_unit w v := by
  intro w y v h
  unfold m_unit_b at h
  obtain ⟨r1, w1, h1, h⟩ := aw_b2s h
  have c1 := (fr_r S_m_unit w).trans (fr_m (by decide) (f_m_look N _ _ _ h1))
  by_cases hc : r1 = 33
  · rw [if_pos hc] at h
    obtain ⟨r6, w6, h6, h⟩ := aw_b2s h
    have c6 := (c1).trans (fr_m (by decide) (f_m_goesIn N _ _ _ h6))
    by_cases hc : r6 = 0
    · rw [if_pos hc] at h
      cases h
      exact c6
    · rw [if_neg hc] at h
      obtain ⟨r7, w7, h7, h⟩ := aw_b2s h
      have c7 := (c6).trans (hc_m_unit _ _ _ h7)
      by_cases hc : r7 = 0
      · rw [if_pos hc] at h
        exact ((c7).up (by rfl)).trans (f_m_unit_44 N c_m_unit c_m_part c_m_condition hc_m_unit hc_m_part hc_m_condition  _ _ _ _ h)
      · rw [if_neg hc] at h
        exact ((c7).up (by rfl)).trans (f_m_unit_44 N c_m_unit c_m_part c_m_condition hc_m_unit hc_m_part hc_m_condition  _ _ _ _ h)
  · rw [if_neg hc] at h
    by_cases hc : r1 = 40
    · rw [if_pos hc] at h
      obtain ⟨r3, w3, h3, h⟩ := aw_b2s h
      have c3 := (c1).trans (fr_m (by decide) (f_m_goesIn N _ _ _ h3))
      by_cases hc : r3 = 0
      · rw [if_pos hc] at h
        cases h
        exact c3
      · rw [if_neg hc] at h
        obtain ⟨r4, w4, h4, h⟩ := aw_b2s h
        have c4 := (c3).trans (hc_m_condition _ _ _ _ _ h4)
        obtain ⟨r5, w5, h5, h⟩ := aw_b2s h
        have c5 := (c4).trans (fr_m (by decide) (f_m_takes N _ _ _ _ h5))
        by_cases hc : r5 = 0
        · rw [if_pos hc] at h
          cases h
          exact c5
        · rw [if_neg hc] at h
          obtain ⟨_, h⟩ := aw_cks h
          cases h
          exact (c5).up (by rfl)
    · rw [if_neg hc] at h
      obtain ⟨r2, w2, h2, h⟩ := aw_b2s h
      have c2 := (c1).trans (fr_m (by decide) (f_m_compares N _ _ _ _ _ h2))
      obtain ⟨_, h⟩ := aw_cks h
      cases h
      exact c2
theorem f_m_part_69 (N : Nat) (c_m_unit : aw_W → Option (Int × aw_W)) (c_m_part : Int → Int → aw_W → Option (Int × aw_W)) (c_m_condition : Int → Int → aw_W → Option (Int × aw_W)) (hc_m_unit : ∀ (w : aw_W) (y : Int) (v : aw_W), c_m_unit w = some (y, v) → fr_ S_m_unit w v) (hc_m_part : ∀ (x1 x2 : Int) (w : aw_W) (y : Int) (v : aw_W), c_m_part x1 x2 w = some (y, v) → fr_ S_m_unit w v) (hc_m_condition : ∀ (x1 x2 : Int) (w : aw_W) (y : Int) (v : aw_W), c_m_condition x1 x2 w = some (y, v) → fr_ S_m_unit w v) : ∀ (x3 : Int) (w : aw_W) (y : Int) (v : aw_W), m_part_69 c_m_unit c_m_part c_m_condition N x3 w = some (y, v) → fr_ S_m_unit w v := by
  intro x3 w y v h
  unfold m_part_69 at h
  obtain ⟨_, h⟩ := aw_cks h
  cases h
  exact fr_r S_m_unit w
theorem f_m_part_65 (N : Nat) (c_m_unit : aw_W → Option (Int × aw_W)) (c_m_part : Int → Int → aw_W → Option (Int × aw_W)) (c_m_condition : Int → Int → aw_W → Option (Int × aw_W)) (hc_m_unit : ∀ (w : aw_W) (y : Int) (v : aw_W), c_m_unit w = some (y, v) → fr_ S_m_unit w v) (hc_m_part : ∀ (x1 x2 : Int) (w : aw_W) (y : Int) (v : aw_W), c_m_part x1 x2 w = some (y, v) → fr_ S_m_unit w v) (hc_m_condition : ∀ (x1 x2 : Int) (w : aw_W) (y : Int) (v : aw_W), c_m_condition x1 x2 w = some (y, v) → fr_ S_m_unit w v) (k18 : Int → aw_W → Option (Int × aw_W)) (hk18 : ∀ (x3 : Int) (w : aw_W) (y : Int) (v : aw_W), k18 x3 w = some (y, v) → fr_ S_m_unit w v) : ∀ (s0 : Int) (w : aw_W) (y : Int) (v : aw_W), m_part_65 c_m_unit c_m_part c_m_condition N k18 s0 w = some (y, v) → fr_ S_m_unit w v := by
  intro s0 w y v h
  unfold m_part_65 at h
  exact (fr_r S_m_unit w).trans (hk18 _ _ _ _ h)
theorem f_m_part_64 (N : Nat) (c_m_unit : aw_W → Option (Int × aw_W)) (c_m_part : Int → Int → aw_W → Option (Int × aw_W)) (c_m_condition : Int → Int → aw_W → Option (Int × aw_W)) (hc_m_unit : ∀ (w : aw_W) (y : Int) (v : aw_W), c_m_unit w = some (y, v) → fr_ S_m_unit w v) (hc_m_part : ∀ (x1 x2 : Int) (w : aw_W) (y : Int) (v : aw_W), c_m_part x1 x2 w = some (y, v) → fr_ S_m_unit w v) (hc_m_condition : ∀ (x1 x2 : Int) (w : aw_W) (y : Int) (v : aw_W), c_m_condition x1 x2 w = some (y, v) → fr_ S_m_unit w v) (k18 : Int → aw_W → Option (Int × aw_W)) (hk18 : ∀ (x3 : Int) (w : aw_W) (y : Int) (v : aw_W), k18 x3 w = some (y, v) → fr_ S_m_unit w v) : ∀ (w : aw_W) (y : Int) (v : aw_W), m_part_64 c_m_unit c_m_part c_m_condition N k18 w = some (y, v) → fr_ S_m_unit w v := by
  intro w y v h
  unfold m_part_64 at h
  exact (fr_r S_m_unit w).trans (f_m_part_65 N c_m_unit c_m_part c_m_condition hc_m_unit hc_m_part hc_m_condition  _ hk18 _ _ _ _ h)
theorem f_m_part_18 (N : Nat) (c_m_unit : aw_W → Option (Int × aw_W)) (c_m_part : Int → Int → aw_W → Option (Int × aw_W)) (c_m_condition : Int → Int → aw_W → Option (Int × aw_W)) (hc_m_unit : ∀ (w : aw_W) (y : Int) (v : aw_W), c_m_unit w = some (y, v) → fr_ S_m_unit w v) (hc_m_part : ∀ (x1 x2 : Int) (w : aw_W) (y : Int) (v : aw_W), c_m_part x1 x2 w = some (y, v) → fr_ S_m_unit w v) (hc_m_condition : ∀ (x1 x2 : Int) (w : aw_W) (y : Int) (v : aw_W), c_m_condition x1 x2 w = some (y, v) → fr_ S_m_unit w v) : ∀ (n : Nat) (x3 : Int) (w : aw_W) (y : Int) (v : aw_W), m_part_18 c_m_unit c_m_part c_m_condition N n x3 w = some (y, v) → fr_ S_m_unit w v := by
  intro n
  induction n with
  | zero => intro x3 w y v h; rw [m_part_18] at h; cases h
  | succ n ih =>
    intro x3 w y v h
    rw [m_part_18] at h
    by_cases hc : (w 49 11) = (-1)
    · rw [if_pos hc] at h
      obtain ⟨r1, w1, h1, h⟩ := aw_b2s h
      have c1 := (fr_r S_m_unit w).trans (fr_m (by decide) (f_m_look N _ _ _ h1))
      by_cases hc : r1 = 38
      · rw [if_pos hc] at h
        obtain ⟨r2, w2, h2, h⟩ := aw_b2s h
        have c2 := ((c1).up (by rfl)).trans (hc_m_unit _ _ _ h2)
        by_cases hc : x3 = 0
        · rw [if_pos hc] at h
          exact (c2).trans (f_m_part_64 N c_m_unit c_m_part c_m_condition hc_m_unit hc_m_part hc_m_condition  _ ih _ _ _ h)
        · rw [if_neg hc] at h
          by_cases hc : r2 = 0
          · rw [if_pos hc] at h
            exact (c2).trans (f_m_part_64 N c_m_unit c_m_part c_m_condition hc_m_unit hc_m_part hc_m_condition  _ ih _ _ _ h)
          · rw [if_neg hc] at h
            exact (c2).trans (f_m_part_65 N c_m_unit c_m_part c_m_condition hc_m_unit hc_m_part hc_m_condition  _ ih _ _ _ _ h)
      · rw [if_neg hc] at h
        exact (c1).trans (f_m_part_69 N c_m_unit c_m_part c_m_condition hc_m_unit hc_m_part hc_m_condition  _ _ _ _ h)
    · rw [if_neg hc] at h
      exact (fr_r S_m_unit w).trans (f_m_part_69 N c_m_unit c_m_part c_m_condition hc_m_unit hc_m_part hc_m_condition  _ _ _ _ h)
theorem f_m_part_17 (N : Nat) (c_m_unit : aw_W → Option (Int × aw_W)) (c_m_part : Int → Int → aw_W → Option (Int × aw_W)) (c_m_condition : Int → Int → aw_W → Option (Int × aw_W)) (hc_m_unit : ∀ (w : aw_W) (y : Int) (v : aw_W), c_m_unit w = some (y, v) → fr_ S_m_unit w v) (hc_m_part : ∀ (x1 x2 : Int) (w : aw_W) (y : Int) (v : aw_W), c_m_part x1 x2 w = some (y, v) → fr_ S_m_unit w v) (hc_m_condition : ∀ (x1 x2 : Int) (w : aw_W) (y : Int) (v : aw_W), c_m_condition x1 x2 w = some (y, v) → fr_ S_m_unit w v) : ∀ (s0 : Int) (w : aw_W) (y : Int) (v : aw_W), m_part_17 c_m_unit c_m_part c_m_condition N s0 w = some (y, v) → fr_ S_m_unit w v := by
  intro s0 w y v h
  unfold m_part_17 at h
  exact (fr_r S_m_unit w).trans (f_m_part_18 N c_m_unit c_m_part c_m_condition hc_m_unit hc_m_part hc_m_condition  N _ _ _ _ h)
theorem f_m_part_b (N : Nat) (c_m_unit : aw_W → Option (Int × aw_W)) (c_m_part : Int → Int → aw_W → Option (Int × aw_W)) (c_m_condition : Int → Int → aw_W → Option (Int × aw_W)) (hc_m_unit : ∀ (w : aw_W) (y : Int) (v : aw_W), c_m_unit w = some (y, v) → fr_ S_m_unit w v) (hc_m_part : ∀ (x1 x2 : Int) (w : aw_W) (y : Int) (v : aw_W), c_m_part x1 x2 w = some (y, v) → fr_ S_m_unit w v) (hc_m_condition : ∀ (x1 x2 : Int) (w : aw_W) (y : Int) (v : aw_W), c_m_condition x1 x2 w = some (y, v) → fr_ S_m_unit w v) : ∀ (x1 x2 : Int) (w : aw_W) (y : Int) (v : aw_W), m_part_b c_m_unit c_m_part c_m_condition N x1 x2 w = some (y, v) → fr_ S_m_unit w v := by
  intro x1 x2 w y v h
  unfold m_part_b at h
  by_cases hc : x1 = 0
  · rw [if_pos hc] at h
    obtain ⟨r1, w1, h1, h⟩ := aw_b2s h
    have c1 := (fr_r S_m_unit w).trans (hc_m_unit _ _ _ h1)
    exact (c1).trans (f_m_part_17 N c_m_unit c_m_part c_m_condition hc_m_unit hc_m_part hc_m_condition  _ _ _ _ h)
  · rw [if_neg hc] at h
    obtain ⟨r2, w2, h2, h⟩ := aw_b2s h
    have c2 := (fr_r S_m_unit w).trans (fr_m (by decide) (f_m_compares N _ _ _ _ _ h2))
    exact (c2).trans (f_m_part_17 N c_m_unit c_m_part c_m_condition hc_m_unit hc_m_part hc_m_condition  _ _ _ _ h)
theorem f_m_condition_60 (N : Nat) (c_m_unit : aw_W → Option (Int × aw_W)) (c_m_part : Int → Int → aw_W → Option (Int × aw_W)) (c_m_condition : Int → Int → aw_W → Option (Int × aw_W)) (hc_m_unit : ∀ (w : aw_W) (y : Int) (v : aw_W), c_m_unit w = some (y, v) → fr_ S_m_unit w v) (hc_m_part : ∀ (x1 x2 : Int) (w : aw_W) (y : Int) (v : aw_W), c_m_part x1 x2 w = some (y, v) → fr_ S_m_unit w v) (hc_m_condition : ∀ (x1 x2 : Int) (w : aw_W) (y : Int) (v : aw_W), c_m_condition x1 x2 w = some (y, v) → fr_ S_m_unit w v) : ∀ (x3 : Int) (w : aw_W) (y : Int) (v : aw_W), m_condition_60 c_m_unit c_m_part c_m_condition N x3 w = some (y, v) → fr_ S_m_unit w v := by
  intro x3 w y v h
  unfold m_condition_60 at h
  obtain ⟨_, h⟩ := aw_cks h
  cases h
  exact fr_r S_m_unit w
theorem f_m_condition_56 (N : Nat) (c_m_unit : aw_W → Option (Int × aw_W)) (c_m_part : Int → Int → aw_W → Option (Int × aw_W)) (c_m_condition : Int → Int → aw_W → Option (Int × aw_W)) (hc_m_unit : ∀ (w : aw_W) (y : Int) (v : aw_W), c_m_unit w = some (y, v) → fr_ S_m_unit w v) (hc_m_part : ∀ (x1 x2 : Int) (w : aw_W) (y : Int) (v : aw_W), c_m_part x1 x2 w = some (y, v) → fr_ S_m_unit w v) (hc_m_condition : ∀ (x1 x2 : Int) (w : aw_W) (y : Int) (v : aw_W), c_m_condition x1 x2 w = some (y, v) → fr_ S_m_unit w v) (k7 : Int → aw_W → Option (Int × aw_W)) (hk7 : ∀ (x3 : Int) (w : aw_W) (y : Int) (v : aw_W), k7 x3 w = some (y, v) → fr_ S_m_unit w v) : ∀ (s0 : Int) (w : aw_W) (y : Int) (v : aw_W), m_condition_56 c_m_unit c_m_part c_m_condition N k7 s0 w = some (y, v) → fr_ S_m_unit w v := by
  intro s0 w y v h
  unfold m_condition_56 at h
  exact (fr_r S_m_unit w).trans (hk7 _ _ _ _ h)
theorem f_m_condition_51 (N : Nat) (c_m_unit : aw_W → Option (Int × aw_W)) (c_m_part : Int → Int → aw_W → Option (Int × aw_W)) (c_m_condition : Int → Int → aw_W → Option (Int × aw_W)) (hc_m_unit : ∀ (w : aw_W) (y : Int) (v : aw_W), c_m_unit w = some (y, v) → fr_ S_m_unit w v) (hc_m_part : ∀ (x1 x2 : Int) (w : aw_W) (y : Int) (v : aw_W), c_m_part x1 x2 w = some (y, v) → fr_ S_m_unit w v) (hc_m_condition : ∀ (x1 x2 : Int) (w : aw_W) (y : Int) (v : aw_W), c_m_condition x1 x2 w = some (y, v) → fr_ S_m_unit w v) (k7 : Int → aw_W → Option (Int × aw_W)) (hk7 : ∀ (x3 : Int) (w : aw_W) (y : Int) (v : aw_W), k7 x3 w = some (y, v) → fr_ S_m_unit w v) : ∀ (w : aw_W) (y : Int) (v : aw_W), m_condition_51 c_m_unit c_m_part c_m_condition N k7 w = some (y, v) → fr_ S_m_unit w v := by
  intro w y v h
  unfold m_condition_51 at h
  exact (fr_r S_m_unit w).trans (f_m_condition_56 N c_m_unit c_m_part c_m_condition hc_m_unit hc_m_part hc_m_condition  _ hk7 _ _ _ _ h)
theorem f_m_condition_7 (N : Nat) (c_m_unit : aw_W → Option (Int × aw_W)) (c_m_part : Int → Int → aw_W → Option (Int × aw_W)) (c_m_condition : Int → Int → aw_W → Option (Int × aw_W)) (hc_m_unit : ∀ (w : aw_W) (y : Int) (v : aw_W), c_m_unit w = some (y, v) → fr_ S_m_unit w v) (hc_m_part : ∀ (x1 x2 : Int) (w : aw_W) (y : Int) (v : aw_W), c_m_part x1 x2 w = some (y, v) → fr_ S_m_unit w v) (hc_m_condition : ∀ (x1 x2 : Int) (w : aw_W) (y : Int) (v : aw_W), c_m_condition x1 x2 w = some (y, v) → fr_ S_m_unit w v) : ∀ (n : Nat) (x3 : Int) (w : aw_W) (y : Int) (v : aw_W), m_condition_7 c_m_unit c_m_part c_m_condition N n x3 w = some (y, v) → fr_ S_m_unit w v := by
  intro n
  induction n with
  | zero => intro x3 w y v h; rw [m_condition_7] at h; cases h
  | succ n ih =>
    intro x3 w y v h
    rw [m_condition_7] at h
    by_cases hc : (w 49 11) = (-1)
    · rw [if_pos hc] at h
      obtain ⟨r1, w1, h1, h⟩ := aw_b2s h
      have c1 := (fr_r S_m_unit w).trans (fr_m (by decide) (f_m_look N _ _ _ h1))
      by_cases hc : r1 = 124
      · rw [if_pos hc] at h
        obtain ⟨r2, w2, h2, h⟩ := aw_b2s h
        have c2 := ((c1).up (by rfl)).trans (hc_m_part _ _ _ _ _ h2)
        by_cases hc : x3 = 0
        · rw [if_pos hc] at h
          by_cases hc : r2 = 0
          · rw [if_pos hc] at h
            exact (c2).trans (f_m_condition_56 N c_m_unit c_m_part c_m_condition hc_m_unit hc_m_part hc_m_condition  _ ih _ _ _ _ h)
          · rw [if_neg hc] at h
            exact (c2).trans (f_m_condition_51 N c_m_unit c_m_part c_m_condition hc_m_unit hc_m_part hc_m_condition  _ ih _ _ _ h)
        · rw [if_neg hc] at h
          exact (c2).trans (f_m_condition_51 N c_m_unit c_m_part c_m_condition hc_m_unit hc_m_part hc_m_condition  _ ih _ _ _ h)
      · rw [if_neg hc] at h
        exact (c1).trans (f_m_condition_60 N c_m_unit c_m_part c_m_condition hc_m_unit hc_m_part hc_m_condition  _ _ _ _ h)
    · rw [if_neg hc] at h
      exact (fr_r S_m_unit w).trans (f_m_condition_60 N c_m_unit c_m_part c_m_condition hc_m_unit hc_m_part hc_m_condition  _ _ _ _ h)
theorem f_m_condition_b (N : Nat) (c_m_unit : aw_W → Option (Int × aw_W)) (c_m_part : Int → Int → aw_W → Option (Int × aw_W)) (c_m_condition : Int → Int → aw_W → Option (Int × aw_W)) (hc_m_unit : ∀ (w : aw_W) (y : Int) (v : aw_W), c_m_unit w = some (y, v) → fr_ S_m_unit w v) (hc_m_part : ∀ (x1 x2 : Int) (w : aw_W) (y : Int) (v : aw_W), c_m_part x1 x2 w = some (y, v) → fr_ S_m_unit w v) (hc_m_condition : ∀ (x1 x2 : Int) (w : aw_W) (y : Int) (v : aw_W), c_m_condition x1 x2 w = some (y, v) → fr_ S_m_unit w v) : ∀ (x1 x2 : Int) (w : aw_W) (y : Int) (v : aw_W), m_condition_b c_m_unit c_m_part c_m_condition N x1 x2 w = some (y, v) → fr_ S_m_unit w v := by
  intro x1 x2 w y v h
  unfold m_condition_b at h
  obtain ⟨r1, w1, h1, h⟩ := aw_b2s h
  have c1 := (fr_r S_m_unit w).trans (hc_m_part _ _ _ _ _ h1)
  exact (c1).trans (f_m_condition_7 N c_m_unit c_m_part c_m_condition hc_m_unit hc_m_part hc_m_condition  N _ _ _ _ h)
theorem f_g_m_unit (N : Nat) : ∀ D : Nat, (∀ (w : aw_W) (y : Int) (v : aw_W), (g_m_unit N D).1 w = some (y, v) → fr_ S_m_unit w v) ∧ (∀ (x1 x2 : Int) (w : aw_W) (y : Int) (v : aw_W), (g_m_unit N D).2.1 x1 x2 w = some (y, v) → fr_ S_m_unit w v) ∧ (∀ (x1 x2 : Int) (w : aw_W) (y : Int) (v : aw_W), (g_m_unit N D).2.2 x1 x2 w = some (y, v) → fr_ S_m_unit w v)
  | 0 => ⟨fun _ _ _ h => (by cases h), fun _ _ _ _ _ h => (by cases h), fun _ _ _ _ _ h => (by cases h)⟩
  | D + 1 => by
    have ih := f_g_m_unit N D
    exact ⟨f_m_unit_b N _ _ _ ih.1 ih.2.1 ih.2.2, f_m_part_b N _ _ _ ih.1 ih.2.1 ih.2.2, f_m_condition_b N _ _ _ ih.1 ih.2.1 ih.2.2⟩
theorem f_m_unit (N : Nat) : ∀ (w : aw_W) (y : Int) (v : aw_W), m_unit N w = some (y, v) → fr_ S_m_unit w v := (f_g_m_unit N 60).1
theorem f_m_part (N : Nat) : ∀ (x1 x2 : Int) (w : aw_W) (y : Int) (v : aw_W), m_part N x1 x2 w = some (y, v) → fr_ S_m_unit w v := (f_g_m_unit N 60).2.1
theorem f_m_condition (N : Nat) : ∀ (x1 x2 : Int) (w : aw_W) (y : Int) (v : aw_W), m_condition N x1 x2 w = some (y, v) → fr_ S_m_unit w v := (f_g_m_unit N 60).2.2
