def S_j_Int_bitCount : List (Nat × Nat) := []
theorem f_j_Int_bitCount (N : Nat) : ∀ (x0 : Int) (w : aw_W) (y : Int) (v : aw_W), j_Int_bitCount N x0 w = some (y, v) → fr_ S_j_Int_bitCount w v := by
  intro x0 w y v h
  unfold j_Int_bitCount at h
  cases h
  exact fr_r S_j_Int_bitCount w
def S_j_Arr_fill_Ii : List (Nat × Nat) := [(31, 1000000)]
theorem f_j_Arr_fill_Ii_20 (N : Nat) : ∀ (w v : aw_W), j_Arr_fill_Ii_20 N w = some v → fr_ S_j_Arr_fill_Ii w v := by
  intro w v h
  unfold j_Arr_fill_Ii_20 at h
  cases h
  exact fr_r S_j_Arr_fill_Ii w
theorem f_j_Arr_fill_Ii_5 (N : Nat) : ∀ (n : Nat) (x1 x2 x3 : Int) (w v : aw_W), j_Arr_fill_Ii_5 N n x1 x2 x3 w = some v → fr_ S_j_Arr_fill_Ii w v := by
  intro n
  induction n with
  | zero => intro x1 x2 x3 w v h; rw [j_Arr_fill_Ii_5] at h; cases h
  | succ n ih =>
    intro x1 x2 x3 w v h
    rw [j_Arr_fill_Ii_5] at h
    by_cases hc : x3 ≤ x2
    · rw [if_pos hc] at h
      exact (fr_r S_j_Arr_fill_Ii w).trans (f_j_Arr_fill_Ii_20 N  _ _ h)
    · rw [if_neg hc] at h
      obtain ⟨_, h⟩ := aw_cks h
      exact ((fr_r S_j_Arr_fill_Ii w).upA (by rfl)).trans (ih _ _ _ _ _ h)
theorem f_j_Arr_fill_Ii (N : Nat) : ∀ (x1 : Int) (w v : aw_W), j_Arr_fill_Ii N x1 w = some v → fr_ S_j_Arr_fill_Ii w v := by
  intro x1 w v h
  unfold j_Arr_fill_Ii at h
  exact (fr_r S_j_Arr_fill_Ii w).trans (f_j_Arr_fill_Ii_5 N  N _ _ _ _ _ h)
def S_j_Arr_fill_Ii_32 : List (Nat × Nat) := [(32, 1000000)]
theorem f_j_Arr_fill_Ii_32_20 (N : Nat) : ∀ (w v : aw_W), j_Arr_fill_Ii_32_20 N w = some v → fr_ S_j_Arr_fill_Ii_32 w v := by
  intro w v h
  unfold j_Arr_fill_Ii_32_20 at h
  cases h
  exact fr_r S_j_Arr_fill_Ii_32 w
theorem f_j_Arr_fill_Ii_32_5 (N : Nat) : ∀ (n : Nat) (x1 x2 x3 : Int) (w v : aw_W), j_Arr_fill_Ii_32_5 N n x1 x2 x3 w = some v → fr_ S_j_Arr_fill_Ii_32 w v := by
  intro n
  induction n with
  | zero => intro x1 x2 x3 w v h; rw [j_Arr_fill_Ii_32_5] at h; cases h
  | succ n ih =>
    intro x1 x2 x3 w v h
    rw [j_Arr_fill_Ii_32_5] at h
    by_cases hc : x3 ≤ x2
    · rw [if_pos hc] at h
      exact (fr_r S_j_Arr_fill_Ii_32 w).trans (f_j_Arr_fill_Ii_32_20 N  _ _ h)
    · rw [if_neg hc] at h
      obtain ⟨_, h⟩ := aw_cks h
      exact ((fr_r S_j_Arr_fill_Ii_32 w).upA (by rfl)).trans (ih _ _ _ _ _ h)
theorem f_j_Arr_fill_Ii_32 (N : Nat) : ∀ (x1 : Int) (w v : aw_W), j_Arr_fill_Ii_32 N x1 w = some v → fr_ S_j_Arr_fill_Ii_32 w v := by
  intro x1 w v h
  unfold j_Arr_fill_Ii_32 at h
  exact (fr_r S_j_Arr_fill_Ii_32 w).trans (f_j_Arr_fill_Ii_32_5 N  N _ _ _ _ _ h)
def S_j_Arr_fill_Ii_6 : List (Nat × Nat) := [(6, 1000000)]
theorem f_j_Arr_fill_Ii_6_20 (N : Nat) : ∀ (w v : aw_W), j_Arr_fill_Ii_6_20 N w = some v → fr_ S_j_Arr_fill_Ii_6 w v := by
  intro w v h
  unfold j_Arr_fill_Ii_6_20 at h
  cases h
  exact fr_r S_j_Arr_fill_Ii_6 w
theorem f_j_Arr_fill_Ii_6_5 (N : Nat) : ∀ (n : Nat) (x1 x2 x3 : Int) (w v : aw_W), j_Arr_fill_Ii_6_5 N n x1 x2 x3 w = some v → fr_ S_j_Arr_fill_Ii_6 w v := by
  intro n
  induction n with
  | zero => intro x1 x2 x3 w v h; rw [j_Arr_fill_Ii_6_5] at h; cases h
  | succ n ih =>
    intro x1 x2 x3 w v h
    rw [j_Arr_fill_Ii_6_5] at h
    by_cases hc : x3 ≤ x2
    · rw [if_pos hc] at h
      exact (fr_r S_j_Arr_fill_Ii_6 w).trans (f_j_Arr_fill_Ii_6_20 N  _ _ h)
    · rw [if_neg hc] at h
      obtain ⟨_, h⟩ := aw_cks h
      exact ((fr_r S_j_Arr_fill_Ii_6 w).upA (by rfl)).trans (ih _ _ _ _ _ h)
theorem f_j_Arr_fill_Ii_6 (N : Nat) : ∀ (x1 : Int) (w v : aw_W), j_Arr_fill_Ii_6 N x1 w = some v → fr_ S_j_Arr_fill_Ii_6 w v := by
  intro x1 w v h
  unfold j_Arr_fill_Ii_6 at h
  exact (fr_r S_j_Arr_fill_Ii_6 w).trans (f_j_Arr_fill_Ii_6_5 N  N _ _ _ _ _ h)
def S_j_Arr_fill_Ii_43 : List (Nat × Nat) := [(43, 1000000)]
theorem f_j_Arr_fill_Ii_43_20 (N : Nat) : ∀ (w v : aw_W), j_Arr_fill_Ii_43_20 N w = some v → fr_ S_j_Arr_fill_Ii_43 w v := by
  intro w v h
  unfold j_Arr_fill_Ii_43_20 at h
  cases h
  exact fr_r S_j_Arr_fill_Ii_43 w
theorem f_j_Arr_fill_Ii_43_5 (N : Nat) : ∀ (n : Nat) (x1 x2 x3 : Int) (w v : aw_W), j_Arr_fill_Ii_43_5 N n x1 x2 x3 w = some v → fr_ S_j_Arr_fill_Ii_43 w v := by
  intro n
  induction n with
  | zero => intro x1 x2 x3 w v h; rw [j_Arr_fill_Ii_43_5] at h; cases h
  | succ n ih =>
    intro x1 x2 x3 w v h
    rw [j_Arr_fill_Ii_43_5] at h
    by_cases hc : x3 ≤ x2
    · rw [if_pos hc] at h
      exact (fr_r S_j_Arr_fill_Ii_43 w).trans (f_j_Arr_fill_Ii_43_20 N  _ _ h)
    · rw [if_neg hc] at h
      obtain ⟨_, h⟩ := aw_cks h
      exact ((fr_r S_j_Arr_fill_Ii_43 w).upA (by rfl)).trans (ih _ _ _ _ _ h)
theorem f_j_Arr_fill_Ii_43 (N : Nat) : ∀ (x1 : Int) (w v : aw_W), j_Arr_fill_Ii_43 N x1 w = some v → fr_ S_j_Arr_fill_Ii_43 w v := by
  intro x1 w v h
  unfold j_Arr_fill_Ii_43 at h
  exact (fr_r S_j_Arr_fill_Ii_43 w).trans (f_j_Arr_fill_Ii_43_5 N  N _ _ _ _ _ h)
def S_j_Arr_fill_Ll : List (Nat × Nat) := [(24, 1000000)]
theorem f_j_Arr_fill_Ll_22 (N : Nat) : ∀ (w v : aw_W), j_Arr_fill_Ll_22 N w = some v → fr_ S_j_Arr_fill_Ll w v := by
  intro w v h
  unfold j_Arr_fill_Ll_22 at h
  cases h
  exact fr_r S_j_Arr_fill_Ll w
theorem f_j_Arr_fill_Ll_6 (N : Nat) : ∀ (n : Nat) (x1 x3 x4 : Int) (w v : aw_W), j_Arr_fill_Ll_6 N n x1 x3 x4 w = some v → fr_ S_j_Arr_fill_Ll w v := by
  intro n
  induction n with
  | zero => intro x1 x3 x4 w v h; rw [j_Arr_fill_Ll_6] at h; cases h
  | succ n ih =>
    intro x1 x3 x4 w v h
    rw [j_Arr_fill_Ll_6] at h
    by_cases hc : x4 ≤ x3
    · rw [if_pos hc] at h
      exact (fr_r S_j_Arr_fill_Ll w).trans (f_j_Arr_fill_Ll_22 N  _ _ h)
    · rw [if_neg hc] at h
      obtain ⟨_, h⟩ := aw_cks h
      exact ((fr_r S_j_Arr_fill_Ll w).upA (by rfl)).trans (ih _ _ _ _ _ h)
theorem f_j_Arr_fill_Ll (N : Nat) : ∀ (x1 : Int) (w v : aw_W), j_Arr_fill_Ll N x1 w = some v → fr_ S_j_Arr_fill_Ll w v := by
  intro x1 w v h
  unfold j_Arr_fill_Ll at h
  exact (fr_r S_j_Arr_fill_Ll w).trans (f_j_Arr_fill_Ll_6 N  N _ _ _ _ _ h)
def S_j_Long_bitCount : List (Nat × Nat) := []
theorem f_j_Long_bitCount (N : Nat) : ∀ (x0 : Int) (w : aw_W) (y : Int) (v : aw_W), j_Long_bitCount N x0 w = some (y, v) → fr_ S_j_Long_bitCount w v := by
  intro x0 w y v h
  unfold j_Long_bitCount at h
  cases h
  exact fr_r S_j_Long_bitCount w
def S_j_Arr_fill_Ii_35 : List (Nat × Nat) := [(35, 1000000)]
theorem f_j_Arr_fill_Ii_35_20 (N : Nat) : ∀ (w v : aw_W), j_Arr_fill_Ii_35_20 N w = some v → fr_ S_j_Arr_fill_Ii_35 w v := by
  intro w v h
  unfold j_Arr_fill_Ii_35_20 at h
  cases h
  exact fr_r S_j_Arr_fill_Ii_35 w
theorem f_j_Arr_fill_Ii_35_5 (N : Nat) : ∀ (n : Nat) (x1 x2 x3 : Int) (w v : aw_W), j_Arr_fill_Ii_35_5 N n x1 x2 x3 w = some v → fr_ S_j_Arr_fill_Ii_35 w v := by
  intro n
  induction n with
  | zero => intro x1 x2 x3 w v h; rw [j_Arr_fill_Ii_35_5] at h; cases h
  | succ n ih =>
    intro x1 x2 x3 w v h
    rw [j_Arr_fill_Ii_35_5] at h
    by_cases hc : x3 ≤ x2
    · rw [if_pos hc] at h
      exact (fr_r S_j_Arr_fill_Ii_35 w).trans (f_j_Arr_fill_Ii_35_20 N  _ _ h)
    · rw [if_neg hc] at h
      obtain ⟨_, h⟩ := aw_cks h
      exact ((fr_r S_j_Arr_fill_Ii_35 w).upA (by rfl)).trans (ih _ _ _ _ _ h)
theorem f_j_Arr_fill_Ii_35 (N : Nat) : ∀ (x1 : Int) (w v : aw_W), j_Arr_fill_Ii_35 N x1 w = some v → fr_ S_j_Arr_fill_Ii_35 w v := by
  intro x1 w v h
  unfold j_Arr_fill_Ii_35 at h
  exact (fr_r S_j_Arr_fill_Ii_35 w).trans (f_j_Arr_fill_Ii_35_5 N  N _ _ _ _ _ h)
def S_j_Str_coder : List (Nat × Nat) := []
theorem f_j_Str_coder_14 (N : Nat) : ∀ (s0 : Int) (w : aw_W) (y : Int) (v : aw_W), j_Str_coder_14 N s0 w = some (y, v) → fr_ S_j_Str_coder w v := by
  intro s0 w y v h
  unfold j_Str_coder_14 at h
  obtain ⟨_, h⟩ := aw_cks h
  cases h
  exact fr_r S_j_Str_coder w
theorem f_j_Str_coder (N : Nat) : ∀ (w : aw_W) (y : Int) (v : aw_W), j_Str_coder N w = some (y, v) → fr_ S_j_Str_coder w v := by
  intro w y v h
  unfold j_Str_coder at h
  by_cases hc : (1 : Int) = 0
  · rw [if_pos hc] at h
    exact (fr_r S_j_Str_coder w).trans (f_j_Str_coder_14 N  _ _ _ _ h)
  · rw [if_neg hc] at h
    exact (fr_r S_j_Str_coder w).trans (f_j_Str_coder_14 N  _ _ _ _ h)
def S_j_Str_length : List (Nat × Nat) := []
theorem f_j_Str_length (N : Nat) : ∀ (w : aw_W) (y : Int) (v : aw_W), j_Str_length N w = some (y, v) → fr_ S_j_Str_length w v := by
  intro w y v h
  unfold j_Str_length at h
  obtain ⟨r1, w1, h1, h⟩ := aw_b2s h
  have c1 := (fr_r S_j_Str_length w).trans (fr_m (by decide) (f_j_Str_coder N _ _ _ h1))
  cases h
  exact c1
def S_j_Str_isLatin1 : List (Nat × Nat) := []
theorem f_j_Str_isLatin1_18 (N : Nat) : ∀ (s0 : Int) (w : aw_W) (y : Int) (v : aw_W), j_Str_isLatin1_18 N s0 w = some (y, v) → fr_ S_j_Str_isLatin1 w v := by
  intro s0 w y v h
  unfold j_Str_isLatin1_18 at h
  obtain ⟨_, h⟩ := aw_cks h
  cases h
  exact fr_r S_j_Str_isLatin1 w
theorem f_j_Str_isLatin1_17 (N : Nat) : ∀ (w : aw_W) (y : Int) (v : aw_W), j_Str_isLatin1_17 N w = some (y, v) → fr_ S_j_Str_isLatin1 w v := by
  intro w y v h
  unfold j_Str_isLatin1_17 at h
  exact (fr_r S_j_Str_isLatin1 w).trans (f_j_Str_isLatin1_18 N  _ _ _ _ h)
theorem f_j_Str_isLatin1 (N : Nat) : ∀ (w : aw_W) (y : Int) (v : aw_W), j_Str_isLatin1 N w = some (y, v) → fr_ S_j_Str_isLatin1 w v := by
  intro w y v h
  unfold j_Str_isLatin1 at h
  by_cases hc : (1 : Int) = 0
  · rw [if_pos hc] at h
    exact (fr_r S_j_Str_isLatin1 w).trans (f_j_Str_isLatin1_17 N  _ _ _ h)
  · rw [if_neg hc] at h
    by_cases hc : (0 : Int) = 0
    · rw [if_pos hc] at h
      exact (fr_r S_j_Str_isLatin1 w).trans (f_j_Str_isLatin1_18 N  _ _ _ _ h)
    · rw [if_neg hc] at h
      exact (fr_r S_j_Str_isLatin1 w).trans (f_j_Str_isLatin1_17 N  _ _ _ h)
def S_j_Lat_charAt : List (Nat × Nat) := []
theorem f_j_Lat_charAt (N : Nat) : ∀ (x1 : Int) (w : aw_W) (y : Int) (v : aw_W), j_Lat_charAt N x1 w = some (y, v) → fr_ S_j_Lat_charAt w v := by
  intro x1 w y v h
  unfold j_Lat_charAt at h
  obtain ⟨w1, h1, h⟩ := aw_b1s h
  have c1 := (fr_r S_j_Lat_charAt w).trans (f_j_Str_checkIndex N _ _ _ _ h1)
  obtain ⟨_, h⟩ := aw_cks h
  obtain ⟨_, h⟩ := aw_cks h
  cases h
  exact c1
def S_j_Str_charAt : List (Nat × Nat) := []
theorem f_j_Str_charAt (N : Nat) : ∀ (x1 : Int) (w : aw_W) (y : Int) (v : aw_W), j_Str_charAt N x1 w = some (y, v) → fr_ S_j_Str_charAt w v := by
  intro x1 w y v h
  unfold j_Str_charAt at h
  obtain ⟨r1, w1, h1, h⟩ := aw_b2s h
  have c1 := (fr_r S_j_Str_charAt w).trans (fr_m (by decide) (f_j_Str_isLatin1 N _ _ _ h1))
  by_cases hc : r1 = 0
  · rw [if_pos hc] at h
    cases h
  · rw [if_neg hc] at h
    obtain ⟨r2, w2, h2, h⟩ := aw_b2s h
    have c2 := (c1).trans (fr_m (by decide) (f_j_Lat_charAt N _ _ _ _ h2))
    obtain ⟨_, h⟩ := aw_cks h
    cases h
    exact c2
def S_j_Str_coder_221 : List (Nat × Nat) := []
theorem f_j_Str_coder_221_14 (N : Nat) : ∀ (s0 : Int) (w : aw_W) (y : Int) (v : aw_W), j_Str_coder_221_14 N s0 w = some (y, v) → fr_ S_j_Str_coder_221 w v := by
  intro s0 w y v h
  unfold j_Str_coder_221_14 at h
  obtain ⟨_, h⟩ := aw_cks h
  cases h
  exact fr_r S_j_Str_coder_221 w
theorem f_j_Str_coder_221 (N : Nat) : ∀ (w : aw_W) (y : Int) (v : aw_W), j_Str_coder_221 N w = some (y, v) → fr_ S_j_Str_coder_221 w v := by
  intro w y v h
  unfold j_Str_coder_221 at h
  by_cases hc : (1 : Int) = 0
  · rw [if_pos hc] at h
    exact (fr_r S_j_Str_coder_221 w).trans (f_j_Str_coder_221_14 N  _ _ _ _ h)
  · rw [if_neg hc] at h
    exact (fr_r S_j_Str_coder_221 w).trans (f_j_Str_coder_221_14 N  _ _ _ _ h)
def S_j_Str_length_221 : List (Nat × Nat) := []
theorem f_j_Str_length_221 (N : Nat) : ∀ (w : aw_W) (y : Int) (v : aw_W), j_Str_length_221 N w = some (y, v) → fr_ S_j_Str_length_221 w v := by
  intro w y v h
  unfold j_Str_length_221 at h
  obtain ⟨r1, w1, h1, h⟩ := aw_b2s h
  have c1 := (fr_r S_j_Str_length_221 w).trans (fr_m (by decide) (f_j_Str_coder_221 N _ _ _ h1))
  cases h
  exact c1
def S_j_Str_isLatin1_221 : List (Nat × Nat) := []
theorem f_j_Str_isLatin1_221_18 (N : Nat) : ∀ (s0 : Int) (w : aw_W) (y : Int) (v : aw_W), j_Str_isLatin1_221_18 N s0 w = some (y, v) → fr_ S_j_Str_isLatin1_221 w v := by
  intro s0 w y v h
  unfold j_Str_isLatin1_221_18 at h
  obtain ⟨_, h⟩ := aw_cks h
  cases h
  exact fr_r S_j_Str_isLatin1_221 w
theorem f_j_Str_isLatin1_221_17 (N : Nat) : ∀ (w : aw_W) (y : Int) (v : aw_W), j_Str_isLatin1_221_17 N w = some (y, v) → fr_ S_j_Str_isLatin1_221 w v := by
  intro w y v h
  unfold j_Str_isLatin1_221_17 at h
  exact (fr_r S_j_Str_isLatin1_221 w).trans (f_j_Str_isLatin1_221_18 N  _ _ _ _ h)
theorem f_j_Str_isLatin1_221 (N : Nat) : ∀ (w : aw_W) (y : Int) (v : aw_W), j_Str_isLatin1_221 N w = some (y, v) → fr_ S_j_Str_isLatin1_221 w v := by
  intro w y v h
  unfold j_Str_isLatin1_221 at h
  by_cases hc : (1 : Int) = 0
  · rw [if_pos hc] at h
    exact (fr_r S_j_Str_isLatin1_221 w).trans (f_j_Str_isLatin1_221_17 N  _ _ _ h)
  · rw [if_neg hc] at h
    by_cases hc : (0 : Int) = 0
    · rw [if_pos hc] at h
      exact (fr_r S_j_Str_isLatin1_221 w).trans (f_j_Str_isLatin1_221_18 N  _ _ _ _ h)
    · rw [if_neg hc] at h
      exact (fr_r S_j_Str_isLatin1_221 w).trans (f_j_Str_isLatin1_221_17 N  _ _ _ h)
def S_j_Lat_charAt_231 : List (Nat × Nat) := []
theorem f_j_Lat_charAt_231 (N : Nat) : ∀ (x1 : Int) (w : aw_W) (y : Int) (v : aw_W), j_Lat_charAt_231 N x1 w = some (y, v) → fr_ S_j_Lat_charAt_231 w v := by
  intro x1 w y v h
  unfold j_Lat_charAt_231 at h
  obtain ⟨w1, h1, h⟩ := aw_b1s h
  have c1 := (fr_r S_j_Lat_charAt_231 w).trans (f_j_Str_checkIndex N _ _ _ _ h1)
  obtain ⟨_, h⟩ := aw_cks h
  obtain ⟨_, h⟩ := aw_cks h
  cases h
  exact c1
def S_j_Str_charAt_221 : List (Nat × Nat) := []
theorem f_j_Str_charAt_221 (N : Nat) : ∀ (x1 : Int) (w : aw_W) (y : Int) (v : aw_W), j_Str_charAt_221 N x1 w = some (y, v) → fr_ S_j_Str_charAt_221 w v := by
  intro x1 w y v h
  unfold j_Str_charAt_221 at h
  obtain ⟨r1, w1, h1, h⟩ := aw_b2s h
  have c1 := (fr_r S_j_Str_charAt_221 w).trans (fr_m (by decide) (f_j_Str_isLatin1_221 N _ _ _ h1))
  by_cases hc : r1 = 0
  · rw [if_pos hc] at h
    cases h
  · rw [if_neg hc] at h
    obtain ⟨r2, w2, h2, h⟩ := aw_b2s h
    have c2 := (c1).trans (fr_m (by decide) (f_j_Lat_charAt_231 N _ _ _ _ h2))
    obtain ⟨_, h⟩ := aw_cks h
    cases h
    exact c2
def S_j_Str_coder_223 : List (Nat × Nat) := []
theorem f_j_Str_coder_223_14 (N : Nat) : ∀ (s0 : Int) (w : aw_W) (y : Int) (v : aw_W), j_Str_coder_223_14 N s0 w = some (y, v) → fr_ S_j_Str_coder_223 w v := by
  intro s0 w y v h
  unfold j_Str_coder_223_14 at h
  obtain ⟨_, h⟩ := aw_cks h
  cases h
  exact fr_r S_j_Str_coder_223 w
theorem f_j_Str_coder_223 (N : Nat) : ∀ (w : aw_W) (y : Int) (v : aw_W), j_Str_coder_223 N w = some (y, v) → fr_ S_j_Str_coder_223 w v := by
  intro w y v h
  unfold j_Str_coder_223 at h
  by_cases hc : (1 : Int) = 0
  · rw [if_pos hc] at h
    exact (fr_r S_j_Str_coder_223 w).trans (f_j_Str_coder_223_14 N  _ _ _ _ h)
  · rw [if_neg hc] at h
    exact (fr_r S_j_Str_coder_223 w).trans (f_j_Str_coder_223_14 N  _ _ _ _ h)
def S_j_Str_length_223 : List (Nat × Nat) := []
theorem f_j_Str_length_223 (N : Nat) : ∀ (w : aw_W) (y : Int) (v : aw_W), j_Str_length_223 N w = some (y, v) → fr_ S_j_Str_length_223 w v := by
  intro w y v h
  unfold j_Str_length_223 at h
  obtain ⟨r1, w1, h1, h⟩ := aw_b2s h
  have c1 := (fr_r S_j_Str_length_223 w).trans (fr_m (by decide) (f_j_Str_coder_223 N _ _ _ h1))
  cases h
  exact c1
def S_j_Str_isLatin1_223 : List (Nat × Nat) := []
theorem f_j_Str_isLatin1_223_18 (N : Nat) : ∀ (s0 : Int) (w : aw_W) (y : Int) (v : aw_W), j_Str_isLatin1_223_18 N s0 w = some (y, v) → fr_ S_j_Str_isLatin1_223 w v := by
  intro s0 w y v h
  unfold j_Str_isLatin1_223_18 at h
  obtain ⟨_, h⟩ := aw_cks h
  cases h
  exact fr_r S_j_Str_isLatin1_223 w
theorem f_j_Str_isLatin1_223_17 (N : Nat) : ∀ (w : aw_W) (y : Int) (v : aw_W), j_Str_isLatin1_223_17 N w = some (y, v) → fr_ S_j_Str_isLatin1_223 w v := by
  intro w y v h
  unfold j_Str_isLatin1_223_17 at h
  exact (fr_r S_j_Str_isLatin1_223 w).trans (f_j_Str_isLatin1_223_18 N  _ _ _ _ h)
theorem f_j_Str_isLatin1_223 (N : Nat) : ∀ (w : aw_W) (y : Int) (v : aw_W), j_Str_isLatin1_223 N w = some (y, v) → fr_ S_j_Str_isLatin1_223 w v := by
  intro w y v h
  unfold j_Str_isLatin1_223 at h
  by_cases hc : (1 : Int) = 0
  · rw [if_pos hc] at h
    exact (fr_r S_j_Str_isLatin1_223 w).trans (f_j_Str_isLatin1_223_17 N  _ _ _ h)
  · rw [if_neg hc] at h
    by_cases hc : (0 : Int) = 0
    · rw [if_pos hc] at h
      exact (fr_r S_j_Str_isLatin1_223 w).trans (f_j_Str_isLatin1_223_18 N  _ _ _ _ h)
    · rw [if_neg hc] at h
      exact (fr_r S_j_Str_isLatin1_223 w).trans (f_j_Str_isLatin1_223_17 N  _ _ _ h)
def S_j_Lat_charAt_233 : List (Nat × Nat) := []
theorem f_j_Lat_charAt_233 (N : Nat) : ∀ (x1 : Int) (w : aw_W) (y : Int) (v : aw_W), j_Lat_charAt_233 N x1 w = some (y, v) → fr_ S_j_Lat_charAt_233 w v := by
  intro x1 w y v h
  unfold j_Lat_charAt_233 at h
  obtain ⟨w1, h1, h⟩ := aw_b1s h
  have c1 := (fr_r S_j_Lat_charAt_233 w).trans (f_j_Str_checkIndex N _ _ _ _ h1)
  obtain ⟨_, h⟩ := aw_cks h
  obtain ⟨_, h⟩ := aw_cks h
  cases h
  exact c1
def S_j_Str_charAt_223 : List (Nat × Nat) := []
theorem f_j_Str_charAt_223 (N : Nat) : ∀ (x1 : Int) (w : aw_W) (y : Int) (v : aw_W), j_Str_charAt_223 N x1 w = some (y, v) → fr_ S_j_Str_charAt_223 w v := by
  intro x1 w y v h
  unfold j_Str_charAt_223 at h
  obtain ⟨r1, w1, h1, h⟩ := aw_b2s h
  have c1 := (fr_r S_j_Str_charAt_223 w).trans (fr_m (by decide) (f_j_Str_isLatin1_223 N _ _ _ h1))
  by_cases hc : r1 = 0
  · rw [if_pos hc] at h
    cases h
  · rw [if_neg hc] at h
    obtain ⟨r2, w2, h2, h⟩ := aw_b2s h
    have c2 := (c1).trans (fr_m (by decide) (f_j_Lat_charAt_233 N _ _ _ _ h2))
    obtain ⟨_, h⟩ := aw_cks h
    cases h
    exact c2
def S_j_Str_coder_222 : List (Nat × Nat) := []
theorem f_j_Str_coder_222_14 (N : Nat) : ∀ (s0 : Int) (w : aw_W) (y : Int) (v : aw_W), j_Str_coder_222_14 N s0 w = some (y, v) → fr_ S_j_Str_coder_222 w v := by
  intro s0 w y v h
  unfold j_Str_coder_222_14 at h
  obtain ⟨_, h⟩ := aw_cks h
  cases h
  exact fr_r S_j_Str_coder_222 w
theorem f_j_Str_coder_222 (N : Nat) : ∀ (w : aw_W) (y : Int) (v : aw_W), j_Str_coder_222 N w = some (y, v) → fr_ S_j_Str_coder_222 w v := by
  intro w y v h
  unfold j_Str_coder_222 at h
  by_cases hc : (1 : Int) = 0
  · rw [if_pos hc] at h
    exact (fr_r S_j_Str_coder_222 w).trans (f_j_Str_coder_222_14 N  _ _ _ _ h)
  · rw [if_neg hc] at h
    exact (fr_r S_j_Str_coder_222 w).trans (f_j_Str_coder_222_14 N  _ _ _ _ h)
def S_j_Str_length_222 : List (Nat × Nat) := []
theorem f_j_Str_length_222 (N : Nat) : ∀ (w : aw_W) (y : Int) (v : aw_W), j_Str_length_222 N w = some (y, v) → fr_ S_j_Str_length_222 w v := by
  intro w y v h
  unfold j_Str_length_222 at h
  obtain ⟨r1, w1, h1, h⟩ := aw_b2s h
  have c1 := (fr_r S_j_Str_length_222 w).trans (fr_m (by decide) (f_j_Str_coder_222 N _ _ _ h1))
  cases h
  exact c1
def S_j_Str_isLatin1_222 : List (Nat × Nat) := []
theorem f_j_Str_isLatin1_222_18 (N : Nat) : ∀ (s0 : Int) (w : aw_W) (y : Int) (v : aw_W), j_Str_isLatin1_222_18 N s0 w = some (y, v) → fr_ S_j_Str_isLatin1_222 w v := by
  intro s0 w y v h
  unfold j_Str_isLatin1_222_18 at h
  obtain ⟨_, h⟩ := aw_cks h
  cases h
  exact fr_r S_j_Str_isLatin1_222 w
theorem f_j_Str_isLatin1_222_17 (N : Nat) : ∀ (w : aw_W) (y : Int) (v : aw_W), j_Str_isLatin1_222_17 N w = some (y, v) → fr_ S_j_Str_isLatin1_222 w v := by
  intro w y v h
  unfold j_Str_isLatin1_222_17 at h
  exact (fr_r S_j_Str_isLatin1_222 w).trans (f_j_Str_isLatin1_222_18 N  _ _ _ _ h)
theorem f_j_Str_isLatin1_222 (N : Nat) : ∀ (w : aw_W) (y : Int) (v : aw_W), j_Str_isLatin1_222 N w = some (y, v) → fr_ S_j_Str_isLatin1_222 w v := by
  intro w y v h
  unfold j_Str_isLatin1_222 at h
  by_cases hc : (1 : Int) = 0
  · rw [if_pos hc] at h
    exact (fr_r S_j_Str_isLatin1_222 w).trans (f_j_Str_isLatin1_222_17 N  _ _ _ h)
  · rw [if_neg hc] at h
    by_cases hc : (0 : Int) = 0
    · rw [if_pos hc] at h
      exact (fr_r S_j_Str_isLatin1_222 w).trans (f_j_Str_isLatin1_222_18 N  _ _ _ _ h)
    · rw [if_neg hc] at h
      exact (fr_r S_j_Str_isLatin1_222 w).trans (f_j_Str_isLatin1_222_17 N  _ _ _ h)
def S_j_Lat_charAt_232 : List (Nat × Nat) := []
theorem f_j_Lat_charAt_232 (N : Nat) : ∀ (x1 : Int) (w : aw_W) (y : Int) (v : aw_W), j_Lat_charAt_232 N x1 w = some (y, v) → fr_ S_j_Lat_charAt_232 w v := by
  intro x1 w y v h
  unfold j_Lat_charAt_232 at h
  obtain ⟨w1, h1, h⟩ := aw_b1s h
  have c1 := (fr_r S_j_Lat_charAt_232 w).trans (f_j_Str_checkIndex N _ _ _ _ h1)
  obtain ⟨_, h⟩ := aw_cks h
  obtain ⟨_, h⟩ := aw_cks h
  cases h
  exact c1
def S_j_Str_charAt_222 : List (Nat × Nat) := []
theorem f_j_Str_charAt_222 (N : Nat) : ∀ (x1 : Int) (w : aw_W) (y : Int) (v : aw_W), j_Str_charAt_222 N x1 w = some (y, v) → fr_ S_j_Str_charAt_222 w v := by
  intro x1 w y v h
  unfold j_Str_charAt_222 at h
  obtain ⟨r1, w1, h1, h⟩ := aw_b2s h
  have c1 := (fr_r S_j_Str_charAt_222 w).trans (fr_m (by decide) (f_j_Str_isLatin1_222 N _ _ _ h1))
  by_cases hc : r1 = 0
  · rw [if_pos hc] at h
    cases h
  · rw [if_neg hc] at h
    obtain ⟨r2, w2, h2, h⟩ := aw_b2s h
    have c2 := (c1).trans (fr_m (by decide) (f_j_Lat_charAt_232 N _ _ _ _ h2))
    obtain ⟨_, h⟩ := aw_cks h
    cases h
    exact c2
def S_x_Book_become : List (Nat × Nat) := [(41, 4), (42, 1000000)]
theorem f_x_Book_become (N : Nat) : ∀ (w v : aw_W), x_Book_become N w = some v → fr_ S_x_Book_become w v := by
  intro w v h
  unfold x_Book_become at h
  cases h
  exact ((fr_r S_x_Book_become w).cpy (by rfl)).up (by rfl)
def S_x_back : List (Nat × Nat) := [(5, 1000000), (6, 1000000), (23, 4), (41, 4), (42, 1000000)]
theorem f_x_back (N : Nat) : ∀ (w : aw_W) (y : Int) (v : aw_W), x_back N w = some (y, v) → fr_ S_x_back w v := by
  intro w y v h
  unfold x_back at h
  by_cases hc : (w 0 14) = 0
  · rw [if_pos hc] at h
    cases h
    exact fr_r S_x_back w
  · rw [if_neg hc] at h
    obtain ⟨w1, h1, h⟩ := aw_b1s h
    have c1 := (fr_r S_x_back w).trans (fr_m (by decide) (f_x_Book_become N _ _ h1))
    cases h
    exact (((c1).cpy (by rfl)).cpy (by rfl)).up (by rfl)
def S_x_Sale_put : List (Nat × Nat) := [(21, 1000000)]
theorem f_x_Sale_put_37 (N : Nat) : ∀ (x2 : Int) (w : aw_W) (y : Int) (v : aw_W), x_Sale_put_37 N x2 w = some (y, v) → fr_ S_x_Sale_put w v := by
  intro x2 w y v h
  unfold x_Sale_put_37 at h
  cases h
  exact fr_r S_x_Sale_put w
theorem f_x_Sale_put_12 (N : Nat) : ∀ (n : Nat) (x2 x3 : Int) (w : aw_W) (y : Int) (v : aw_W), x_Sale_put_12 N n x2 x3 w = some (y, v) → fr_ S_x_Sale_put w v := by
  intro n
  induction n with
  | zero => intro x2 x3 w y v h; rw [x_Sale_put_12] at h; cases h
  | succ n ih =>
    intro x2 x3 w y v h
    rw [x_Sale_put_12] at h
    by_cases hc : x3 < 0
    · rw [if_pos hc] at h
      exact (fr_r S_x_Sale_put w).trans (f_x_Sale_put_37 N  _ _ _ _ h)
    · rw [if_neg hc] at h
      obtain ⟨_, h⟩ := aw_cks h
      exact ((fr_r S_x_Sale_put w).upA (by rfl)).trans (ih _ _ _ _ _ h)
theorem f_x_Sale_put (N : Nat) : ∀ (x1 : Int) (w : aw_W) (y : Int) (v : aw_W), x_Sale_put N x1 w = some (y, v) → fr_ S_x_Sale_put w v := by
  intro x1 w y v h
  unfold x_Sale_put at h
  exact (fr_r S_x_Sale_put w).trans (f_x_Sale_put_12 N  N _ _ _ _ _ h)
def S_x_Sale_take : List (Nat × Nat) := [(21, 1000000)]
theorem f_x_Sale_take_22 (N : Nat) : ∀ (w : aw_W) (y : Int) (v : aw_W), x_Sale_take_22 N w = some (y, v) → fr_ S_x_Sale_take w v := by
  intro w y v h
  unfold x_Sale_take_22 at h
  cases h
  exact fr_r S_x_Sale_take w
theorem f_x_Sale_take_63 (N : Nat) : ∀ (w : aw_W) (y : Int) (v : aw_W), x_Sale_take_63 N w = some (y, v) → fr_ S_x_Sale_take w v := by
  intro w y v h
  unfold x_Sale_take_63 at h
  cases h
  exact fr_r S_x_Sale_take w
theorem f_x_Sale_take_55 (N : Nat) : ∀ (w : aw_W) (y : Int) (v : aw_W), x_Sale_take_55 N w = some (y, v) → fr_ S_x_Sale_take w v := by
  intro w y v h
  unfold x_Sale_take_55 at h
  cases h
  exact fr_r S_x_Sale_take w
theorem f_x_Sale_take_26 (N : Nat) : ∀ (n : Nat) (x2 : Int) (w : aw_W) (y : Int) (v : aw_W), x_Sale_take_26 N n x2 w = some (y, v) → fr_ S_x_Sale_take w v := by
  intro n
  induction n with
  | zero => intro x2 w y v h; rw [x_Sale_take_26] at h; cases h
  | succ n ih =>
    intro x2 w y v h
    rw [x_Sale_take_26] at h
    by_cases hc : (w 3 4) ≤ x2
    · rw [if_pos hc] at h
      exact (fr_r S_x_Sale_take w).trans (f_x_Sale_take_63 N  _ _ _ h)
    · rw [if_neg hc] at h
      obtain ⟨_, h⟩ := aw_cks h
      by_cases hc : (w 21 x2.toNat) ≤ (w 5 4)
      · rw [if_pos hc] at h
        exact (fr_r S_x_Sale_take w).trans (ih _ _ _ _ h)
      · rw [if_neg hc] at h
        exact (fr_r S_x_Sale_take w).trans (f_x_Sale_take_55 N  _ _ _ h)
theorem f_x_Sale_take (N : Nat) : ∀ (x1 : Int) (w : aw_W) (y : Int) (v : aw_W), x_Sale_take N x1 w = some (y, v) → fr_ S_x_Sale_take w v := by
  intro x1 w y v h
  unfold x_Sale_take at h
  by_cases hc : (w 3 4) = 0
  · rw [if_pos hc] at h
    exact (fr_r S_x_Sale_take w).trans (f_x_Sale_take_22 N  _ _ _ h)
  · rw [if_neg hc] at h
    by_cases hc : x1 < 0
    · rw [if_pos hc] at h
      exact (fr_r S_x_Sale_take w).trans (f_x_Sale_take_22 N  _ _ _ h)
    · rw [if_neg hc] at h
      obtain ⟨r1, w1, h1, h⟩ := aw_b2s h
      have c1 := (fr_r S_x_Sale_take w).trans (fr_m (by decide) (f_x_Sale_put N _ _ _ _ h1))
      by_cases hc : r1 = 0
      · rw [if_pos hc] at h
        exact (c1).trans (f_x_Sale_take_26 N  N _ _ _ _ h)
      · rw [if_neg hc] at h
        exact (c1).trans (f_x_Sale_take_22 N  _ _ _ h)
def S_x_Order_clear : List (Nat × Nat) := [(18, 2)]
theorem f_x_Order_clear (N : Nat) : ∀ (w v : aw_W), x_Order_clear N w = some v → fr_ S_x_Order_clear w v := by
  intro w v h
  unfold x_Order_clear at h
  cases h
  exact (fr_r S_x_Order_clear w).up (by rfl)
def S_x_Order_alike : List (Nat × Nat) := []
theorem f_x_Order_alike_32 (N : Nat) : ∀ (s0 : Int) (w : aw_W) (y : Int) (v : aw_W), x_Order_alike_32 N s0 w = some (y, v) → fr_ S_x_Order_alike w v := by
  intro s0 w y v h
  unfold x_Order_alike_32 at h
  obtain ⟨_, h⟩ := aw_cks h
  cases h
  exact fr_r S_x_Order_alike w
theorem f_x_Order_alike_31 (N : Nat) : ∀ (w : aw_W) (y : Int) (v : aw_W), x_Order_alike_31 N w = some (y, v) → fr_ S_x_Order_alike w v := by
  intro w y v h
  unfold x_Order_alike_31 at h
  exact (fr_r S_x_Order_alike w).trans (f_x_Order_alike_32 N  _ _ _ _ h)
theorem f_x_Order_alike (N : Nat) : ∀ (x1 x2 : Int) (w : aw_W) (y : Int) (v : aw_W), x_Order_alike N x1 x2 w = some (y, v) → fr_ S_x_Order_alike w v := by
  intro x1 x2 w y v h
  unfold x_Order_alike at h
  by_cases hc : x1 < 0
  · rw [if_pos hc] at h
    exact (fr_r S_x_Order_alike w).trans (f_x_Order_alike_31 N  _ _ _ h)
  · rw [if_neg hc] at h
    by_cases hc : (w 18 2) ≤ x2
    · rw [if_pos hc] at h
      exact (fr_r S_x_Order_alike w).trans (f_x_Order_alike_31 N  _ _ _ h)
    · rw [if_neg hc] at h
      obtain ⟨_, h⟩ := aw_cks h
      obtain ⟨_, h⟩ := aw_cks h
      by_cases hc : (w 20 x1.toNat) = (w 20 x2.toNat)
      · rw [if_pos hc] at h
        exact (fr_r S_x_Order_alike w).trans (f_x_Order_alike_32 N  _ _ _ _ h)
      · rw [if_neg hc] at h
        exact (fr_r S_x_Order_alike w).trans (f_x_Order_alike_31 N  _ _ _ h)
def S_x_Order_holder : List (Nat × Nat) := []
theorem f_x_Order_holder_16 (N : Nat) : ∀ (w : aw_W) (y : Int) (v : aw_W), x_Order_holder_16 N w = some (y, v) → fr_ S_x_Order_holder w v := by
  intro w y v h
  unfold x_Order_holder_16 at h
  cases h
  exact fr_r S_x_Order_holder w
theorem f_x_Order_holder_55 (N : Nat) : ∀ (s0 : Int) (w : aw_W) (y : Int) (v : aw_W), x_Order_holder_55 N s0 w = some (y, v) → fr_ S_x_Order_holder w v := by
  intro s0 w y v h
  unfold x_Order_holder_55 at h
  cases h
  exact fr_r S_x_Order_holder w
theorem f_x_Order_holder_49 (N : Nat) : ∀ (x3 : Int) (w : aw_W) (y : Int) (v : aw_W), x_Order_holder_49 N x3 w = some (y, v) → fr_ S_x_Order_holder w v := by
  intro x3 w y v h
  unfold x_Order_holder_49 at h
  obtain ⟨_, h⟩ := aw_cks h
  exact (fr_r S_x_Order_holder w).trans (f_x_Order_holder_55 N  _ _ _ _ h)
theorem f_x_Order_holder_45 (N : Nat) : ∀ (w : aw_W) (y : Int) (v : aw_W), x_Order_holder_45 N w = some (y, v) → fr_ S_x_Order_holder w v := by
  intro w y v h
  unfold x_Order_holder_45 at h
  exact (fr_r S_x_Order_holder w).trans (f_x_Order_holder_55 N  _ _ _ _ h)
theorem f_x_Order_holder (N : Nat) : ∀ (x1 x2 : Int) (w : aw_W) (y : Int) (v : aw_W), x_Order_holder N x1 x2 w = some (y, v) → fr_ S_x_Order_holder w v := by
  intro x1 x2 w y v h
  unfold x_Order_holder at h
  by_cases hc : (aw_w (x1 - 1)) < 0
  · rw [if_pos hc] at h
    exact (fr_r S_x_Order_holder w).trans (f_x_Order_holder_16 N  _ _ _ h)
  · rw [if_neg hc] at h
    by_cases hc : (aw_w (x1 - 1)) < (w 18 2)
    · rw [if_pos hc] at h
      by_cases hc : x2 = 1
      · rw [if_pos hc] at h
        obtain ⟨r1, w1, h1, h⟩ := aw_b2s h
        have c1 := (fr_r S_x_Order_holder w).trans (fr_m (by decide) (f_x_Order_alike N _ _ _ _ _ h1))
        by_cases hc : r1 = 0
        · rw [if_pos hc] at h
          obtain ⟨r2, w2, h2, h⟩ := aw_b2s h
          have c2 := (c1).trans (fr_m (by decide) (f_x_Order_alike N _ _ _ _ _ h2))
          by_cases hc : r2 = 0
          · rw [if_pos hc] at h
            exact (c2).trans (f_x_Order_holder_49 N  _ _ _ _ h)
          · rw [if_neg hc] at h
            exact (c2).trans (f_x_Order_holder_45 N  _ _ _ h)
        · rw [if_neg hc] at h
          exact (c1).trans (f_x_Order_holder_45 N  _ _ _ h)
      · rw [if_neg hc] at h
        exact (fr_r S_x_Order_holder w).trans (f_x_Order_holder_49 N  _ _ _ _ h)
    · rw [if_neg hc] at h
      exact (fr_r S_x_Order_holder w).trans (f_x_Order_holder_16 N  _ _ _ h)
def S_x_Order_firsts : List (Nat × Nat) := []
theorem f_x_Order_firsts_53 (N : Nat) : ∀ (x2 : Int) (w : aw_W) (y : Int) (v : aw_W), x_Order_firsts_53 N x2 w = some (y, v) → fr_ S_x_Order_firsts w v := by
  intro x2 w y v h
  unfold x_Order_firsts_53 at h
  cases h
  exact fr_r S_x_Order_firsts w
theorem f_x_Order_firsts_47 (N : Nat) (k4 : Int → Int → Int → aw_W → Option (Int × aw_W)) (hk4 : ∀ (x1 x2 x3 : Int) (w : aw_W) (y : Int) (v : aw_W), k4 x1 x2 x3 w = some (y, v) → fr_ S_x_Order_firsts w v) : ∀ (x1 x2 x3 : Int) (w : aw_W) (y : Int) (v : aw_W), x_Order_firsts_47 N k4 x1 x2 x3 w = some (y, v) → fr_ S_x_Order_firsts w v := by
  intro x1 x2 x3 w y v h
  unfold x_Order_firsts_47 at h
  exact (fr_r S_x_Order_firsts w).trans (hk4 _ _ _ _ _ _ h)
theorem f_x_Order_firsts_36 (N : Nat) (k4 : Int → Int → Int → aw_W → Option (Int × aw_W)) (hk4 : ∀ (x1 x2 x3 : Int) (w : aw_W) (y : Int) (v : aw_W), k4 x1 x2 x3 w = some (y, v) → fr_ S_x_Order_firsts w v) : ∀ (x1 x2 x3 : Int) (w : aw_W) (y : Int) (v : aw_W), x_Order_firsts_36 N k4 x1 x2 x3 w = some (y, v) → fr_ S_x_Order_firsts w v := by
  intro x1 x2 x3 w y v h
  unfold x_Order_firsts_36 at h
  obtain ⟨_, h⟩ := aw_cks h
  exact (fr_r S_x_Order_firsts w).trans (f_x_Order_firsts_47 N  _ hk4 _ _ _ _ _ _ h)
theorem f_x_Order_firsts_4 (N : Nat) : ∀ (n : Nat) (x1 x2 x3 : Int) (w : aw_W) (y : Int) (v : aw_W), x_Order_firsts_4 N n x1 x2 x3 w = some (y, v) → fr_ S_x_Order_firsts w v := by
  intro n
  induction n with
  | zero => intro x1 x2 x3 w y v h; rw [x_Order_firsts_4] at h; cases h
  | succ n ih =>
    intro x1 x2 x3 w y v h
    rw [x_Order_firsts_4] at h
    by_cases hc : (w 18 2) ≤ x3
    · rw [if_pos hc] at h
      exact (fr_r S_x_Order_firsts w).trans (f_x_Order_firsts_53 N  _ _ _ _ h)
    · rw [if_neg hc] at h
      by_cases hc : x3 = 0
      · rw [if_pos hc] at h
        exact (fr_r S_x_Order_firsts w).trans (f_x_Order_firsts_36 N  _ ih _ _ _ _ _ _ h)
      · rw [if_neg hc] at h
        by_cases hc : x1 = 1
        · rw [if_pos hc] at h
          obtain ⟨_, h⟩ := aw_cks h
          by_cases hc : (w 20 x3.toNat) = (w 20 0)
          · rw [if_pos hc] at h
            exact (fr_r S_x_Order_firsts w).trans (f_x_Order_firsts_36 N  _ ih _ _ _ _ _ _ h)
          · rw [if_neg hc] at h
            exact (fr_r S_x_Order_firsts w).trans (f_x_Order_firsts_47 N  _ ih _ _ _ _ _ _ h)
        · rw [if_neg hc] at h
          exact (fr_r S_x_Order_firsts w).trans (f_x_Order_firsts_47 N  _ ih _ _ _ _ _ _ h)
theorem f_x_Order_firsts (N : Nat) : ∀ (x1 : Int) (w : aw_W) (y : Int) (v : aw_W), x_Order_firsts N x1 w = some (y, v) → fr_ S_x_Order_firsts w v := by
  intro x1 w y v h
  unfold x_Order_firsts at h
  exact (fr_r S_x_Order_firsts w).trans (f_x_Order_firsts_4 N  N _ _ _ _ _ _ h)
def S_x_Order_scoreAt : List (Nat × Nat) := []
theorem f_x_Order_scoreAt_22 (N : Nat) : ∀ (s0 : Int) (w : aw_W) (y : Int) (v : aw_W), x_Order_scoreAt_22 N s0 w = some (y, v) → fr_ S_x_Order_scoreAt w v := by
  intro s0 w y v h
  unfold x_Order_scoreAt_22 at h
  cases h
  exact fr_r S_x_Order_scoreAt w
theorem f_x_Order_scoreAt_21 (N : Nat) : ∀ (x2 : Int) (w : aw_W) (y : Int) (v : aw_W), x_Order_scoreAt_21 N x2 w = some (y, v) → fr_ S_x_Order_scoreAt w v := by
  intro x2 w y v h
  unfold x_Order_scoreAt_21 at h
  exact (fr_r S_x_Order_scoreAt w).trans (f_x_Order_scoreAt_22 N  _ _ _ _ h)
theorem f_x_Order_scoreAt (N : Nat) : ∀ (x1 x2 : Int) (w : aw_W) (y : Int) (v : aw_W), x_Order_scoreAt N x1 x2 w = some (y, v) → fr_ S_x_Order_scoreAt w v := by
  intro x1 x2 w y v h
  unfold x_Order_scoreAt at h
  by_cases hc : x1 < 0
  · rw [if_pos hc] at h
    exact (fr_r S_x_Order_scoreAt w).trans (f_x_Order_scoreAt_21 N  _ _ _ _ h)
  · rw [if_neg hc] at h
    by_cases hc : (w 18 2) ≤ x1
    · rw [if_pos hc] at h
      exact (fr_r S_x_Order_scoreAt w).trans (f_x_Order_scoreAt_21 N  _ _ _ _ h)
    · rw [if_neg hc] at h
      obtain ⟨_, h⟩ := aw_cks h
      exact (fr_r S_x_Order_scoreAt w).trans (f_x_Order_scoreAt_22 N  _ _ _ _ h)
def S_x_Sale_price : List (Nat × Nat) := []
theorem f_x_Sale_price_62 (N : Nat) : ∀ (s0 : Int) (w : aw_W) (y : Int) (v : aw_W), x_Sale_price_62 N s0 w = some (y, v) → fr_ S_x_Sale_price w v := by
  intro s0 w y v h
  unfold x_Sale_price_62 at h
  cases h
  exact fr_r S_x_Sale_price w
theorem f_x_Sale_price (N : Nat) : ∀ (x1 : Int) (w : aw_W) (y : Int) (v : aw_W), x_Sale_price N x1 w = some (y, v) → fr_ S_x_Sale_price w v := by
  intro x1 w y v h
  unfold x_Sale_price at h
  obtain ⟨r1, w1, h1, h⟩ := aw_b2s h
  have c1 := (fr_r S_x_Sale_price w).trans (fr_m (by decide) (f_x_Order_scoreAt N _ _ _ _ _ h1))
  by_cases hc : (w1 5 2) = 0
  · rw [if_pos hc] at h
    cases h
    exact c1
  · rw [if_neg hc] at h
    by_cases hc : (w1 5 2) = 1
    · rw [if_pos hc] at h
      obtain ⟨r3, w3, h3, h⟩ := aw_b2s h
      have c3 := (c1).trans (fr_m (by decide) (f_x_Order_scoreAt N _ _ _ _ _ h3))
      exact (c3).trans (f_x_Sale_price_62 N  _ _ _ _ h)
    · rw [if_neg hc] at h
      obtain ⟨r2, w2, h2, h⟩ := aw_b2s h
      have c2 := (c1).trans (fr_m (by decide) (f_x_Order_scoreAt N _ _ _ _ _ h2))
      exact (c2).trans (f_x_Sale_price_62 N  _ _ _ _ h)
def S_x_Order_whoAt : List (Nat × Nat) := []
theorem f_x_Order_whoAt_22 (N : Nat) : ∀ (s0 : Int) (w : aw_W) (y : Int) (v : aw_W), x_Order_whoAt_22 N s0 w = some (y, v) → fr_ S_x_Order_whoAt w v := by
  intro s0 w y v h
  unfold x_Order_whoAt_22 at h
  cases h
  exact fr_r S_x_Order_whoAt w
theorem f_x_Order_whoAt_21 (N : Nat) : ∀ (w : aw_W) (y : Int) (v : aw_W), x_Order_whoAt_21 N w = some (y, v) → fr_ S_x_Order_whoAt w v := by
  intro w y v h
  unfold x_Order_whoAt_21 at h
  exact (fr_r S_x_Order_whoAt w).trans (f_x_Order_whoAt_22 N  _ _ _ _ h)
theorem f_x_Order_whoAt (N : Nat) : ∀ (x1 : Int) (w : aw_W) (y : Int) (v : aw_W), x_Order_whoAt N x1 w = some (y, v) → fr_ S_x_Order_whoAt w v := by
  intro x1 w y v h
  unfold x_Order_whoAt at h
  by_cases hc : x1 < 0
  · rw [if_pos hc] at h
    exact (fr_r S_x_Order_whoAt w).trans (f_x_Order_whoAt_21 N  _ _ _ h)
  · rw [if_neg hc] at h
    by_cases hc : (w 18 2) ≤ x1
    · rw [if_pos hc] at h
      exact (fr_r S_x_Order_whoAt w).trans (f_x_Order_whoAt_21 N  _ _ _ h)
    · rw [if_neg hc] at h
      obtain ⟨_, h⟩ := aw_cks h
      exact (fr_r S_x_Order_whoAt w).trans (f_x_Order_whoAt_22 N  _ _ _ _ h)
def S_x_Order_enter : List (Nat × Nat) := [(18, 2), (19, 1000000), (20, 1000000)]
theorem f_x_Order_enter_68 (N : Nat) : ∀ (x1 x2 x3 : Int) (w v : aw_W), x_Order_enter_68 N x1 x2 x3 w = some v → fr_ S_x_Order_enter w v := by
  intro x1 x2 x3 w v h
  unfold x_Order_enter_68 at h
  obtain ⟨_, h⟩ := aw_cks h
  obtain ⟨_, h⟩ := aw_cks h
  cases h
  exact (((fr_r S_x_Order_enter w).upA (by rfl)).upA (by rfl)).up (by rfl)
theorem f_x_Order_enter_18 (N : Nat) : ∀ (n : Nat) (x1 x2 x3 : Int) (w v : aw_W), x_Order_enter_18 N n x1 x2 x3 w = some v → fr_ S_x_Order_enter w v := by
  intro n
  induction n with
  | zero => intro x1 x2 x3 w v h; rw [x_Order_enter_18] at h; cases h
  | succ n ih =>
    intro x1 x2 x3 w v h
    rw [x_Order_enter_18] at h
    by_cases hc : x3 ≤ 0
    · rw [if_pos hc] at h
      exact (fr_r S_x_Order_enter w).trans (f_x_Order_enter_68 N  _ _ _ _ _ h)
    · rw [if_neg hc] at h
      obtain ⟨_, h⟩ := aw_cks h
      by_cases hc : x2 ≤ (w 20 ((aw_w (x3 - 1)).toNat))
      · rw [if_pos hc] at h
        exact (fr_r S_x_Order_enter w).trans (f_x_Order_enter_68 N  _ _ _ _ _ h)
      · rw [if_neg hc] at h
        obtain ⟨_, h⟩ := aw_cks h
        obtain ⟨_, h⟩ := aw_cks h
        obtain ⟨_, h⟩ := aw_cks h
        obtain ⟨_, h⟩ := aw_cks h
        exact (((fr_r S_x_Order_enter w).upA (by rfl)).upA (by rfl)).trans (ih _ _ _ _ _ h)
theorem f_x_Order_enter (N : Nat) : ∀ (x1 x2 : Int) (w v : aw_W), x_Order_enter N x1 x2 w = some v → fr_ S_x_Order_enter w v := by
  intro x1 x2 w v h
  unfold x_Order_enter at h
  by_cases hc : (w 18 2) < 6
  · rw [if_pos hc] at h
    exact (fr_r S_x_Order_enter w).trans (f_x_Order_enter_18 N  N _ _ _ _ _ h)
  · rw [if_neg hc] at h
    cases h
    exact fr_r S_x_Order_enter w
def S_x_Sale_settle : List (Nat × Nat) := [(17, 3), (17, 4), (17, 5), (17, 6), (18, 2), (19, 1000000), (20, 1000000)]
theorem f_x_Sale_settle_138 (N : Nat) : ∀ (s0 : Int) (w v : aw_W), x_Sale_settle_138 N s0 w = some v → fr_ S_x_Sale_settle w v := by
  intro s0 w v h
  unfold x_Sale_settle_138 at h
  cases h
  exact (fr_r S_x_Sale_settle w).up (by rfl)
theorem f_x_Sale_settle_115 (N : Nat) : ∀ (x1 s0 : Int) (w v : aw_W), x_Sale_settle_115 N x1 s0 w = some v → fr_ S_x_Sale_settle w v := by
  intro x1 s0 w v h
  unfold x_Sale_settle_115 at h
  by_cases hc : (w 17 3) = (-1)
  · rw [if_pos hc] at h
    exact ((fr_r S_x_Sale_settle w).up (by rfl)).trans (f_x_Sale_settle_138 N  _ _ _ h)
  · rw [if_neg hc] at h
    obtain ⟨r1, w1, h1, h⟩ := aw_b2s h
    have c1 := ((fr_r S_x_Sale_settle w).up (by rfl)).trans (fr_m (by decide) (f_x_Sale_price N _ _ _ _ h1))
    exact (c1).trans (f_x_Sale_settle_138 N  _ _ _ h)
theorem f_x_Sale_settle_40 (N : Nat) : ∀ (w v : aw_W), x_Sale_settle_40 N w = some v → fr_ S_x_Sale_settle w v := by
  intro w v h
  unfold x_Sale_settle_40 at h
  obtain ⟨r1, w1, h1, h⟩ := aw_b2s h
  have c1 := (fr_r S_x_Sale_settle w).trans (fr_m (by decide) (f_x_Order_holder N _ _ _ _ _ h1))
  obtain ⟨r2, w2, h2, h⟩ := aw_b2s h
  have c2 := ((c1).up (by rfl)).trans (fr_m (by decide) (f_x_Order_firsts N _ _ _ _ h2))
  obtain ⟨r3, w3, h3, h⟩ := aw_b2s h
  have c3 := ((c2).up (by rfl)).trans (fr_m (by decide) (f_j_Int_bitCount N _ _ _ _ h3))
  by_cases hc : r3 = 1
  · rw [if_pos hc] at h
    obtain ⟨r4, w4, h4, h⟩ := aw_b2s h
    have c4 := (c3).trans (fr_m (by decide) (f_x_Order_whoAt N _ _ _ _ h4))
    exact (c4).trans (f_x_Sale_settle_115 N  _ _ _ _ h)
  · rw [if_neg hc] at h
    exact (c3).trans (f_x_Sale_settle_115 N  _ _ _ _ h)
theorem f_x_Sale_settle_9 (N : Nat) : ∀ (n : Nat) (x1 : Int) (w v : aw_W), x_Sale_settle_9 N n x1 w = some v → fr_ S_x_Sale_settle w v := by
  intro n
  induction n with
  | zero => intro x1 w v h; rw [x_Sale_settle_9] at h; cases h
  | succ n ih =>
    intro x1 w v h
    rw [x_Sale_settle_9] at h
    by_cases hc : (w 3 4) ≤ x1
    · rw [if_pos hc] at h
      exact (fr_r S_x_Sale_settle w).trans (f_x_Sale_settle_40 N  _ _ h)
    · rw [if_neg hc] at h
      obtain ⟨_, h⟩ := aw_cks h
      obtain ⟨w1, h1, h⟩ := aw_b1s h
      have c1 := (fr_r S_x_Sale_settle w).trans (fr_m (by decide) (f_x_Order_enter N _ _ _ _ h1))
      exact (c1).trans (ih _ _ _ h)
theorem f_x_Sale_settle (N : Nat) : ∀ (w v : aw_W), x_Sale_settle N w = some v → fr_ S_x_Sale_settle w v := by
  intro w v h
  unfold x_Sale_settle at h
  obtain ⟨w1, h1, h⟩ := aw_b1s h
  have c1 := (fr_r S_x_Sale_settle w).trans (fr_m (by decide) (f_x_Order_clear N _ _ h1))
  exact (c1).trans (f_x_Sale_settle_9 N  N _ _ _ h)
def S_x_Sale_takings : List (Nat × Nat) := []
theorem f_x_Sale_takings (N : Nat) : ∀ (w : aw_W) (y : Int) (v : aw_W), x_Sale_takings N w = some (y, v) → fr_ S_x_Sale_takings w v := by
  intro w y v h
  unfold x_Sale_takings at h
  obtain ⟨r1, w1, h1, h⟩ := aw_b2s h
  have c1 := (fr_r S_x_Sale_takings w).trans (fr_m (by decide) (f_j_Int_bitCount N _ _ _ _ h1))
  cases h
  exact c1
def S_x_bids : List (Nat × Nat) := [(17, 3), (17, 4), (17, 5), (17, 6), (18, 2), (19, 1000000), (20, 1000000), (21, 1000000)]
theorem f_x_bids_20 (N : Nat) : ∀ (w : aw_W) (y : Int) (v : aw_W), x_bids_20 N w = some (y, v) → fr_ S_x_bids w v := by
  intro w y v h
  unfold x_bids_20 at h
  cases h
  exact fr_r S_x_bids w
theorem f_x_bids_77 (N : Nat) : ∀ (s0 : Int) (w : aw_W) (y : Int) (v : aw_W), x_bids_77 N s0 w = some (y, v) → fr_ S_x_bids w v := by
  intro s0 w y v h
  unfold x_bids_77 at h
  cases h
  exact fr_r S_x_bids w
theorem f_x_bids (N : Nat) : ∀ (x1 x2 : Int) (w : aw_W) (y : Int) (v : aw_W), x_bids N x1 x2 w = some (y, v) → fr_ S_x_bids w v := by
  intro x1 x2 w y v h
  unfold x_bids at h
  by_cases hc : x2 < 0
  · rw [if_pos hc] at h
    exact (fr_r S_x_bids w).trans (f_x_bids_20 N  _ _ _ h)
  · rw [if_neg hc] at h
    by_cases hc : 3 < x2
    · rw [if_pos hc] at h
      exact (fr_r S_x_bids w).trans (f_x_bids_20 N  _ _ _ h)
    · rw [if_neg hc] at h
      obtain ⟨r1, w1, h1, h⟩ := aw_b2s h
      have c1 := (fr_r S_x_bids w).trans (fr_m (by decide) (f_x_Sale_take N _ _ _ _ h1))
      by_cases hc : r1 = 0
      · rw [if_pos hc] at h
        exact (c1).trans (f_x_bids_20 N  _ _ _ h)
      · rw [if_neg hc] at h
        obtain ⟨w2, h2, h⟩ := aw_b1s h
        have c2 := (c1).trans (fr_m (by decide) (f_x_Sale_settle N _ _ h2))
        by_cases hc : x2 = 0
        · rw [if_pos hc] at h
          cases h
          exact c2
        · rw [if_neg hc] at h
          by_cases hc : x2 = 1
          · rw [if_pos hc] at h
            cases h
            exact c2
          · rw [if_neg hc] at h
            by_cases hc : x2 = 2
            · rw [if_pos hc] at h
              exact (c2).trans (f_x_bids_77 N  _ _ _ _ h)
            · rw [if_neg hc] at h
              obtain ⟨r3, w3, h3, h⟩ := aw_b2s h
              have c3 := (c2).trans (fr_m (by decide) (f_x_Sale_takings N _ _ _ h3))
              exact (c3).trans (f_x_bids_77 N  _ _ _ _ h)
def S_x_isSmall : List (Nat × Nat) := []
theorem f_x_isSmall_26 (N : Nat) : ∀ (s0 : Int) (w : aw_W) (y : Int) (v : aw_W), x_isSmall_26 N s0 w = some (y, v) → fr_ S_x_isSmall w v := by
  intro s0 w y v h
  unfold x_isSmall_26 at h
  obtain ⟨_, h⟩ := aw_cks h
  cases h
  exact fr_r S_x_isSmall w
theorem f_x_isSmall_25 (N : Nat) : ∀ (w : aw_W) (y : Int) (v : aw_W), x_isSmall_25 N w = some (y, v) → fr_ S_x_isSmall w v := by
  intro w y v h
  unfold x_isSmall_25 at h
  exact (fr_r S_x_isSmall w).trans (f_x_isSmall_26 N  _ _ _ _ h)
theorem f_x_isSmall (N : Nat) : ∀ (w : aw_W) (y : Int) (v : aw_W), x_isSmall N w = some (y, v) → fr_ S_x_isSmall w v := by
  intro w y v h
  unfold x_isSmall at h
  by_cases hc : (w 3 4) ≤ 0
  · rw [if_pos hc] at h
    exact (fr_r S_x_isSmall w).trans (f_x_isSmall_25 N  _ _ _ h)
  · rw [if_neg hc] at h
    by_cases hc : 4 < (w 3 4)
    · rw [if_pos hc] at h
      exact (fr_r S_x_isSmall w).trans (f_x_isSmall_25 N  _ _ _ h)
    · rw [if_neg hc] at h
      exact (fr_r S_x_isSmall w).trans (f_x_isSmall_26 N  _ _ _ _ h)
def S_x_Land_holds : List (Nat × Nat) := []
theorem f_x_Land_holds_17 (N : Nat) : ∀ (s0 : Int) (w : aw_W) (y : Int) (v : aw_W), x_Land_holds_17 N s0 w = some (y, v) → fr_ S_x_Land_holds w v := by
  intro s0 w y v h
  unfold x_Land_holds_17 at h
  obtain ⟨_, h⟩ := aw_cks h
  cases h
  exact fr_r S_x_Land_holds w
theorem f_x_Land_holds_16 (N : Nat) : ∀ (w : aw_W) (y : Int) (v : aw_W), x_Land_holds_16 N w = some (y, v) → fr_ S_x_Land_holds w v := by
  intro w y v h
  unfold x_Land_holds_16 at h
  exact (fr_r S_x_Land_holds w).trans (f_x_Land_holds_17 N  _ _ _ _ h)
theorem f_x_Land_holds (N : Nat) : ∀ (x1 : Int) (w : aw_W) (y : Int) (v : aw_W), x_Land_holds N x1 w = some (y, v) → fr_ S_x_Land_holds w v := by
  intro x1 w y v h
  unfold x_Land_holds at h
  by_cases hc : x1 < 0
  · rw [if_pos hc] at h
    exact (fr_r S_x_Land_holds w).trans (f_x_Land_holds_16 N  _ _ _ h)
  · rw [if_neg hc] at h
    by_cases hc : (w 3 4) ≤ x1
    · rw [if_pos hc] at h
      exact (fr_r S_x_Land_holds w).trans (f_x_Land_holds_16 N  _ _ _ h)
    · rw [if_neg hc] at h
      exact (fr_r S_x_Land_holds w).trans (f_x_Land_holds_17 N  _ _ _ _ h)
def S_x_Land_all : List (Nat × Nat) := []
theorem f_x_Land_all (N : Nat) : ∀ (w : aw_W) (y : Int) (v : aw_W), x_Land_all N w = some (y, v) → fr_ S_x_Land_all w v := by
  intro w y v h
  unfold x_Land_all at h
  cases h
  exact fr_r S_x_Land_all w
def S_x_Sale_lowest : List (Nat × Nat) := [(21, 1000000)]
theorem f_x_Sale_lowest_34 (N : Nat) : ∀ (w v : aw_W), x_Sale_lowest_34 N w = some v → fr_ S_x_Sale_lowest w v := by
  intro w v h
  unfold x_Sale_lowest_34 at h
  cases h
  exact fr_r S_x_Sale_lowest w
theorem f_x_Sale_lowest_28 (N : Nat) (k2 : Int → Int → aw_W → Option (aw_W)) (hk2 : ∀ (x1 x2 : Int) (w v : aw_W), k2 x1 x2 w = some v → fr_ S_x_Sale_lowest w v) : ∀ (x1 x2 : Int) (w v : aw_W), x_Sale_lowest_28 N k2 x1 x2 w = some v → fr_ S_x_Sale_lowest w v := by
  intro x1 x2 w v h
  unfold x_Sale_lowest_28 at h
  exact (fr_r S_x_Sale_lowest w).trans (hk2 _ _ _ _ h)
theorem f_x_Sale_lowest_2 (N : Nat) : ∀ (n : Nat) (x1 x2 : Int) (w v : aw_W), x_Sale_lowest_2 N n x1 x2 w = some v → fr_ S_x_Sale_lowest w v := by
  intro n
  induction n with
  | zero => intro x1 x2 w v h; rw [x_Sale_lowest_2] at h; cases h
  | succ n ih =>
    intro x1 x2 w v h
    rw [x_Sale_lowest_2] at h
    by_cases hc : (w 3 4) ≤ x2
    · rw [if_pos hc] at h
      exact (fr_r S_x_Sale_lowest w).trans (f_x_Sale_lowest_34 N  _ _ h)
    · rw [if_neg hc] at h
      by_cases hc : (aw_and (aw_shr x1 x2) 1) = 0
      · rw [if_pos hc] at h
        exact (fr_r S_x_Sale_lowest w).trans (f_x_Sale_lowest_28 N  _ ih _ _ _ _ h)
      · rw [if_neg hc] at h
        obtain ⟨_, h⟩ := aw_cks h
        exact ((fr_r S_x_Sale_lowest w).upA (by rfl)).trans (f_x_Sale_lowest_28 N  _ ih _ _ _ _ h)
theorem f_x_Sale_lowest (N : Nat) : ∀ (x1 : Int) (w v : aw_W), x_Sale_lowest N x1 w = some v → fr_ S_x_Sale_lowest w v := by
  intro x1 w v h
  unfold x_Sale_lowest at h
  exact (fr_r S_x_Sale_lowest w).trans (f_x_Sale_lowest_2 N  N _ _ _ _ h)
def S_x_Sale_rowsOf : List (Nat × Nat) := []
theorem f_x_Sale_rowsOf_31 (N : Nat) : ∀ (x2 : Int) (w : aw_W) (y : Int) (v : aw_W), x_Sale_rowsOf_31 N x2 w = some (y, v) → fr_ S_x_Sale_rowsOf w v := by
  intro x2 w y v h
  unfold x_Sale_rowsOf_31 at h
  cases h
  exact fr_r S_x_Sale_rowsOf w
theorem f_x_Sale_rowsOf_7 (N : Nat) : ∀ (n : Nat) (x2 x3 : Int) (w : aw_W) (y : Int) (v : aw_W), x_Sale_rowsOf_7 N n x2 x3 w = some (y, v) → fr_ S_x_Sale_rowsOf w v := by
  intro n
  induction n with
  | zero => intro x2 x3 w y v h; rw [x_Sale_rowsOf_7] at h; cases h
  | succ n ih =>
    intro x2 x3 w y v h
    rw [x_Sale_rowsOf_7] at h
    by_cases hc : x3 ≤ 0
    · rw [if_pos hc] at h
      exact (fr_r S_x_Sale_rowsOf w).trans (f_x_Sale_rowsOf_31 N  _ _ _ _ h)
    · rw [if_neg hc] at h
      exact (fr_r S_x_Sale_rowsOf w).trans (ih _ _ _ _ _ h)
theorem f_x_Sale_rowsOf (N : Nat) : ∀ (x1 : Int) (w : aw_W) (y : Int) (v : aw_W), x_Sale_rowsOf N x1 w = some (y, v) → fr_ S_x_Sale_rowsOf w v := by
  intro x1 w y v h
  unfold x_Sale_rowsOf at h
  obtain ⟨r1, w1, h1, h⟩ := aw_b2s h
  have c1 := (fr_r S_x_Sale_rowsOf w).trans (fr_m (by decide) (f_j_Int_bitCount N _ _ _ _ h1))
  exact (c1).trans (f_x_Sale_rowsOf_7 N  N _ _ _ _ _ h)
def S_x_Land_item : List (Nat × Nat) := []
theorem f_x_Land_item_31 (N : Nat) : ∀ (s0 : Int) (w : aw_W) (y : Int) (v : aw_W), x_Land_item_31 N s0 w = some (y, v) → fr_ S_x_Land_item w v := by
  intro s0 w y v h
  unfold x_Land_item_31 at h
  cases h
  exact fr_r S_x_Land_item w
theorem f_x_Land_item_30 (N : Nat) : ∀ (w : aw_W) (y : Int) (v : aw_W), x_Land_item_30 N w = some (y, v) → fr_ S_x_Land_item w v := by
  intro w y v h
  unfold x_Land_item_30 at h
  exact (fr_r S_x_Land_item w).trans (f_x_Land_item_31 N  _ _ _ _ h)
theorem f_x_Land_item (N : Nat) : ∀ (x1 x2 : Int) (w : aw_W) (y : Int) (v : aw_W), x_Land_item N x1 x2 w = some (y, v) → fr_ S_x_Land_item w v := by
  intro x1 x2 w y v h
  unfold x_Land_item at h
  obtain ⟨r1, w1, h1, h⟩ := aw_b2s h
  have c1 := (fr_r S_x_Land_item w).trans (fr_m (by decide) (f_x_Land_holds N _ _ _ _ h1))
  by_cases hc : r1 = 0
  · rw [if_pos hc] at h
    exact (c1).trans (f_x_Land_item_30 N  _ _ _ h)
  · rw [if_neg hc] at h
    by_cases hc : x2 < 0
    · rw [if_pos hc] at h
      exact (c1).trans (f_x_Land_item_30 N  _ _ _ h)
    · rw [if_neg hc] at h
      by_cases hc : 4 ≤ x2
      · rw [if_pos hc] at h
        exact (c1).trans (f_x_Land_item_30 N  _ _ _ h)
      · rw [if_neg hc] at h
        obtain ⟨_, h⟩ := aw_cks h
        exact (c1).trans (f_x_Land_item_31 N  _ _ _ _ h)
def S_x_Sale_gainOf : List (Nat × Nat) := []
theorem f_x_Sale_gainOf_53 (N : Nat) : ∀ (s0 : Int) (w : aw_W) (y : Int) (v : aw_W), x_Sale_gainOf_53 N s0 w = some (y, v) → fr_ S_x_Sale_gainOf w v := by
  intro s0 w y v h
  unfold x_Sale_gainOf_53 at h
  cases h
  exact fr_r S_x_Sale_gainOf w
theorem f_x_Sale_gainOf_26 (N : Nat) : ∀ (x1 s0 : Int) (w : aw_W) (y : Int) (v : aw_W), x_Sale_gainOf_26 N x1 s0 w = some (y, v) → fr_ S_x_Sale_gainOf w v := by
  intro x1 s0 w y v h
  unfold x_Sale_gainOf_26 at h
  by_cases hc : (aw_and (aw_shr (w 17 5) x1) 1) = 0
  · rw [if_pos hc] at h
    exact (fr_r S_x_Sale_gainOf w).trans (f_x_Sale_gainOf_53 N  _ _ _ _ h)
  · rw [if_neg hc] at h
    exact (fr_r S_x_Sale_gainOf w).trans (f_x_Sale_gainOf_53 N  _ _ _ _ h)
theorem f_x_Sale_gainOf (N : Nat) : ∀ (x1 : Int) (w : aw_W) (y : Int) (v : aw_W), x_Sale_gainOf N x1 w = some (y, v) → fr_ S_x_Sale_gainOf w v := by
  intro x1 w y v h
  unfold x_Sale_gainOf at h
  by_cases hc : (w 17 3) = x1
  · rw [if_pos hc] at h
    obtain ⟨r1, w1, h1, h⟩ := aw_b2s h
    have c1 := (fr_r S_x_Sale_gainOf w).trans (fr_m (by decide) (f_x_Land_item N _ _ _ _ _ h1))
    exact (c1).trans (f_x_Sale_gainOf_26 N  _ _ _ _ _ h)
  · rw [if_neg hc] at h
    exact (fr_r S_x_Sale_gainOf w).trans (f_x_Sale_gainOf_26 N  _ _ _ _ _ h)
def S_x_Sale_next : List (Nat × Nat) := [(21, 1000000)]
theorem f_x_Sale_next_67 (N : Nat) : ∀ (w v : aw_W), x_Sale_next_67 N w = some v → fr_ S_x_Sale_next w v := by
  intro w v h
  unfold x_Sale_next_67 at h
  cases h
  exact fr_r S_x_Sale_next w
theorem f_x_Sale_next_61 (N : Nat) (k10 : Int → Int → aw_W → Option (aw_W)) (hk10 : ∀ (x1 x2 : Int) (w v : aw_W), k10 x1 x2 w = some v → fr_ S_x_Sale_next w v) : ∀ (x1 x2 : Int) (w v : aw_W), x_Sale_next_61 N k10 x1 x2 w = some v → fr_ S_x_Sale_next w v := by
  intro x1 x2 w v h
  unfold x_Sale_next_61 at h
  exact (fr_r S_x_Sale_next w).trans (hk10 _ _ _ _ h)
theorem f_x_Sale_next_43 (N : Nat) : ∀ (x2 : Int) (w v : aw_W), x_Sale_next_43 N x2 w = some v → fr_ S_x_Sale_next w v := by
  intro x2 w v h
  unfold x_Sale_next_43 at h
  obtain ⟨_, h⟩ := aw_cks h
  obtain ⟨_, h⟩ := aw_cks h
  cases h
  exact (fr_r S_x_Sale_next w).upA (by rfl)
theorem f_x_Sale_next_10 (N : Nat) : ∀ (n : Nat) (x1 x2 : Int) (w v : aw_W), x_Sale_next_10 N n x1 x2 w = some v → fr_ S_x_Sale_next w v := by
  intro n
  induction n with
  | zero => intro x1 x2 w v h; rw [x_Sale_next_10] at h; cases h
  | succ n ih =>
    intro x1 x2 w v h
    rw [x_Sale_next_10] at h
    by_cases hc : x2 < 0
    · rw [if_pos hc] at h
      exact (fr_r S_x_Sale_next w).trans (f_x_Sale_next_67 N  _ _ h)
    · rw [if_neg hc] at h
      by_cases hc : (aw_and (aw_shr x1 x2) 1) = 0
      · rw [if_pos hc] at h
        exact (fr_r S_x_Sale_next w).trans (f_x_Sale_next_61 N  _ ih _ _ _ _ h)
      · rw [if_neg hc] at h
        obtain ⟨_, h⟩ := aw_cks h
        by_cases hc : (w 5 4) ≤ (w 21 x2.toNat)
        · rw [if_pos hc] at h
          obtain ⟨_, h⟩ := aw_cks h
          exact ((fr_r S_x_Sale_next w).upA (by rfl)).trans (f_x_Sale_next_61 N  _ ih _ _ _ _ h)
        · rw [if_neg hc] at h
          exact (fr_r S_x_Sale_next w).trans (f_x_Sale_next_43 N  _ _ _ h)
theorem f_x_Sale_next (N : Nat) : ∀ (x1 : Int) (w v : aw_W), x_Sale_next N x1 w = some v → fr_ S_x_Sale_next w v := by
  intro x1 w v h
  unfold x_Sale_next at h
  exact (fr_r S_x_Sale_next w).trans (f_x_Sale_next_10 N  N _ _ _ _ h)
def S_x_Replies_against : List (Nat × Nat) := [(17, 3), (17, 4), (17, 5), (17, 6), (18, 2), (19, 1000000), (20, 1000000), (21, 1000000), (22, 7), (22, 8)]
theorem f_x_Replies_against_125 (N : Nat) : ∀ (w v : aw_W), x_Replies_against_125 N w = some v → fr_ S_x_Replies_against w v := by
  intro w v h
  unfold x_Replies_against_125 at h
  cases h
  exact fr_r S_x_Replies_against w
theorem f_x_Replies_against_90 (N : Nat) (k55 : Int → Int → Int → Int → aw_W → Option (aw_W)) (hk55 : ∀ (x1 x3 x4 x5 : Int) (w v : aw_W), k55 x1 x3 x4 x5 w = some v → fr_ S_x_Replies_against w v) : ∀ (x1 x3 x4 x5 s0 s1 : Int) (w v : aw_W), x_Replies_against_90 N k55 x1 x3 x4 x5 s0 s1 w = some v → fr_ S_x_Replies_against w v := by
  intro x1 x3 x4 x5 s0 s1 w v h
  unfold x_Replies_against_90 at h
  obtain ⟨r1, w1, h1, h⟩ := aw_b2s h
  have c1 := ((fr_r S_x_Replies_against w).up (by rfl)).trans (fr_m (by decide) (f_x_Sale_gainOf N _ _ _ _ h1))
  obtain ⟨w2, h2, h⟩ := aw_b1s h
  have c2 := ((c1).up (by rfl)).trans (fr_m (by decide) (f_x_Sale_next N _ _ _ h2))
  exact (c2).trans (hk55 _ _ _ _ _ _ h)
theorem f_x_Replies_against_55 (N : Nat) : ∀ (n : Nat) (x1 x3 x4 x5 : Int) (w v : aw_W), x_Replies_against_55 N n x1 x3 x4 x5 w = some v → fr_ S_x_Replies_against w v := by
  intro n
  induction n with
  | zero => intro x1 x3 x4 x5 w v h; rw [x_Replies_against_55] at h; cases h
  | succ n ih =>
    intro x1 x3 x4 x5 w v h
    rw [x_Replies_against_55] at h
    by_cases hc : x4 ≤ x5
    · rw [if_pos hc] at h
      exact (fr_r S_x_Replies_against w).trans (f_x_Replies_against_125 N  _ _ h)
    · rw [if_neg hc] at h
      obtain ⟨w1, h1, h⟩ := aw_b1s h
      have c1 := (fr_r S_x_Replies_against w).trans (fr_m (by decide) (f_x_Sale_settle N _ _ h1))
      by_cases hc : (w1 17 3) = x1
      · rw [if_pos hc] at h
        exact (c1).trans (f_x_Replies_against_90 N  _ ih _ _ _ _ _ _ _ _ h)
      · rw [if_neg hc] at h
        exact (c1).trans (f_x_Replies_against_90 N  _ ih _ _ _ _ _ _ _ _ h)
theorem f_x_Replies_against (N : Nat) : ∀ (x1 x2 : Int) (w v : aw_W), x_Replies_against N x1 x2 w = some v → fr_ S_x_Replies_against w v := by
  intro x1 x2 w v h
  unfold x_Replies_against at h
  obtain ⟨r1, w1, h1, h⟩ := aw_b2s h
  have c1 := (((fr_r S_x_Replies_against w).up (by rfl)).up (by rfl)).trans (fr_m (by decide) (f_x_Land_all N _ _ _ h1))
  obtain ⟨w2, h2, h⟩ := aw_b1s h
  have c2 := (c1).trans (fr_m (by decide) (f_x_Sale_lowest N _ _ _ h2))
  obtain ⟨_, h⟩ := aw_cks h
  obtain ⟨r3, w3, h3, h⟩ := aw_b2s h
  have c3 := ((c2).upA (by rfl)).trans (fr_m (by decide) (f_x_Sale_rowsOf N _ _ _ _ h3))
  exact (c3).trans (f_x_Replies_against_55 N  N _ _ _ _ _ _ h)
def S_x_Replies_boldest : List (Nat × Nat) := [(17, 3), (17, 4), (17, 5), (17, 6), (18, 2), (19, 1000000), (20, 1000000), (21, 1000000), (22, 7), (22, 8)]
theorem f_x_Replies_boldest_55 (N : Nat) : ∀ (x2 : Int) (w : aw_W) (y : Int) (v : aw_W), x_Replies_boldest_55 N x2 w = some (y, v) → fr_ S_x_Replies_boldest w v := by
  intro x2 w y v h
  unfold x_Replies_boldest_55 at h
  cases h
  exact fr_r S_x_Replies_boldest w
theorem f_x_Replies_boldest_49 (N : Nat) (k7 : Int → Int → Int → Int → aw_W → Option (Int × aw_W)) (hk7 : ∀ (x1 x2 x3 x4 : Int) (w : aw_W) (y : Int) (v : aw_W), k7 x1 x2 x3 x4 w = some (y, v) → fr_ S_x_Replies_boldest w v) : ∀ (x1 x2 x3 x4 : Int) (w : aw_W) (y : Int) (v : aw_W), x_Replies_boldest_49 N k7 x1 x2 x3 x4 w = some (y, v) → fr_ S_x_Replies_boldest w v := by
  intro x1 x2 x3 x4 w y v h
  unfold x_Replies_boldest_49 at h
  exact (fr_r S_x_Replies_boldest w).trans (hk7 _ _ _ _ _ _ _ h)
theorem f_x_Replies_boldest_41 (N : Nat) (k7 : Int → Int → Int → Int → aw_W → Option (Int × aw_W)) (hk7 : ∀ (x1 x2 x3 x4 : Int) (w : aw_W) (y : Int) (v : aw_W), k7 x1 x2 x3 x4 w = some (y, v) → fr_ S_x_Replies_boldest w v) : ∀ (x1 x4 : Int) (w : aw_W) (y : Int) (v : aw_W), x_Replies_boldest_41 N k7 x1 x4 w = some (y, v) → fr_ S_x_Replies_boldest w v := by
  intro x1 x4 w y v h
  unfold x_Replies_boldest_41 at h
  exact (fr_r S_x_Replies_boldest w).trans (f_x_Replies_boldest_49 N  _ hk7 _ _ _ _ _ _ _ h)
theorem f_x_Replies_boldest_7 (N : Nat) : ∀ (n : Nat) (x1 x2 x3 x4 : Int) (w : aw_W) (y : Int) (v : aw_W), x_Replies_boldest_7 N n x1 x2 x3 x4 w = some (y, v) → fr_ S_x_Replies_boldest w v := by
  intro n
  induction n with
  | zero => intro x1 x2 x3 x4 w y v h; rw [x_Replies_boldest_7] at h; cases h
  | succ n ih =>
    intro x1 x2 x3 x4 w y v h
    rw [x_Replies_boldest_7] at h
    by_cases hc : (w 5 4) < x4
    · rw [if_pos hc] at h
      exact (fr_r S_x_Replies_boldest w).trans (f_x_Replies_boldest_55 N  _ _ _ _ h)
    · rw [if_neg hc] at h
      obtain ⟨w1, h1, h⟩ := aw_b1s h
      have c1 := (fr_r S_x_Replies_boldest w).trans (fr_m (by decide) (f_x_Replies_against N _ _ _ _ h1))
      by_cases hc : x4 = 0
      · rw [if_pos hc] at h
        exact (c1).trans (f_x_Replies_boldest_41 N  _ ih _ _ _ _ _ h)
      · rw [if_neg hc] at h
        by_cases hc : (w1 22 8) ≤ x3
        · rw [if_pos hc] at h
          exact (c1).trans (f_x_Replies_boldest_49 N  _ ih _ _ _ _ _ _ _ h)
        · rw [if_neg hc] at h
          exact (c1).trans (f_x_Replies_boldest_41 N  _ ih _ _ _ _ _ h)
theorem f_x_Replies_boldest (N : Nat) : ∀ (x1 : Int) (w : aw_W) (y : Int) (v : aw_W), x_Replies_boldest N x1 w = some (y, v) → fr_ S_x_Replies_boldest w v := by
  intro x1 w y v h
  unfold x_Replies_boldest at h
  exact (fr_r S_x_Replies_boldest w).trans (f_x_Replies_boldest_7 N  N _ _ _ _ _ _ _ h)
def S_x_bold : List (Nat × Nat) := [(17, 3), (17, 4), (17, 5), (17, 6), (18, 2), (19, 1000000), (20, 1000000), (21, 1000000), (22, 7), (22, 8)]
theorem f_x_bold_30 (N : Nat) : ∀ (s0 : Int) (w : aw_W) (y : Int) (v : aw_W), x_bold_30 N s0 w = some (y, v) → fr_ S_x_bold w v := by
  intro s0 w y v h
  unfold x_bold_30 at h
  cases h
  exact fr_r S_x_bold w
theorem f_x_bold_29 (N : Nat) : ∀ (w : aw_W) (y : Int) (v : aw_W), x_bold_29 N w = some (y, v) → fr_ S_x_bold w v := by
  intro w y v h
  unfold x_bold_29 at h
  exact (fr_r S_x_bold w).trans (f_x_bold_30 N  _ _ _ _ h)
theorem f_x_bold (N : Nat) : ∀ (x1 : Int) (w : aw_W) (y : Int) (v : aw_W), x_bold N x1 w = some (y, v) → fr_ S_x_bold w v := by
  intro x1 w y v h
  unfold x_bold at h
  obtain ⟨r1, w1, h1, h⟩ := aw_b2s h
  have c1 := (fr_r S_x_bold w).trans (fr_m (by decide) (f_x_isSmall N _ _ _ h1))
  by_cases hc : r1 = 0
  · rw [if_pos hc] at h
    exact (c1).trans (f_x_bold_29 N  _ _ _ h)
  · rw [if_neg hc] at h
    obtain ⟨r2, w2, h2, h⟩ := aw_b2s h
    have c2 := (c1).trans (fr_m (by decide) (f_x_Land_holds N _ _ _ _ h2))
    by_cases hc : r2 = 0
    · rw [if_pos hc] at h
      exact (c2).trans (f_x_bold_29 N  _ _ _ h)
    · rw [if_neg hc] at h
      obtain ⟨r3, w3, h3, h⟩ := aw_b2s h
      have c3 := (c2).trans (fr_m (by decide) (f_x_Replies_boldest N _ _ _ _ h3))
      exact (c3).trans (f_x_bold_30 N  _ _ _ _ h)
def S_x_mayRun : List (Nat × Nat) := []
theorem f_x_mayRun_27 (N : Nat) : ∀ (s0 : Int) (w : aw_W) (y : Int) (v : aw_W), x_mayRun_27 N s0 w = some (y, v) → fr_ S_x_mayRun w v := by
  intro s0 w y v h
  unfold x_mayRun_27 at h
  obtain ⟨_, h⟩ := aw_cks h
  cases h
  exact fr_r S_x_mayRun w
theorem f_x_mayRun_26 (N : Nat) : ∀ (w : aw_W) (y : Int) (v : aw_W), x_mayRun_26 N w = some (y, v) → fr_ S_x_mayRun w v := by
  intro w y v h
  unfold x_mayRun_26 at h
  exact (fr_r S_x_mayRun w).trans (f_x_mayRun_27 N  _ _ _ _ h)
theorem f_x_mayRun (N : Nat) : ∀ (x0 x1 : Int) (w : aw_W) (y : Int) (v : aw_W), x_mayRun N x0 x1 w = some (y, v) → fr_ S_x_mayRun w v := by
  intro x0 x1 w y v h
  unfold x_mayRun at h
  by_cases hc : x0 < 1
  · rw [if_pos hc] at h
    exact (fr_r S_x_mayRun w).trans (f_x_mayRun_26 N  _ _ _ h)
  · rw [if_neg hc] at h
    by_cases hc : 99 < x0
    · rw [if_pos hc] at h
      exact (fr_r S_x_mayRun w).trans (f_x_mayRun_26 N  _ _ _ h)
    · rw [if_neg hc] at h
      by_cases hc : x1 < 1
      · rw [if_pos hc] at h
        exact (fr_r S_x_mayRun w).trans (f_x_mayRun_26 N  _ _ _ h)
      · rw [if_neg hc] at h
        by_cases hc : 99 < x1
        · rw [if_pos hc] at h
          exact (fr_r S_x_mayRun w).trans (f_x_mayRun_26 N  _ _ _ h)
        · rw [if_neg hc] at h
          exact (fr_r S_x_mayRun w).trans (f_x_mayRun_27 N  _ _ _ _ h)
def S_x_Race_rulesAsTold : List (Nat × Nat) := [(30, 1000000)]
theorem f_x_Race_rulesAsTold (N : Nat) : ∀ (w v : aw_W), x_Race_rulesAsTold N w = some v → fr_ S_x_Race_rulesAsTold w v := by
  intro w v h
  unfold x_Race_rulesAsTold at h
  cases h
  exact (fr_r S_x_Race_rulesAsTold w).cpy (by rfl)
def S_x_Race_walk : List (Nat × Nat) := [(26, 7), (31, 1000000), (32, 1000000)]
theorem f_x_Race_walk_79 (N : Nat) : ∀ (w v : aw_W), x_Race_walk_79 N w = some v → fr_ S_x_Race_walk w v := by
  intro w v h
  unfold x_Race_walk_79 at h
  cases h
  exact fr_r S_x_Race_walk w
theorem f_x_Race_walk_73 (N : Nat) (k2 : Int → Int → Int → aw_W → Option (aw_W)) (hk2 : ∀ (x1 x2 x3 : Int) (w v : aw_W), k2 x1 x2 x3 w = some v → fr_ S_x_Race_walk w v) : ∀ (x1 x2 x3 : Int) (w v : aw_W), x_Race_walk_73 N k2 x1 x2 x3 w = some v → fr_ S_x_Race_walk w v := by
  intro x1 x2 x3 w v h
  unfold x_Race_walk_73 at h
  exact (fr_r S_x_Race_walk w).trans (hk2 _ _ _ _ _ h)
theorem f_x_Race_walk_2 (N : Nat) : ∀ (n : Nat) (x1 x2 x3 : Int) (w v : aw_W), x_Race_walk_2 N n x1 x2 x3 w = some v → fr_ S_x_Race_walk w v := by
  intro n
  induction n with
  | zero => intro x1 x2 x3 w v h; rw [x_Race_walk_2] at h; cases h
  | succ n ih =>
    intro x1 x2 x3 w v h
    rw [x_Race_walk_2] at h
    by_cases hc : (w 3 4) ≤ x3
    · rw [if_pos hc] at h
      exact (fr_r S_x_Race_walk w).trans (f_x_Race_walk_79 N  _ _ h)
    · rw [if_neg hc] at h
      obtain ⟨_, h⟩ := aw_cks h
      obtain ⟨_, h⟩ := aw_cks h
      obtain ⟨_, h⟩ := aw_cks h
      obtain ⟨_, h⟩ := aw_cks h
      by_cases hc : ((aw_up w 31 x3.toNat (aw_mn x1 (aw_w ((w 31 x3.toNat) + (w 33 x3.toNat))))) 31 x3.toNat) = x1
      · rw [if_pos hc] at h
        obtain ⟨_, h⟩ := aw_cks h
        by_cases hc : (w 32 x3.toNat) = (-1)
        · rw [if_pos hc] at h
          obtain ⟨_, h⟩ := aw_cks h
          exact ((((fr_r S_x_Race_walk w).upA (by rfl)).upA (by rfl)).up (by rfl)).trans (f_x_Race_walk_73 N  _ ih _ _ _ _ _ h)
        · rw [if_neg hc] at h
          exact ((fr_r S_x_Race_walk w).upA (by rfl)).trans (f_x_Race_walk_73 N  _ ih _ _ _ _ _ h)
      · rw [if_neg hc] at h
        exact ((fr_r S_x_Race_walk w).upA (by rfl)).trans (f_x_Race_walk_73 N  _ ih _ _ _ _ _ h)
theorem f_x_Race_walk (N : Nat) : ∀ (x1 x2 : Int) (w v : aw_W), x_Race_walk N x1 x2 w = some v → fr_ S_x_Race_walk w v := by
  intro x1 x2 w v h
  unfold x_Race_walk at h
  exact (fr_r S_x_Race_walk w).trans (f_x_Race_walk_2 N  N _ _ _ _ _ h)
def S_x_Rules_holds : List (Nat × Nat) := []
theorem f_x_Rules_holds_17 (N : Nat) : ∀ (s0 : Int) (w : aw_W) (y : Int) (v : aw_W), x_Rules_holds_17 N s0 w = some (y, v) → fr_ S_x_Rules_holds w v := by
  intro s0 w y v h
  unfold x_Rules_holds_17 at h
  obtain ⟨_, h⟩ := aw_cks h
  cases h
  exact fr_r S_x_Rules_holds w
theorem f_x_Rules_holds_16 (N : Nat) : ∀ (w : aw_W) (y : Int) (v : aw_W), x_Rules_holds_16 N w = some (y, v) → fr_ S_x_Rules_holds w v := by
  intro w y v h
  unfold x_Rules_holds_16 at h
  exact (fr_r S_x_Rules_holds w).trans (f_x_Rules_holds_17 N  _ _ _ _ h)
theorem f_x_Rules_holds (N : Nat) : ∀ (x1 : Int) (w : aw_W) (y : Int) (v : aw_W), x_Rules_holds N x1 w = some (y, v) → fr_ S_x_Rules_holds w v := by
  intro x1 w y v h
  unfold x_Rules_holds at h
  by_cases hc : x1 < 0
  · rw [if_pos hc] at h
    exact (fr_r S_x_Rules_holds w).trans (f_x_Rules_holds_16 N  _ _ _ h)
  · rw [if_neg hc] at h
    by_cases hc : (w 11 6) ≤ x1
    · rw [if_pos hc] at h
      exact (fr_r S_x_Rules_holds w).trans (f_x_Rules_holds_16 N  _ _ _ h)
    · rw [if_neg hc] at h
      exact (fr_r S_x_Rules_holds w).trans (f_x_Rules_holds_17 N  _ _ _ _ h)
def S_x_Rules_join : List (Nat × Nat) := []
theorem f_x_Rules_join_155 (N : Nat) : ∀ (x3 : Int) (w : aw_W) (y : Int) (v : aw_W), x_Rules_join_155 N x3 w = some (y, v) → fr_ S_x_Rules_join w v := by
  intro x3 w y v h
  unfold x_Rules_join_155 at h
  cases h
  exact fr_r S_x_Rules_join w
theorem f_x_Rules_join_154 (N : Nat) : ∀ (s0 : Int) (w : aw_W) (y : Int) (v : aw_W), x_Rules_join_154 N s0 w = some (y, v) → fr_ S_x_Rules_join w v := by
  intro s0 w y v h
  unfold x_Rules_join_154 at h
  exact (fr_r S_x_Rules_join w).trans (f_x_Rules_join_155 N  _ _ _ _ h)
theorem f_x_Rules_join_108 (N : Nat) : ∀ (s0 : Int) (w : aw_W) (y : Int) (v : aw_W), x_Rules_join_108 N s0 w = some (y, v) → fr_ S_x_Rules_join w v := by
  intro s0 w y v h
  unfold x_Rules_join_108 at h
  cases h
  exact fr_r S_x_Rules_join w
theorem f_x_Rules_join_86 (N : Nat) : ∀ (s0 : Int) (w : aw_W) (y : Int) (v : aw_W), x_Rules_join_86 N s0 w = some (y, v) → fr_ S_x_Rules_join w v := by
  intro s0 w y v h
  unfold x_Rules_join_86 at h
  cases h
  exact fr_r S_x_Rules_join w
theorem f_x_Rules_join_97 (N : Nat) : ∀ (s0 : Int) (w : aw_W) (y : Int) (v : aw_W), x_Rules_join_97 N s0 w = some (y, v) → fr_ S_x_Rules_join w v := by
  intro s0 w y v h
  unfold x_Rules_join_97 at h
  cases h
  exact fr_r S_x_Rules_join w
theorem f_x_Rules_join (N : Nat) : ∀ (x0 x1 x2 : Int) (w : aw_W) (y : Int) (v : aw_W), x_Rules_join N x0 x1 x2 w = some (y, v) → fr_ S_x_Rules_join w v := by
  intro x0 x1 x2 w y v h
  unfold x_Rules_join at h
  by_cases hc : x0 = 38
  · rw [if_pos hc] at h
    cases h
    exact fr_r S_x_Rules_join w
  · rw [if_neg hc] at h
    by_cases hc : x0 = 42
    · rw [if_pos hc] at h
      exact (fr_r S_x_Rules_join w).trans (f_x_Rules_join_155 N  _ _ _ _ h)
    · rw [if_neg hc] at h
      by_cases hc : x0 = 43
      · rw [if_pos hc] at h
        exact (fr_r S_x_Rules_join w).trans (f_x_Rules_join_155 N  _ _ _ _ h)
      · rw [if_neg hc] at h
        by_cases hc : x0 = 45
        · rw [if_pos hc] at h
          exact (fr_r S_x_Rules_join w).trans (f_x_Rules_join_155 N  _ _ _ _ h)
        · rw [if_neg hc] at h
          by_cases hc : x0 = 60
          · rw [if_pos hc] at h
            by_cases hc : x2 ≤ x1
            · rw [if_pos hc] at h
              exact (fr_r S_x_Rules_join w).trans (f_x_Rules_join_97 N  _ _ _ _ h)
            · rw [if_neg hc] at h
              exact (fr_r S_x_Rules_join w).trans (f_x_Rules_join_97 N  _ _ _ _ h)
          · rw [if_neg hc] at h
            by_cases hc : x0 = 61
            · rw [if_pos hc] at h
              by_cases hc : x1 = x2
              · rw [if_pos hc] at h
                exact (fr_r S_x_Rules_join w).trans (f_x_Rules_join_86 N  _ _ _ _ h)
              · rw [if_neg hc] at h
                exact (fr_r S_x_Rules_join w).trans (f_x_Rules_join_86 N  _ _ _ _ h)
            · rw [if_neg hc] at h
              by_cases hc : x0 = 62
              · rw [if_pos hc] at h
                by_cases hc : x1 ≤ x2
                · rw [if_pos hc] at h
                  exact (fr_r S_x_Rules_join w).trans (f_x_Rules_join_108 N  _ _ _ _ h)
                · rw [if_neg hc] at h
                  exact (fr_r S_x_Rules_join w).trans (f_x_Rules_join_108 N  _ _ _ _ h)
              · rw [if_neg hc] at h
                by_cases hc : x0 = 124
                · rw [if_pos hc] at h
                  cases h
                  exact fr_r S_x_Rules_join w
                · rw [if_neg hc] at h
                  by_cases hc : x2 = 0
                  · rw [if_pos hc] at h
                    exact (fr_r S_x_Rules_join w).trans (f_x_Rules_join_154 N  _ _ _ _ h)
                  · rw [if_neg hc] at h
                    obtain ⟨_, h⟩ := aw_cks h
                    exact (fr_r S_x_Rules_join w).trans (f_x_Rules_join_154 N  _ _ _ _ h)
def S_x_Rules_apply : List (Nat × Nat) := [(15, 1000000)]
theorem f_x_Rules_apply_79 (N : Nat) : ∀ (x2 : Int) (w : aw_W) (y : Int) (v : aw_W), x_Rules_apply_79 N x2 w = some (y, v) → fr_ S_x_Rules_apply w v := by
  intro x2 w y v h
  unfold x_Rules_apply_79 at h
  cases h
  exact fr_r S_x_Rules_apply w
theorem f_x_Rules_apply_21 (N : Nat) : ∀ (x2 : Int) (w : aw_W) (y : Int) (v : aw_W), x_Rules_apply_21 N x2 w = some (y, v) → fr_ S_x_Rules_apply w v := by
  intro x2 w y v h
  unfold x_Rules_apply_21 at h
  cases h
  exact fr_r S_x_Rules_apply w
theorem f_x_Rules_apply_45 (N : Nat) : ∀ (x2 s0 s1 : Int) (w : aw_W) (y : Int) (v : aw_W), x_Rules_apply_45 N x2 s0 s1 w = some (y, v) → fr_ S_x_Rules_apply w v := by
  intro x2 s0 s1 w y v h
  unfold x_Rules_apply_45 at h
  obtain ⟨_, h⟩ := aw_cks h
  cases h
  exact (fr_r S_x_Rules_apply w).upA (by rfl)
theorem f_x_Rules_apply (N : Nat) : ∀ (x1 x2 : Int) (w : aw_W) (y : Int) (v : aw_W), x_Rules_apply N x1 x2 w = some (y, v) → fr_ S_x_Rules_apply w v := by
  intro x1 x2 w y v h
  unfold x_Rules_apply at h
  by_cases hc : 6 < x1
  · rw [if_pos hc] at h
    by_cases hc : x1 = 33
    · rw [if_pos hc] at h
      by_cases hc : x2 < 1
      · rw [if_pos hc] at h
        exact (fr_r S_x_Rules_apply w).trans (f_x_Rules_apply_79 N  _ _ _ _ h)
      · rw [if_neg hc] at h
        obtain ⟨_, h⟩ := aw_cks h
        obtain ⟨_, h⟩ := aw_cks h
        exact ((fr_r S_x_Rules_apply w).upA (by rfl)).trans (f_x_Rules_apply_79 N  _ _ _ _ h)
    · rw [if_neg hc] at h
      by_cases hc : 2 ≤ x2
      · rw [if_pos hc] at h
        obtain ⟨_, h⟩ := aw_cks h
        obtain ⟨_, h⟩ := aw_cks h
        obtain ⟨r1, w1, h1, h⟩ := aw_b2s h
        have c1 := (fr_r S_x_Rules_apply w).trans (fr_m (by decide) (f_x_Rules_join N _ _ _ _ _ _ h1))
        obtain ⟨_, h⟩ := aw_cks h
        cases h
        exact (c1).upA (by rfl)
      · rw [if_neg hc] at h
        cases h
        exact fr_r S_x_Rules_apply w
  · rw [if_neg hc] at h
    by_cases hc : x2 < 0
    · rw [if_pos hc] at h
      exact (fr_r S_x_Rules_apply w).trans (f_x_Rules_apply_21 N  _ _ _ _ h)
    · rw [if_neg hc] at h
      by_cases hc : x2 < 64
      · rw [if_pos hc] at h
        by_cases hc : 0 < x1
        · rw [if_pos hc] at h
          obtain ⟨_, h⟩ := aw_cks h
          exact (fr_r S_x_Rules_apply w).trans (f_x_Rules_apply_45 N  _ _ _ _ _ _ h)
        · rw [if_neg hc] at h
          exact (fr_r S_x_Rules_apply w).trans (f_x_Rules_apply_45 N  _ _ _ _ _ _ h)
      · rw [if_neg hc] at h
        exact (fr_r S_x_Rules_apply w).trans (f_x_Rules_apply_21 N  _ _ _ _ h)
def S_x_Rules_worth : List (Nat × Nat) := [(15, 1000000)]
theorem f_x_Rules_worth_119 (N : Nat) : ∀ (w : aw_W) (y : Int) (v : aw_W), x_Rules_worth_119 N w = some (y, v) → fr_ S_x_Rules_worth w v := by
  intro w y v h
  unfold x_Rules_worth_119 at h
  cases h
  exact fr_r S_x_Rules_worth w
theorem f_x_Rules_worth_113 (N : Nat) (k24 : Int → Int → Int → Int → Int → aw_W → Option (Int × aw_W)) (hk24 : ∀ (x1 x2 x3 x4 x5 : Int) (w : aw_W) (y : Int) (v : aw_W), k24 x1 x2 x3 x4 x5 w = some (y, v) → fr_ S_x_Rules_worth w v) : ∀ (x1 x2 x3 x4 x5 : Int) (w : aw_W) (y : Int) (v : aw_W), x_Rules_worth_113 N k24 x1 x2 x3 x4 x5 w = some (y, v) → fr_ S_x_Rules_worth w v := by
  intro x1 x2 x3 x4 x5 w y v h
  unfold x_Rules_worth_113 at h
  exact (fr_r S_x_Rules_worth w).trans (hk24 _ _ _ _ _ _ _ _ h)
theorem f_x_Rules_worth_93 (N : Nat) (k24 : Int → Int → Int → Int → Int → aw_W → Option (Int × aw_W)) (hk24 : ∀ (x1 x2 x3 x4 x5 : Int) (w : aw_W) (y : Int) (v : aw_W), k24 x1 x2 x3 x4 x5 w = some (y, v) → fr_ S_x_Rules_worth w v) : ∀ (x1 x2 x5 s0 : Int) (w : aw_W) (y : Int) (v : aw_W), x_Rules_worth_93 N k24 x1 x2 x5 s0 w = some (y, v) → fr_ S_x_Rules_worth w v := by
  intro x1 x2 x5 s0 w y v h
  unfold x_Rules_worth_93 at h
  exact (fr_r S_x_Rules_worth w).trans (f_x_Rules_worth_113 N  _ hk24 _ _ _ _ _ _ _ _ h)
theorem f_x_Rules_worth_59 (N : Nat) : ∀ (w : aw_W) (y : Int) (v : aw_W), x_Rules_worth_59 N w = some (y, v) → fr_ S_x_Rules_worth w v := by
  intro w y v h
  unfold x_Rules_worth_59 at h
  cases h
  exact fr_r S_x_Rules_worth w
theorem f_x_Rules_worth_24 (N : Nat) : ∀ (n : Nat) (x1 x2 x3 x4 x5 : Int) (w : aw_W) (y : Int) (v : aw_W), x_Rules_worth_24 N n x1 x2 x3 x4 x5 w = some (y, v) → fr_ S_x_Rules_worth w v := by
  intro n
  induction n with
  | zero => intro x1 x2 x3 x4 x5 w y v h; rw [x_Rules_worth_24] at h; cases h
  | succ n ih =>
    intro x1 x2 x3 x4 x5 w y v h
    rw [x_Rules_worth_24] at h
    obtain ⟨_, h⟩ := aw_cks h
    by_cases hc : (w 13 x1.toNat) ≤ x5
    · rw [if_pos hc] at h
      exact (fr_r S_x_Rules_worth w).trans (f_x_Rules_worth_119 N  _ _ _ h)
    · rw [if_neg hc] at h
      obtain ⟨_, h⟩ := aw_cks h
      by_cases hc : (aw_w (-(w 12 ((aw_w (x2 + x5)).toNat)))) = 59
      · rw [if_pos hc] at h
        by_cases hc : x4 = 0
        · rw [if_pos hc] at h
          exact (fr_r S_x_Rules_worth w).trans (f_x_Rules_worth_59 N  _ _ _ h)
        · rw [if_neg hc] at h
          exact (fr_r S_x_Rules_worth w).trans (f_x_Rules_worth_113 N  _ ih _ _ _ _ _ _ _ _ h)
      · rw [if_neg hc] at h
        by_cases hc : (aw_w (-(w 12 ((aw_w (x2 + x5)).toNat)))) = 63
        · rw [if_pos hc] at h
          by_cases hc : (w 15 0) = 0
          · rw [if_pos hc] at h
            exact (fr_r S_x_Rules_worth w).trans (f_x_Rules_worth_93 N  _ ih _ _ _ _ _ _ _ h)
          · rw [if_neg hc] at h
            exact (fr_r S_x_Rules_worth w).trans (f_x_Rules_worth_93 N  _ ih _ _ _ _ _ _ _ h)
        · rw [if_neg hc] at h
          by_cases hc : x4 = 0
          · rw [if_pos hc] at h
            obtain ⟨r1, w1, h1, h⟩ := aw_b2s h
            have c1 := (fr_r S_x_Rules_worth w).trans (fr_m (by decide) (f_x_Rules_apply N _ _ _ _ _ h1))
            exact (c1).trans (f_x_Rules_worth_113 N  _ ih _ _ _ _ _ _ _ _ h)
          · rw [if_neg hc] at h
            exact (fr_r S_x_Rules_worth w).trans (f_x_Rules_worth_113 N  _ ih _ _ _ _ _ _ _ _ h)
theorem f_x_Rules_worth (N : Nat) : ∀ (x1 : Int) (w : aw_W) (y : Int) (v : aw_W), x_Rules_worth N x1 w = some (y, v) → fr_ S_x_Rules_worth w v := by
  intro x1 w y v h
  unfold x_Rules_worth at h
  obtain ⟨r1, w1, h1, h⟩ := aw_b2s h
  have c1 := (fr_r S_x_Rules_worth w).trans (fr_m (by decide) (f_x_Rules_holds N _ _ _ _ h1))
  by_cases hc : r1 = 0
  · rw [if_pos hc] at h
    cases h
    exact c1
  · rw [if_neg hc] at h
    exact (c1).trans (f_x_Rules_worth_24 N  N _ _ _ _ _ _ _ _ h)
def S_x_Race_stepsOf : List (Nat × Nat) := [(15, 1000000), (16, 1000000)]
theorem f_x_Race_stepsOf_68 (N : Nat) : ∀ (x1 x2 x3 x4 x5 x6 : Int) (w : aw_W) (y : Int) (v : aw_W), x_Race_stepsOf_68 N x1 x2 x3 x4 x5 x6 w = some (y, v) → fr_ S_x_Race_stepsOf w v := by
  intro x1 x2 x3 x4 x5 x6 w y v h
  unfold x_Race_stepsOf_68 at h
  obtain ⟨_, h⟩ := aw_cks h
  obtain ⟨r1, w1, h1, h⟩ := aw_b2s h
  have c1 := (((((((fr_r S_x_Race_stepsOf w).upA (by rfl)).upA (by rfl)).upA (by rfl)).upA (by rfl)).upA (by rfl)).upA (by rfl)).trans (fr_m (by decide) (f_x_Land_item N _ _ _ _ _ h1))
  obtain ⟨_, h⟩ := aw_cks h
  obtain ⟨r2, w2, h2, h⟩ := aw_b2s h
  have c2 := (c1).trans (fr_m (by decide) (f_x_Rules_worth N _ _ _ _ h2))
  cases h
  exact c2
theorem f_x_Race_stepsOf_62 (N : Nat) (k9 : Int → Int → Int → Int → Int → Int → Int → aw_W → Option (Int × aw_W)) (hk9 : ∀ (x1 x2 x3 x4 x5 x6 x7 : Int) (w : aw_W) (y : Int) (v : aw_W), k9 x1 x2 x3 x4 x5 x6 x7 w = some (y, v) → fr_ S_x_Race_stepsOf w v) : ∀ (x1 x2 x3 x4 x5 x6 x7 : Int) (w : aw_W) (y : Int) (v : aw_W), x_Race_stepsOf_62 N k9 x1 x2 x3 x4 x5 x6 x7 w = some (y, v) → fr_ S_x_Race_stepsOf w v := by
  intro x1 x2 x3 x4 x5 x6 x7 w y v h
  unfold x_Race_stepsOf_62 at h
  exact (fr_r S_x_Race_stepsOf w).trans (hk9 _ _ _ _ _ _ _ _ _ _ h)
theorem f_x_Race_stepsOf_9 (N : Nat) : ∀ (n : Nat) (x1 x2 x3 x4 x5 x6 x7 : Int) (w : aw_W) (y : Int) (v : aw_W), x_Race_stepsOf_9 N n x1 x2 x3 x4 x5 x6 x7 w = some (y, v) → fr_ S_x_Race_stepsOf w v := by
  intro n
  induction n with
  | zero => intro x1 x2 x3 x4 x5 x6 x7 w y v h; rw [x_Race_stepsOf_9] at h; cases h
  | succ n ih =>
    intro x1 x2 x3 x4 x5 x6 x7 w y v h
    rw [x_Race_stepsOf_9] at h
    by_cases hc : (w 3 4) ≤ x7
    · rw [if_pos hc] at h
      exact (fr_r S_x_Race_stepsOf w).trans (f_x_Race_stepsOf_68 N  _ _ _ _ _ _ _ _ _ h)
    · rw [if_neg hc] at h
      obtain ⟨_, h⟩ := aw_cks h
      obtain ⟨_, h⟩ := aw_cks h
      by_cases hc : (w 31 x7.toNat) ≤ (w 31 x1.toNat)
      · rw [if_pos hc] at h
        obtain ⟨_, h⟩ := aw_cks h
        obtain ⟨_, h⟩ := aw_cks h
        by_cases hc : (w 31 x1.toNat) ≤ (w 31 x7.toNat)
        · rw [if_pos hc] at h
          exact (fr_r S_x_Race_stepsOf w).trans (f_x_Race_stepsOf_62 N  _ ih _ _ _ _ _ _ _ _ _ _ h)
        · rw [if_neg hc] at h
          exact (fr_r S_x_Race_stepsOf w).trans (f_x_Race_stepsOf_62 N  _ ih _ _ _ _ _ _ _ _ _ _ h)
      · rw [if_neg hc] at h
        exact (fr_r S_x_Race_stepsOf w).trans (f_x_Race_stepsOf_62 N  _ ih _ _ _ _ _ _ _ _ _ _ h)
theorem f_x_Race_stepsOf (N : Nat) : ∀ (x1 x2 x3 x4 : Int) (w : aw_W) (y : Int) (v : aw_W), x_Race_stepsOf N x1 x2 x3 x4 w = some (y, v) → fr_ S_x_Race_stepsOf w v := by
  intro x1 x2 x3 x4 w y v h
  unfold x_Race_stepsOf at h
  exact (fr_r S_x_Race_stepsOf w).trans (f_x_Race_stepsOf_9 N  N _ _ _ _ _ _ _ _ _ _ h)
def S_x_Race_go : List (Nat × Nat) := [(15, 1000000), (16, 1000000), (26, 7), (26, 8), (31, 1000000), (32, 1000000), (33, 1000000)]
theorem f_x_Race_go_121 (N : Nat) : ∀ (w v : aw_W), x_Race_go_121 N w = some v → fr_ S_x_Race_go w v := by
  intro w v h
  unfold x_Race_go_121 at h
  cases h
  exact fr_r S_x_Race_go w
theorem f_x_Race_go_102 (N : Nat) (k29 : Int → Int → Int → Int → aw_W → Option (aw_W)) (hk29 : ∀ (x1 x2 x3 x4 : Int) (w v : aw_W), k29 x1 x2 x3 x4 w = some v → fr_ S_x_Race_go w v) : ∀ (x1 x2 x3 x4 : Int) (w v : aw_W), x_Race_go_102 N k29 x1 x2 x3 x4 w = some v → fr_ S_x_Race_go w v := by
  intro x1 x2 x3 x4 w v h
  unfold x_Race_go_102 at h
  obtain ⟨w1, h1, h⟩ := aw_b1s h
  have c1 := (fr_r S_x_Race_go w).trans (fr_m (by decide) (f_x_Race_walk N _ _ _ _ h1))
  exact ((c1).up (by rfl)).trans (hk29 _ _ _ _ _ _ h)
theorem f_x_Race_go_95 (N : Nat) (k29 : Int → Int → Int → Int → aw_W → Option (aw_W)) (hk29 : ∀ (x1 x2 x3 x4 : Int) (w v : aw_W), k29 x1 x2 x3 x4 w = some v → fr_ S_x_Race_go w v) (k52 : Int → Int → Int → Int → Int → aw_W → Option (aw_W)) (hk52 : ∀ (x1 x2 x3 x4 x5 : Int) (w v : aw_W), k52 x1 x2 x3 x4 x5 w = some v → fr_ S_x_Race_go w v) : ∀ (x1 x2 x3 x4 x5 s0 s1 : Int) (w v : aw_W), x_Race_go_95 N k29 k52 x1 x2 x3 x4 x5 s0 s1 w = some v → fr_ S_x_Race_go w v := by
  intro x1 x2 x3 x4 x5 s0 s1 w v h
  unfold x_Race_go_95 at h
  obtain ⟨_, h⟩ := aw_cks h
  exact ((fr_r S_x_Race_go w).upA (by rfl)).trans (hk52 _ _ _ _ _ _ _ h)
theorem f_x_Race_go_52 (N : Nat) (k29 : Int → Int → Int → Int → aw_W → Option (aw_W)) (hk29 : ∀ (x1 x2 x3 x4 : Int) (w v : aw_W), k29 x1 x2 x3 x4 w = some v → fr_ S_x_Race_go w v) : ∀ (n : Nat) (x1 x2 x3 x4 x5 : Int) (w v : aw_W), x_Race_go_52 N k29 n x1 x2 x3 x4 x5 w = some v → fr_ S_x_Race_go w v := by
  intro n
  induction n with
  | zero => intro x1 x2 x3 x4 x5 w v h; rw [x_Race_go_52] at h; cases h
  | succ n ih =>
    intro x1 x2 x3 x4 x5 w v h
    rw [x_Race_go_52] at h
    by_cases hc : (w 3 4) ≤ x5
    · rw [if_pos hc] at h
      exact (fr_r S_x_Race_go w).trans (f_x_Race_go_102 N  _ hk29 _ _ _ _ _ _ h)
    · rw [if_neg hc] at h
      obtain ⟨_, h⟩ := aw_cks h
      by_cases hc : (w 32 x5.toNat) = (-1)
      · rw [if_pos hc] at h
        obtain ⟨r1, w1, h1, h⟩ := aw_b2s h
        have c1 := (fr_r S_x_Race_go w).trans (fr_m (by decide) (f_x_Race_stepsOf N _ _ _ _ _ _ _ h1))
        exact (c1).trans (f_x_Race_go_95 N  _ hk29 _ ih _ _ _ _ _ _ _ _ _ h)
      · rw [if_neg hc] at h
        exact (fr_r S_x_Race_go w).trans (f_x_Race_go_95 N  _ hk29 _ ih _ _ _ _ _ _ _ _ _ h)
theorem f_x_Race_go_29 (N : Nat) : ∀ (n : Nat) (x1 x2 x3 x4 : Int) (w v : aw_W), x_Race_go_29 N n x1 x2 x3 x4 w = some v → fr_ S_x_Race_go w v := by
  intro n
  induction n with
  | zero => intro x1 x2 x3 x4 w v h; rw [x_Race_go_29] at h; cases h
  | succ n ih =>
    intro x1 x2 x3 x4 w v h
    rw [x_Race_go_29] at h
    by_cases hc : x3 ≤ x4
    · rw [if_pos hc] at h
      exact (fr_r S_x_Race_go w).trans (f_x_Race_go_121 N  _ _ h)
    · rw [if_neg hc] at h
      by_cases hc : (w 3 4) ≤ (w 26 7)
      · rw [if_pos hc] at h
        exact (fr_r S_x_Race_go w).trans (f_x_Race_go_121 N  _ _ h)
      · rw [if_neg hc] at h
        exact (fr_r S_x_Race_go w).trans (f_x_Race_go_52 N  _ ih N _ _ _ _ _ _ _ h)
theorem f_x_Race_go (N : Nat) : ∀ (x1 x2 x3 : Int) (w v : aw_W), x_Race_go N x1 x2 x3 w = some v → fr_ S_x_Race_go w v := by
  intro x1 x2 x3 w v h
  unfold x_Race_go at h
  obtain ⟨w1, h1, h⟩ := aw_b1s h
  have c1 := (fr_r S_x_Race_go w).trans (fr_m (by decide) (f_j_Arr_fill_Ii N _ _ _ h1))
  obtain ⟨w2, h2, h⟩ := aw_b1s h
  have c2 := (c1).trans (fr_m (by decide) (f_j_Arr_fill_Ii_32 N _ _ _ h2))
  exact (((c2).up (by rfl)).up (by rfl)).trans (f_x_Race_go_29 N  N _ _ _ _ _ _ h)
def S_x_came : List (Nat × Nat) := [(15, 1000000), (16, 1000000), (26, 7), (26, 8), (30, 1000000), (31, 1000000), (32, 1000000), (33, 1000000)]
theorem f_x_came_19 (N : Nat) : ∀ (w : aw_W) (y : Int) (v : aw_W), x_came_19 N w = some (y, v) → fr_ S_x_came w v := by
  intro w y v h
  unfold x_came_19 at h
  cases h
  exact fr_r S_x_came w
theorem f_x_came (N : Nat) : ∀ (x1 x2 x3 : Int) (w : aw_W) (y : Int) (v : aw_W), x_came N x1 x2 x3 w = some (y, v) → fr_ S_x_came w v := by
  intro x1 x2 x3 w y v h
  unfold x_came at h
  obtain ⟨r1, w1, h1, h⟩ := aw_b2s h
  have c1 := (fr_r S_x_came w).trans (fr_m (by decide) (f_x_Land_holds N _ _ _ _ h1))
  by_cases hc : r1 = 0
  · rw [if_pos hc] at h
    exact (c1).trans (f_x_came_19 N  _ _ _ h)
  · rw [if_neg hc] at h
    obtain ⟨r2, w2, h2, h⟩ := aw_b2s h
    have c2 := (c1).trans (fr_m (by decide) (f_x_mayRun N _ _ _ _ _ h2))
    by_cases hc : r2 = 0
    · rw [if_pos hc] at h
      exact (c2).trans (f_x_came_19 N  _ _ _ h)
    · rw [if_neg hc] at h
      obtain ⟨w3, h3, h⟩ := aw_b1s h
      have c3 := (c2).trans (fr_m (by decide) (f_x_Race_rulesAsTold N _ _ h3))
      obtain ⟨w4, h4, h⟩ := aw_b1s h
      have c4 := (c3).trans (fr_m (by decide) (f_x_Race_go N _ _ _ _ _ h4))
      obtain ⟨_, h⟩ := aw_cks h
      cases h
      exact c4
def S_x_change : List (Nat × Nat) := [(5, 1000000), (23, 4)]
theorem f_x_change_19 (N : Nat) : ∀ (w : aw_W) (y : Int) (v : aw_W), x_change_19 N w = some (y, v) → fr_ S_x_change w v := by
  intro w y v h
  unfold x_change_19 at h
  cases h
  exact fr_r S_x_change w
theorem f_x_change_39 (N : Nat) : ∀ (w : aw_W) (y : Int) (v : aw_W), x_change_39 N w = some (y, v) → fr_ S_x_change w v := by
  intro w y v h
  unfold x_change_39 at h
  cases h
  exact fr_r S_x_change w
theorem f_x_change (N : Nat) : ∀ (x1 x2 : Int) (w : aw_W) (y : Int) (v : aw_W), x_change N x1 x2 w = some (y, v) → fr_ S_x_change w v := by
  intro x1 x2 w y v h
  unfold x_change at h
  by_cases hc : (w 3 4) = 0
  · rw [if_pos hc] at h
    exact (fr_r S_x_change w).trans (f_x_change_19 N  _ _ _ h)
  · rw [if_neg hc] at h
    by_cases hc : x1 < 0
    · rw [if_pos hc] at h
      exact (fr_r S_x_change w).trans (f_x_change_19 N  _ _ _ h)
    · rw [if_neg hc] at h
      by_cases hc : x1 < 5
      · rw [if_pos hc] at h
        obtain ⟨_, h⟩ := aw_cks h
        by_cases hc : x2 < (List.getD [1, 0, 0, 0, 0] (x1.toNat) 0 : Int)
        · rw [if_pos hc] at h
          exact (fr_r S_x_change w).trans (f_x_change_39 N  _ _ _ h)
        · rw [if_neg hc] at h
          obtain ⟨_, h⟩ := aw_cks h
          by_cases hc : x2 ≤ (List.getD [6, 1, 2, 99, 9] (x1.toNat) 0 : Int)
          · rw [if_pos hc] at h
            obtain ⟨_, h⟩ := aw_cks h
            cases h
            exact ((fr_r S_x_change w).upA (by rfl)).up (by rfl)
          · rw [if_neg hc] at h
            exact (fr_r S_x_change w).trans (f_x_change_39 N  _ _ _ h)
      · rw [if_neg hc] at h
        exact (fr_r S_x_change w).trans (f_x_change_19 N  _ _ _ h)
def S_x_Sale_gainWith : List (Nat × Nat) := [(17, 3), (17, 4), (17, 5), (17, 6), (18, 2), (19, 1000000), (20, 1000000), (21, 1000000)]
theorem f_x_Sale_gainWith (N : Nat) : ∀ (x1 x2 : Int) (w : aw_W) (y : Int) (v : aw_W), x_Sale_gainWith N x1 x2 w = some (y, v) → fr_ S_x_Sale_gainWith w v := by
  intro x1 x2 w y v h
  unfold x_Sale_gainWith at h
  obtain ⟨_, h⟩ := aw_cks h
  obtain ⟨w1, h1, h⟩ := aw_b1s h
  have c1 := ((fr_r S_x_Sale_gainWith w).upA (by rfl)).trans (fr_m (by decide) (f_x_Sale_settle N _ _ h1))
  obtain ⟨r2, w2, h2, h⟩ := aw_b2s h
  have c2 := (c1).trans (fr_m (by decide) (f_x_Sale_gainOf N _ _ _ _ h2))
  cases h
  exact c2
