/-! ===== pure: items of a clause ===== -/
/-- the place of x in a table -/
def fi (T : List Int) (x : Int) : Nat → Nat → Int
  | 0, _ => -1
  | r + 1, i => if T.getD i 0 = x then (i : Int) else fi T x r (i + 1)
theorem fi_s (T : List Int) (x : Int) (r i : Nat) : fi T x (r + 1) i = if T.getD i 0 = x then (i : Int) else fi T x r (i + 1) := rfl
theorem fi_r (T : List Int) (x : Int) : ∀ r i, fi T x r i = -1 ∨ ∃ k : Nat, i ≤ k ∧ k < i + r ∧ fi T x r i = k ∧ T.getD k 0 = x
  | 0, i => Or.inl rfl
  | r + 1, i => by
    rw [fi_s]
    by_cases c : T.getD i 0 = x
    · rw [if_pos c]
      exact Or.inr ⟨i, Nat.le_refl _, by omega, rfl, c⟩
    · rw [if_neg c]
      rcases fi_r T x r (i + 1) with h | ⟨k, h1, h2, h3⟩
      · exact Or.inl h
      · exact Or.inr ⟨k, by omega, by omega, h3⟩
theorem fi_no (T : List Int) {x y : Int} : ∀ r i, (∀ k, T.getD k 0 = x → False) → (∀ k, T.getD k 0 = y → False) → fi T x r i = fi T y r i
  | 0, _, _, _ => rfl
  | r + 1, i, hx, hy => by rw [fi_s, fi_s, if_neg (hx i), if_neg (hy i)]; exact fi_no T r (i + 1) hx hy
def T4 : List Int := [112, 119, 107, 98]
def T5 : List Int := [114, 116, 113, 102, 109]
def T6 : List Int := [100, 97, 98, 111, 108, 116]
def L4 : List Int := [1, 0, 0, 0]
def L5 : List Int := [1, 0, 0, 0, 0]
def H4 : List Int := [9, 99, 4, 9]
def H5 : List Int := [6, 1, 2, 99, 9]
def U4 : List Int := [3, 10, 0, 0]
def U5 : List Int := [2, 0, 0, 0, 5]
section IT
variable {N : Nat} {w v : aw_W} {tp : List Nat} {p B o : Nat} {S : List (Nat × Nat)}
theorem g4 : ∀ K, K ≤ 4 → fi T4 0 K 0 = fi T4 (-1) K 0 := by decide
theorem g5 : ∀ K, K ≤ 5 → fi T5 0 K 0 = fi T5 (-1) K 0 := by decide
theorem g6 : ∀ K, K ≤ 6 → fi T6 0 K 0 = fi T6 (-1) K 0 := by decide
theorem fi_lk4 (h : tpk tp) : fi T4 (lk tp p) 4 0 = fi T4 (gb tp p : Int) 4 0 := by
  unfold lk
  by_cases z : p < tp.length
  · rw [if_pos z]
  · rw [if_neg z, gb_out (by omega)]; exact (g4 4 (by decide)).symm
theorem fi_lk5 (h : tpk tp) : fi T5 (lk tp p) 5 0 = fi T5 (gb tp p : Int) 5 0 := by
  unfold lk
  by_cases z : p < tp.length
  · rw [if_pos z]
  · rw [if_neg z, gb_out (by omega)]; exact (g5 5 (by decide)).symm
theorem fi_lk6 (h : tpk tp) : fi T6 (lk tp p) 6 0 = fi T6 (gb tp p : Int) 6 0 := by
  unfold lk
  by_cases z : p < tp.length
  · rw [if_pos z]
  · rw [if_neg z, gb_out (by omega)]; exact (g6 6 (by decide)).symm
theorem xi4_l {x : Int} : ∀ (r f i : Nat), r < f → i + r = 4 → x_indexIn_200_2 N f x i w = some (fi T4 x r i, w) := by
  intro r
  induction r with
  | zero =>
    intro f i hf hi
    obtain ⟨f, rfl⟩ : ∃ g, f = g + 1 := ⟨f - 1, by omega⟩
    rw [x_indexIn_200_2, if_pos (by omega)]
    rfl
  | succ r ih =>
    intro f i hf hi
    obtain ⟨f, rfl⟩ : ∃ g, f = g + 1 := ⟨f - 1, by omega⟩
    rw [x_indexIn_200_2, if_neg (by omega), if_pos ⟨by omega, by omega⟩, Int.toNat_natCast, show (List.getD [112, 119, 107, 98] i 0 : Int) = T4.getD i 0 from rfl, fi_s]
    by_cases c : T4.getD i 0 = x
    · rw [if_pos c, if_pos c]; rfl
    · rw [if_neg c, if_neg c, ww1 (by omega)]
      exact ih f (i + 1) (by omega) (by omega)
theorem X_ix4 (hN : 10 ≤ N) {x : Int} : x_indexIn_200 N x w = some (fi T4 x 4 0, w) := xi4_l (N := N) 4 N 0 (by omega) (by omega)
theorem xi5_l {x : Int} : ∀ (r f i : Nat), r < f → i + r = 5 → x_indexIn_204_2 N f x i w = some (fi T5 x r i, w) := by
  intro r
  induction r with
  | zero =>
    intro f i hf hi
    obtain ⟨f, rfl⟩ : ∃ g, f = g + 1 := ⟨f - 1, by omega⟩
    rw [x_indexIn_204_2, if_pos (by omega)]
    rfl
  | succ r ih =>
    intro f i hf hi
    obtain ⟨f, rfl⟩ : ∃ g, f = g + 1 := ⟨f - 1, by omega⟩
    rw [x_indexIn_204_2, if_neg (by omega), if_pos ⟨by omega, by omega⟩, Int.toNat_natCast, show (List.getD [114, 116, 113, 102, 109] i 0 : Int) = T5.getD i 0 from rfl, fi_s]
    by_cases c : T5.getD i 0 = x
    · rw [if_pos c, if_pos c]; rfl
    · rw [if_neg c, if_neg c, ww1 (by omega)]
      exact ih f (i + 1) (by omega) (by omega)
theorem X_ix5 (hN : 10 ≤ N) {x : Int} : x_indexIn_204 N x w = some (fi T5 x 5 0, w) := xi5_l (N := N) 5 N 0 (by omega) (by omega)
theorem xi6_l {x : Int} : ∀ (r f i : Nat), r < f → i + r = 6 → x_indexIn_2 N f x i w = some (fi T6 x r i, w) := by
  intro r
  induction r with
  | zero =>
    intro f i hf hi
    obtain ⟨f, rfl⟩ : ∃ g, f = g + 1 := ⟨f - 1, by omega⟩
    rw [x_indexIn_2, if_pos (by omega)]
    rfl
  | succ r ih =>
    intro f i hf hi
    obtain ⟨f, rfl⟩ : ∃ g, f = g + 1 := ⟨f - 1, by omega⟩
    rw [x_indexIn_2, if_neg (by omega), if_pos ⟨by omega, by omega⟩, Int.toNat_natCast, show (List.getD [100, 97, 98, 111, 108, 116] i 0 : Int) = T6.getD i 0 from rfl, fi_s]
    by_cases c : T6.getD i 0 = x
    · rw [if_pos c, if_pos c]; rfl
    · rw [if_neg c, if_neg c, ww1 (by omega)]
      exact ih f (i + 1) (by omega) (by omega)
theorem X_ix6 (hN : 10 ≤ N) {x : Int} : x_indexIn N x w = some (fi T6 x 6 0, w) := xi6_l (N := N) 6 N 0 (by omega) (by omega)
/-! the reference's texts -/
theorem ch3 : ∀ i : Nat, i < 4 → aw_chr (aw_and ((aw_txt 3).getD i 0) 255) = T4.getD i 0 ∧ 0 ≤ T4.getD i 0 ∧ T4.getD i 0 < 65536 := by decide +kernel
theorem ch2 : ∀ i : Nat, i < 5 → aw_chr (aw_and ((aw_txt 2).getD i 0) 255) = T5.getD i 0 ∧ 0 ≤ T5.getD i 0 ∧ T5.getD i 0 < 65536 := by decide +kernel
theorem ch1 : ∀ i : Nat, i < 6 → aw_chr (aw_and ((aw_txt 1).getD i 0) 255) = T6.getD i 0 ∧ 0 ≤ T6.getD i 0 ∧ T6.getD i 0 < 65536 := by decide +kernel
theorem ch0 : aw_chr (aw_and ((aw_txt 0).getD 0 0) 255) = 121 := by decide +kernel
theorem M_cA3 {i : Nat} (hi : i < 4) : j_Str_charAt_223 N (i : Int) w = some (T4.getD i 0, w) := by
  obtain ⟨h1, h2⟩ := ch3 i hi
  rw [j_Str_charAt_223, show j_Str_isLatin1_223 N w = some (1, w) from rfl, b2_some, if_neg (by decide), j_Lat_charAt_233, j_Str_checkIndex, if_pos ⟨by omega, by omega⟩, b1_some, if_pos ⟨by omega, by omega⟩, Int.toNat_natCast, h1, if_pos h2, b2_some, if_pos h2]
theorem M_cA2 {i : Nat} (hi : i < 5) : j_Str_charAt_222 N (i : Int) w = some (T5.getD i 0, w) := by
  obtain ⟨h1, h2⟩ := ch2 i hi
  rw [j_Str_charAt_222, show j_Str_isLatin1_222 N w = some (1, w) from rfl, b2_some, if_neg (by decide), j_Lat_charAt_232, j_Str_checkIndex, if_pos ⟨by omega, by omega⟩, b1_some, if_pos ⟨by omega, by omega⟩, Int.toNat_natCast, h1, if_pos h2, b2_some, if_pos h2]
theorem M_cA1 {i : Nat} (hi : i < 6) : j_Str_charAt_221 N (i : Int) w = some (T6.getD i 0, w) := by
  obtain ⟨h1, h2⟩ := ch1 i hi
  rw [j_Str_charAt_221, show j_Str_isLatin1_221 N w = some (1, w) from rfl, b2_some, if_neg (by decide), j_Lat_charAt_231, j_Str_checkIndex, if_pos ⟨by omega, by omega⟩, b1_some, if_pos ⟨by omega, by omega⟩, Int.toNat_natCast, h1, if_pos h2, b2_some, if_pos h2]
theorem M_cA0 : j_Str_charAt N 0 w = some (121, w) := by
  rw [j_Str_charAt, show j_Str_isLatin1 N w = some (1, w) from rfl, b2_some, if_neg (by decide), j_Lat_charAt, j_Str_checkIndex, if_pos ⟨by decide, by decide⟩, b1_some, if_pos ⟨by decide, by decide⟩, show (0 : Int).toNat = 0 from rfl, ch0, if_pos ⟨by decide, by decide⟩, b2_some, if_pos ⟨by decide, by decide⟩]
theorem sh0 : aw_shr 4 0 = 4 ∧ aw_shr 5 0 = 5 ∧ aw_shr 6 0 = 6 ∧ aw_shr 1 0 = 1 := by decide +kernel
theorem M_ln3 : j_Str_length_223 N w = some (4, w) := by
  rw [j_Str_length_223, show j_Str_coder_223 N w = some (0, w) from rfl, b2_some, sh0.1]
theorem M_ln2 : j_Str_length_222 N w = some (5, w) := by
  rw [j_Str_length_222, show j_Str_coder_222 N w = some (0, w) from rfl, b2_some, sh0.2.1]
theorem M_ln1 : j_Str_length_221 N w = some (6, w) := by
  rw [j_Str_length_221, show j_Str_coder_221 N w = some (0, w) from rfl, b2_some, sh0.2.2.1]
theorem M_ln0 : j_Str_length N w = some (1, w) := by
  rw [j_Str_length, show j_Str_coder N w = some (0, w) from rfl, b2_some, sh0.2.2.2]
theorem mp4_l {x : Int} : ∀ (r f i : Nat), r < f → i + r = 4 → m_placeOf_2 N f x i w = some (fi T4 x r i, w) := by
  intro r
  induction r with
  | zero =>
    intro f i hf hi
    obtain ⟨f, rfl⟩ : ∃ g, f = g + 1 := ⟨f - 1, by omega⟩
    rw [m_placeOf_2, M_ln3, b2_some, if_pos (by omega)]
    rfl
  | succ r ih =>
    intro f i hf hi
    obtain ⟨f, rfl⟩ : ∃ g, f = g + 1 := ⟨f - 1, by omega⟩
    rw [m_placeOf_2, M_ln3, b2_some, if_neg (by omega), M_cA3 (by omega), b2_some, fi_s]
    by_cases c : T4.getD i 0 = x
    · rw [if_pos c, if_pos c]; rfl
    · rw [if_neg c, if_neg c, ww1 (by omega)]
      exact ih f (i + 1) (by omega) (by omega)
theorem M_ix4 (hN : 10 ≤ N) {x : Int} : m_placeOf N x w = some (fi T4 x 4 0, w) := mp4_l (N := N) 4 N 0 (by omega) (by omega)
theorem mp5_l {x : Int} : ∀ (r f i : Nat), r < f → i + r = 5 → m_placeOf_222_2 N f x i w = some (fi T5 x r i, w) := by
  intro r
  induction r with
  | zero =>
    intro f i hf hi
    obtain ⟨f, rfl⟩ : ∃ g, f = g + 1 := ⟨f - 1, by omega⟩
    rw [m_placeOf_222_2, M_ln2, b2_some, if_pos (by omega)]
    rfl
  | succ r ih =>
    intro f i hf hi
    obtain ⟨f, rfl⟩ : ∃ g, f = g + 1 := ⟨f - 1, by omega⟩
    rw [m_placeOf_222_2, M_ln2, b2_some, if_neg (by omega), M_cA2 (by omega), b2_some, fi_s]
    by_cases c : T5.getD i 0 = x
    · rw [if_pos c, if_pos c]; rfl
    · rw [if_neg c, if_neg c, ww1 (by omega)]
      exact ih f (i + 1) (by omega) (by omega)
theorem M_ix5 (hN : 10 ≤ N) {x : Int} : m_placeOf_222 N x w = some (fi T5 x 5 0, w) := mp5_l (N := N) 5 N 0 (by omega) (by omega)
/-! the items -/
def pit (tp : List Nat) (T LO HI : List Int) (K : Nat) : Nat → Nat → Nat → (Nat → Int) → Bool × Nat × (Nat → Int)
  | 0, _, p, tab => (false, p, tab)
  | f + 1, told, p, tab =>
    if fi T (gb tp (sk tp p)) K 0 = -1 then (true, sk tp p, tab)
    else if told.testBit (fi T (gb tp (sk tp p)) K 0).toNat then (false, sk tp p, tab)
    else if (nmb tp 2 false 0 (sk tp (sk tp p + 1))).1 = -1 then (false, (nmb tp 2 false 0 (sk tp (sk tp p + 1))).2, tab)
    else if (nmb tp 2 false 0 (sk tp (sk tp p + 1))).1 < LO.getD (fi T (gb tp (sk tp p)) K 0).toNat 0 ∨ HI.getD (fi T (gb tp (sk tp p)) K 0).toNat 0 < (nmb tp 2 false 0 (sk tp (sk tp p + 1))).1 then (false, (nmb tp 2 false 0 (sk tp (sk tp p + 1))).2 - 1, tab)
    else pit tp T LO HI K f (told ||| 2 ^ (fi T (gb tp (sk tp p)) K 0).toNat) (nmb tp 2 false 0 (sk tp (sk tp p + 1))).2 (updi tab (fi T (gb tp (sk tp p)) K 0).toNat (nmb tp 2 false 0 (sk tp (sk tp p + 1))).1)
theorem pit_s (tp : List Nat) (T LO HI : List Int) (K f told p : Nat) (tab : Nat → Int) : pit tp T LO HI K (f + 1) told p tab = if fi T (gb tp (sk tp p)) K 0 = -1 then (true, sk tp p, tab) else if told.testBit (fi T (gb tp (sk tp p)) K 0).toNat then (false, sk tp p, tab) else if (nmb tp 2 false 0 (sk tp (sk tp p + 1))).1 = -1 then (false, (nmb tp 2 false 0 (sk tp (sk tp p + 1))).2, tab) else if (nmb tp 2 false 0 (sk tp (sk tp p + 1))).1 < LO.getD (fi T (gb tp (sk tp p)) K 0).toNat 0 ∨ HI.getD (fi T (gb tp (sk tp p)) K 0).toNat 0 < (nmb tp 2 false 0 (sk tp (sk tp p + 1))).1 then (false, (nmb tp 2 false 0 (sk tp (sk tp p + 1))).2 - 1, tab) else pit tp T LO HI K f (told ||| 2 ^ (fi T (gb tp (sk tp p)) K 0).toNat) (nmb tp 2 false 0 (sk tp (sk tp p + 1))).2 (updi tab (fi T (gb tp (sk tp p)) K 0).toNat (nmb tp 2 false 0 (sk tp (sk tp p + 1))).1) := rfl
theorem ct_tld {told K k : Nat} (hk : k < K) (h : told.testBit k = false) : ct (told ||| 2 ^ k).testBit K = ct told.testBit K + 1 := by
  rw [← ct_add (p := told.testBit) (j := k) hk h]
  refine ct_cong (fun j hj => ?_)
  rw [Nat.testBit_or, Nat.testBit_two_pow]
  congr 1
  rw [Bool.eq_iff_iff, decide_eq_true_eq, beq_iff_eq]
  exact ⟨fun h => h.symm, fun h => h.symm⟩
theorem nmb2 (q : Nat) : nmb tp 2 false 0 q = if isd tp q then (if isd tp (q + 1) then (if isd tp (q + 2) then (-1, q + 2) else (((0 * 10 + (gb tp q : Int) - 48) * 10 + (gb tp (q + 1) : Int) - 48), q + 2)) else ((0 * 10 + (gb tp q : Int) - 48), q + 1)) else (-1, q) := by
  rw [nmb_s]
  split
  · rw [nmb_s]
    split
    · rw [nmb_0]
      split <;> rfl
    · rfl
  · rfl
theorem nmb2_v {q : Nat} (h : (nmb tp 2 false 0 q).1 ≠ -1) : 0 ≤ (nmb tp 2 false 0 q).1 ∧ (nmb tp 2 false 0 q).1 ≤ 99 ∧ 1 ≤ (nmb tp 2 false 0 q).2 := by
  rw [nmb2] at h ⊢
  by_cases c1 : isd tp q = true
  · have d1 := isd_iff.mp c1
    rw [if_pos c1] at h ⊢
    by_cases c2 : isd tp (q + 1) = true
    · have d2 := isd_iff.mp c2
      rw [if_pos c2] at h ⊢
      by_cases c3 : isd tp (q + 2) = true
      · rw [if_pos c3] at h
        exact absurd rfl h
      · rw [if_neg c3]
        show 0 ≤ (0 * 10 + (gb tp q : Int) - 48) * 10 + (gb tp (q + 1) : Int) - 48 ∧ (0 * 10 + (gb tp q : Int) - 48) * 10 + (gb tp (q + 1) : Int) - 48 ≤ 99 ∧ 1 ≤ q + 2
        omega
    · rw [if_neg c2]
      show 0 ≤ 0 * 10 + (gb tp q : Int) - 48 ∧ 0 * 10 + (gb tp q : Int) - 48 ≤ 99 ∧ 1 ≤ q + 1
      omega
  · rw [if_neg c1] at h
    exact absurd rfl h
end IT
