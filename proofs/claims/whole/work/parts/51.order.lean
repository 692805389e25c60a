/-! ===== pure: an order of strivers, by insertion  ===== -/
/-- k stands ahead of s -/
def bf (sc : Nat → Int) (k s : Nat) : Bool := decide (sc s < sc k) || (decide (sc k = sc s) && decide (k < s))
theorem bf_iff {sc : Nat → Int} {k s : Nat} : bf sc k s = true ↔ sc s < sc k ∨ (sc k = sc s ∧ k < s) := by
  unfold bf
  rw [Bool.or_eq_true, Bool.and_eq_true, decide_eq_true_eq, decide_eq_true_eq, decide_eq_true_eq]
theorem bf_no {sc : Nat → Int} {k s : Nat} : bf sc k s = false ↔ ¬ (sc s < sc k ∨ (sc k = sc s ∧ k < s)) := by
  rw [← bf_iff, Bool.not_eq_true]
/-- the order stands in the cells: m strivers of the first n, those with al -/
def ord (w : aw_W) (n : Nat) (al : Nat → Bool) (sc : Nat → Int) (m : Nat) (F : Nat → Nat) : Prop :=
  w 18 2 = m ∧ m ≤ n ∧ (∀ a, a < m → F a < n ∧ al (F a) = true ∧ w 19 a = F a ∧ w 20 a = sc (F a)) ∧ (∀ a b, a < b → b < m → bf sc (F a) (F b) = true) ∧ ∀ s, s < n → al s = true → ∃ a, a < m ∧ F a = s
theorem x_Order_enter_loop (N : Nat) {x p : Int} {m : Nat} (hm : m < 6) (A B : Nat → Int) : ∀ (f j : Nat) (w : aw_W), j < f → j ≤ m → w 18 2 = m → (∀ i, i < j → w 19 i = A i ∧ w 20 i = B i) → (∀ i, j ≤ i → i < m → w 19 (i + 1) = A i ∧ w 20 (i + 1) = B i) → (∀ i, j ≤ i → i < m → B i < p) →
    ∃ (w' : aw_W) (q : Nat), x_Order_enter_18 N f x p (j : Int) w = some w' ∧ q ≤ m ∧ w' 18 2 = ((m + 1 : Nat) : Int) ∧ (∀ i, i < q → w' 19 i = A i ∧ w' 20 i = B i) ∧ w' 19 q = x ∧ w' 20 q = p ∧ (∀ i, q ≤ i → i < m → w' 19 (i + 1) = A i ∧ w' 20 (i + 1) = B i) ∧ (∀ i, q ≤ i → i < m → B i < p) ∧ (0 < q → p ≤ B (q - 1)) := by
  intro f
  induction f with
  | zero => intro j w hj; exact absurd hj (Nat.not_lt_zero _)
  | succ f ih =>
    intro j w hj hjm h0 h1 h2 h3
    have fin : ∃ w', x_Order_enter_68 N x p (j : Int) w = some w' ∧ w' 18 2 = ((m + 1 : Nat) : Int) ∧ (∀ i, i < j → w' 19 i = A i ∧ w' 20 i = B i) ∧ w' 19 j = x ∧ w' 20 j = p ∧ (∀ i, j ≤ i → i < m → w' 19 (i + 1) = A i ∧ w' 20 (i + 1) = B i) := by
      refine ⟨_, by rw [x_Order_enter_68, if_pos ⟨by omega, by omega⟩, if_pos ⟨by omega, by omega⟩], ?_, fun i hi => ?_, ?_, ?_, fun i hi him => ?_⟩
      · simp only [aw_up, h0]
        rw [if_pos ⟨trivial, trivial⟩, ww1 (by omega)]
      · have e1 : ¬ i = j := by omega
        simp [aw_up, e1]
        exact h1 i hi
      · simp [aw_up]
      · simp [aw_up]
      · have e1 : ¬ i + 1 = j := by omega
        simp [aw_up, e1]
        exact h2 i hi him
    rw [x_Order_enter_18]
    cases j with
    | zero =>
      rw [if_pos (by omega)]
      obtain ⟨w', e, a1, a2, a3, a4, a5⟩ := fin
      exact ⟨w', 0, e, by omega, a1, a2, a3, a4, a5, h3, fun h => absurd h (Nat.lt_irrefl 0)⟩
    | succ j =>
      rw [if_neg (by omega), ww2 (by omega), if_pos ⟨by omega, by omega⟩, Int.toNat_natCast]
      by_cases hp : p ≤ w 20 j
      · rw [if_pos hp]
        obtain ⟨w', e, a1, a2, a3, a4, a5⟩ := fin
        refine ⟨w', j + 1, e, hjm, a1, a2, a3, a4, a5, h3, fun _ => ?_⟩
        rw [(h1 j (by omega)).2] at hp
        exact hp
      · rw [if_neg hp, if_pos ⟨by omega, by omega⟩, if_pos ⟨by omega, by omega⟩, if_pos ⟨by omega, by omega⟩, if_pos ⟨by omega, by omega⟩, ww3 (by omega), Int.toNat_natCast]
        have hB := h1 j (by omega)
        refine ih j _ (by omega) (by omega) ?_ (fun i hi => ?_) (fun i hi him => ?_) (fun i hi him => ?_)
        · simp [aw_up]; exact h0
        · have e1 : ¬ i = j + 1 := by omega
          simp [aw_up, e1]
          exact h1 i (by omega)
        · by_cases e : i = j
          · subst e
            simp [aw_up]
            exact hB
          · have e1 : ¬ i = j := e
            simp [aw_up, e1]
            exact h2 i (by omega) him
        · by_cases e : i = j
          · subst e
            rw [← hB.2]
            omega
          · exact h3 i (by omega) him
theorem x_Order_enter_ok (N : Nat) (hN : 10 ≤ N) {w : aw_W} {n m : Nat} {al : Nat → Bool} {sc : Nat → Int} {F : Nat → Nat} (h : ord w n al sc m F) (hn : n < 6) (hal : al n = true) :
    ∃ w' F', x_Order_enter N (n : Int) (sc n) w = some w' ∧ ord w' (n + 1) al sc (m + 1) F' := by
  obtain ⟨h0, h1, h2, h3, h4⟩ := h
  obtain ⟨w', q, e, g1, g2, g3, g4, g5, g6, g7, g8⟩ := x_Order_enter_loop N (x := (n : Int)) (p := sc n) (m := m) (by omega) (fun i => (F i : Int)) (fun i => sc (F i)) N m w (by omega) (Nat.le_refl _) h0 (fun i hi => ⟨(h2 i hi).2.2.1, (h2 i hi).2.2.2⟩) (fun i hi him => absurd him (by omega)) (fun i hi him => absurd him (by omega))
  refine ⟨w', fun a => if a < q then F a else if a = q then n else F (a - 1), ?_, g2, by omega, fun a ha => ?_, fun a b hab hb => ?_, fun s hs has => ?_⟩
  · rw [x_Order_enter, if_pos (by omega), h0]
    exact e
  · by_cases c1 : a < q
    · simp only [c1, if_true]
      exact ⟨by have := (h2 a (by omega)).1; omega, (h2 a (by omega)).2.1, (g3 a c1).1, (g3 a c1).2⟩
    · by_cases c2 : a = q
      · subst c2
        simp only [c1, if_false, if_true]
        exact ⟨by omega, hal, g4, g5⟩
      · simp only [c1, c2, if_false]
        obtain ⟨b, rfl⟩ : ∃ b, a = b + 1 := ⟨a - 1, by omega⟩
        have := g6 b (by omega) (by omega)
        exact ⟨by have := (h2 b (by omega)).1; simp; omega, (h2 b (by omega)).2.1, this.1, this.2⟩
  · -- sorted
    have low : ∀ a, a < q → sc n ≤ sc (F a) := by
      intro a ha
      have h8 := g8 (by omega)
      by_cases c : a = q - 1
      · subst c; exact h8
      · have := bf_iff.mp (h3 a (q - 1) (by omega) (by omega))
        rcases this with t | t
        · have h9 : sc n ≤ sc (F (q - 1)) := h8
          omega
        · rw [t.1]; exact h8
    by_cases c1 : b < q
    · have c0 : a < q := by omega
      simp only [c0, c1, if_true]
      exact h3 a b hab (by omega)
    · by_cases c2 : b = q
      · subst c2
        have c0 : a < b := hab
        simp only [c0, c1, if_true, if_false]
        rw [bf_iff]
        have t1 := low a c0
        have t2 := (h2 a (by omega)).1
        by_cases t3 : sc n < sc (F a)
        · exact Or.inl t3
        · exact Or.inr ⟨by omega, t2⟩
      · simp only [c1, c2, if_false]
        obtain ⟨b, rfl⟩ : ∃ d, b = d + 1 := ⟨b - 1, by omega⟩
        simp only [Nat.add_sub_cancel]
        by_cases d1 : a < q
        · simp only [d1, if_true]
          exact h3 a b (by omega) (by omega)
        · by_cases d2 : a = q
          · subst d2
            simp only [d1, if_false, if_true]
            rw [bf_iff]
            exact Or.inl (g7 b (by omega) (by omega))
          · simp only [d1, d2, if_false]
            exact h3 (a - 1) b (by omega) (by omega)
  · by_cases c : s = n
    · subst c
      exact ⟨q, by omega, by simp⟩
    · obtain ⟨a, ha, hF⟩ := h4 s (by omega) has
      by_cases c1 : a < q
      · exact ⟨a, by omega, by simp [c1, hF]⟩
      · refine ⟨a + 1, by omega, ?_⟩
        have c2 : ¬ a + 1 < q := by omega
        have c3 : ¬ a + 1 = q := by omega
        simp [c2, c3, hF]
/-- the order stands in the cells: m strivers of the first n, those with al -/
def ordR (w : aw_W) (n : Nat) (al : Nat → Bool) (sc : Nat → Int) (m : Nat) (F : Nat → Nat) : Prop :=
  w 27 2 = m ∧ m ≤ n ∧ (∀ a, a < m → F a < n ∧ al (F a) = true ∧ w 28 a = F a ∧ w 29 a = sc (F a)) ∧ (∀ a b, a < b → b < m → bf sc (F a) (F b) = true) ∧ ∀ s, s < n → al s = true → ∃ a, a < m ∧ F a = s
theorem x_Order_enter_27_loop (N : Nat) {x p : Int} {m : Nat} (hm : m < 6) (A B : Nat → Int) : ∀ (f j : Nat) (w : aw_W), j < f → j ≤ m → w 27 2 = m → (∀ i, i < j → w 28 i = A i ∧ w 29 i = B i) → (∀ i, j ≤ i → i < m → w 28 (i + 1) = A i ∧ w 29 (i + 1) = B i) → (∀ i, j ≤ i → i < m → B i < p) →
    ∃ (w' : aw_W) (q : Nat), x_Order_enter_27_18 N f x p (j : Int) w = some w' ∧ q ≤ m ∧ w' 27 2 = ((m + 1 : Nat) : Int) ∧ (∀ i, i < q → w' 28 i = A i ∧ w' 29 i = B i) ∧ w' 28 q = x ∧ w' 29 q = p ∧ (∀ i, q ≤ i → i < m → w' 28 (i + 1) = A i ∧ w' 29 (i + 1) = B i) ∧ (∀ i, q ≤ i → i < m → B i < p) ∧ (0 < q → p ≤ B (q - 1)) := by
  intro f
  induction f with
  | zero => intro j w hj; exact absurd hj (Nat.not_lt_zero _)
  | succ f ih =>
    intro j w hj hjm h0 h1 h2 h3
    have fin : ∃ w', x_Order_enter_27_68 N x p (j : Int) w = some w' ∧ w' 27 2 = ((m + 1 : Nat) : Int) ∧ (∀ i, i < j → w' 28 i = A i ∧ w' 29 i = B i) ∧ w' 28 j = x ∧ w' 29 j = p ∧ (∀ i, j ≤ i → i < m → w' 28 (i + 1) = A i ∧ w' 29 (i + 1) = B i) := by
      refine ⟨_, by rw [x_Order_enter_27_68, if_pos ⟨by omega, by omega⟩, if_pos ⟨by omega, by omega⟩], ?_, fun i hi => ?_, ?_, ?_, fun i hi him => ?_⟩
      · simp only [aw_up, h0]
        rw [if_pos ⟨trivial, trivial⟩, ww1 (by omega)]
      · have e1 : ¬ i = j := by omega
        simp [aw_up, e1]
        exact h1 i hi
      · simp [aw_up]
      · simp [aw_up]
      · have e1 : ¬ i + 1 = j := by omega
        simp [aw_up, e1]
        exact h2 i hi him
    rw [x_Order_enter_27_18]
    cases j with
    | zero =>
      rw [if_pos (by omega)]
      obtain ⟨w', e, a1, a2, a3, a4, a5⟩ := fin
      exact ⟨w', 0, e, by omega, a1, a2, a3, a4, a5, h3, fun h => absurd h (Nat.lt_irrefl 0)⟩
    | succ j =>
      rw [if_neg (by omega), ww2 (by omega), if_pos ⟨by omega, by omega⟩, Int.toNat_natCast]
      by_cases hp : p ≤ w 29 j
      · rw [if_pos hp]
        obtain ⟨w', e, a1, a2, a3, a4, a5⟩ := fin
        refine ⟨w', j + 1, e, hjm, a1, a2, a3, a4, a5, h3, fun _ => ?_⟩
        rw [(h1 j (by omega)).2] at hp
        exact hp
      · rw [if_neg hp, if_pos ⟨by omega, by omega⟩, if_pos ⟨by omega, by omega⟩, if_pos ⟨by omega, by omega⟩, if_pos ⟨by omega, by omega⟩, ww3 (by omega), Int.toNat_natCast]
        have hB := h1 j (by omega)
        refine ih j _ (by omega) (by omega) ?_ (fun i hi => ?_) (fun i hi him => ?_) (fun i hi him => ?_)
        · simp [aw_up]; exact h0
        · have e1 : ¬ i = j + 1 := by omega
          simp [aw_up, e1]
          exact h1 i (by omega)
        · by_cases e : i = j
          · subst e
            simp [aw_up]
            exact hB
          · have e1 : ¬ i = j := e
            simp [aw_up, e1]
            exact h2 i (by omega) him
        · by_cases e : i = j
          · subst e
            rw [← hB.2]
            omega
          · exact h3 i (by omega) him
theorem x_Order_enter_27_ok (N : Nat) (hN : 10 ≤ N) {w : aw_W} {n m : Nat} {al : Nat → Bool} {sc : Nat → Int} {F : Nat → Nat} (h : ordR w n al sc m F) (hn : n < 6) (hal : al n = true) :
    ∃ w' F', x_Order_enter_27 N (n : Int) (sc n) w = some w' ∧ ordR w' (n + 1) al sc (m + 1) F' := by
  obtain ⟨h0, h1, h2, h3, h4⟩ := h
  obtain ⟨w', q, e, g1, g2, g3, g4, g5, g6, g7, g8⟩ := x_Order_enter_27_loop N (x := (n : Int)) (p := sc n) (m := m) (by omega) (fun i => (F i : Int)) (fun i => sc (F i)) N m w (by omega) (Nat.le_refl _) h0 (fun i hi => ⟨(h2 i hi).2.2.1, (h2 i hi).2.2.2⟩) (fun i hi him => absurd him (by omega)) (fun i hi him => absurd him (by omega))
  refine ⟨w', fun a => if a < q then F a else if a = q then n else F (a - 1), ?_, g2, by omega, fun a ha => ?_, fun a b hab hb => ?_, fun s hs has => ?_⟩
  · rw [x_Order_enter_27, if_pos (by omega), h0]
    exact e
  · by_cases c1 : a < q
    · simp only [c1, if_true]
      exact ⟨by have := (h2 a (by omega)).1; omega, (h2 a (by omega)).2.1, (g3 a c1).1, (g3 a c1).2⟩
    · by_cases c2 : a = q
      · subst c2
        simp only [c1, if_false, if_true]
        exact ⟨by omega, hal, g4, g5⟩
      · simp only [c1, c2, if_false]
        obtain ⟨b, rfl⟩ : ∃ b, a = b + 1 := ⟨a - 1, by omega⟩
        have := g6 b (by omega) (by omega)
        exact ⟨by have := (h2 b (by omega)).1; simp; omega, (h2 b (by omega)).2.1, this.1, this.2⟩
  · -- sorted
    have low : ∀ a, a < q → sc n ≤ sc (F a) := by
      intro a ha
      have h8 := g8 (by omega)
      by_cases c : a = q - 1
      · subst c; exact h8
      · have := bf_iff.mp (h3 a (q - 1) (by omega) (by omega))
        rcases this with t | t
        · have h9 : sc n ≤ sc (F (q - 1)) := h8
          omega
        · rw [t.1]; exact h8
    by_cases c1 : b < q
    · have c0 : a < q := by omega
      simp only [c0, c1, if_true]
      exact h3 a b hab (by omega)
    · by_cases c2 : b = q
      · subst c2
        have c0 : a < b := hab
        simp only [c0, c1, if_true, if_false]
        rw [bf_iff]
        have t1 := low a c0
        have t2 := (h2 a (by omega)).1
        by_cases t3 : sc n < sc (F a)
        · exact Or.inl t3
        · exact Or.inr ⟨by omega, t2⟩
      · simp only [c1, c2, if_false]
        obtain ⟨b, rfl⟩ : ∃ d, b = d + 1 := ⟨b - 1, by omega⟩
        simp only [Nat.add_sub_cancel]
        by_cases d1 : a < q
        · simp only [d1, if_true]
          exact h3 a b (by omega) (by omega)
        · by_cases d2 : a = q
          · subst d2
            simp only [d1, if_false, if_true]
            rw [bf_iff]
            exact Or.inl (g7 b (by omega) (by omega))
          · simp only [d1, d2, if_false]
            exact h3 (a - 1) b (by omega) (by omega)
  · by_cases c : s = n
    · subst c
      exact ⟨q, by omega, by simp⟩
    · obtain ⟨a, ha, hF⟩ := h4 s (by omega) has
      by_cases c1 : a < q
      · exact ⟨a, by omega, by simp [c1, hF]⟩
      · refine ⟨a + 1, by omega, ?_⟩
        have c2 : ¬ a + 1 < q := by omega
        have c3 : ¬ a + 1 = q := by omega
        simp [c2, c3, hF]
