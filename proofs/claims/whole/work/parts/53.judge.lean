/-! ===== pure: the reference's judge ===== -/
def b2i (b : Bool) : Int := if b then 1 else 0
/-- the reference's scores: n strivers, who is not out, how many points -/
def mst (w : aw_W) (n : Nat) (al : Nat → Bool) (sc : Nat → Int) (ti pl : Int) : Prop := w 49 22 = n ∧ n ≤ 6 ∧ (∀ s, s < n → w 60 s = b2i (!(al s)) ∧ w 59 s = sc s) ∧ w 56 1 = ti ∧ (ti = 0 ∨ ti = 1) ∧ w 56 0 = pl ∧ 1 ≤ pl ∧ pl ≤ 6
section MJ
variable {N : Nat} {w : aw_W} {n : Nat} {al : Nat → Bool} {sc : Nat → Int} {ti pl : Int}
theorem mj_isAhead (h : mst w n al sc ti pl) {k s : Nat} (hk : k < n) (hs : s < n) : m_isAhead N k s w = some (b2i (ahd ti al sc k s), w) := by
  obtain ⟨h0, h1, h2, h3, h4, h5, h6, h7⟩ := h
  have a1 : (0 : Int) ≤ (k : Int) ∧ (k : Int) < 6 := by omega
  have a2 : (0 : Int) ≤ (s : Int) ∧ (s : Int) < 6 := by omega
  have k1 := h2 k hk
  have s1 := h2 s hs
  by_cases e : k = s
  · subst e
    simp [m_isAhead, m_isAhead_14, ahd, b2i]
  · have e' : ¬ (k : Int) = (s : Int) := by omega
    rw [m_isAhead, if_neg e', if_pos a1, Int.toNat_natCast, Int.toNat_natCast, k1.1]
    cases hal : al k with
    | false => simp [b2i, m_isAhead_14, ahd, hal]
    | true =>
      rw [if_pos (by rfl), if_pos a2, s1.1]
      cases hals : al s with
      | false =>
        rw [if_neg (by decide), m_isAhead_40, if_pos a2, Int.toNat_natCast, s1.1, hals, if_neg (by decide)]
        simp [m_isAhead_64, m_isAhead_69, ahd, b2i, hal, hals, e]
      | true =>
        rw [if_pos (by rfl), if_pos a1, if_pos a2, k1.2, s1.2]
        by_cases q : sc k = sc s
        · rw [if_pos q, h3]
          rcases h4 with rfl | rfl
          · rw [if_pos rfl]
            by_cases c : (s : Int) ≤ (k : Int)
            · have c' : ¬ k < s := by omega
              simp [c, m_isAhead_88, m_isAhead_89, ahd, b2i, hal, hals, e, q, c']
            · have c' : k < s := by omega
              simp [c, m_isAhead_89, ahd, b2i, hal, hals, e, q, c']
          · rw [if_neg (by decide)]
            simp [m_isAhead_88, m_isAhead_89, ahd, b2i, hal, hals, e, q]
        · rw [if_neg q, m_isAhead_40, if_pos a2, Int.toNat_natCast, s1.1, hals, if_pos (by rfl), if_pos a1, if_pos a2, Int.toNat_natCast, k1.2, s1.2]
          by_cases c : sc k ≤ sc s
          · have c' : ¬ sc s < sc k := by omega
            rw [if_pos c]
            simp [m_isAhead_69, ahd, b2i, hal, hals, e, q, c']
          · have c' : sc s < sc k := by omega
            rw [if_neg c]
            simp [m_isAhead_64, m_isAhead_69, ahd, b2i, hal, hals, e, q, c']
theorem mj_areAlike (h : mst w n al sc ti pl) {k s : Nat} (hk : k < n) (hs : s < n) : m_areAlike N k s w = some (b2i (alk ti al sc k s), w) := by
  obtain ⟨h0, h1, h2, h3, h4, h5, h6, h7⟩ := h
  have a1 : (0 : Int) ≤ (k : Int) ∧ (k : Int) < 6 := by omega
  have a2 : (0 : Int) ≤ (s : Int) ∧ (s : Int) < 6 := by omega
  have k1 := h2 k hk
  have s1 := h2 s hs
  by_cases e : k = s
  · subst e
    simp [m_areAlike, m_areAlike_52, m_areAlike_53, alk, b2i]
  · have e' : ¬ (k : Int) = (s : Int) := by omega
    rw [m_areAlike, if_neg e', if_pos a1, Int.toNat_natCast, Int.toNat_natCast, k1.1]
    cases hal : al k with
    | false => simp [b2i, m_areAlike_52, m_areAlike_53, alk, hal]
    | true =>
      rw [if_pos (by rfl), if_pos a2, s1.1]
      cases hals : al s with
      | false => simp [b2i, m_areAlike_52, m_areAlike_53, alk, hal, hals]
      | true =>
        rw [if_pos (by rfl), if_pos a1, if_pos a2, k1.2, s1.2, h3]
        by_cases q : sc k = sc s
        · rw [if_pos q]
          rcases h4 with rfl | rfl
          · simp [m_areAlike_52, m_areAlike_53, alk, b2i]
          · simp [m_areAlike_53, alk, b2i, hal, hals, e, q]
        · rw [if_neg q]
          simp [m_areAlike_52, m_areAlike_53, alk, b2i, q]
theorem mj_aheadOf_l (h : mst w n al sc ti pl) {s : Nat} (hs : s < n) : ∀ (f k : Nat), n - k < f → k ≤ n → m_aheadOf_4 N f s (ct (fun k => ahd ti al sc k s) k : Int) k w = some ((ct (fun k => ahd ti al sc k s) n : Int), w) := by
  intro f
  induction f with
  | zero => intro k hk; omega
  | succ f ih =>
    intro k hk hkn
    have hn6 := h.2.1
    have hc := ct_le (fun k => ahd ti al sc k s) k
    rw [m_aheadOf_4, h.1]
    by_cases c : (n : Int) ≤ (k : Int)
    · rw [if_pos c]
      have : k = n := by omega
      subst this
      rfl
    · rw [if_neg c, mj_isAhead h (by omega) hs]
      show (if b2i (ahd ti al sc k s) = 0 then _ else _) = _
      have hi := ih (k + 1) (by omega) (by omega)
      rw [ct_s] at hi
      cases e : ahd ti al sc k s with
      | false =>
        rw [e] at hi
        simp only [b2i]
        rw [m_aheadOf_27, ww1 (by omega)]
        simp at hi ⊢
        rw [ww (by omega) (by omega)]
        exact hi
      | true =>
        rw [e] at hi
        simp only [b2i]
        simp at hi ⊢
        rw [m_aheadOf_27, ww1 (by omega), ww (by omega) (by omega)]
        exact hi
theorem mj_aheadOf (hN : 10 ≤ N) (h : mst w n al sc ti pl) {s : Nat} (hs : s < n) : m_aheadOf N s w = some ((ct (fun k => ahd ti al sc k s) n : Int), w) := by
  rw [m_aheadOf]
  have := h.2.1
  exact mj_aheadOf_l h hs N 0 (by omega) (by omega)
/-- the inner loop: is it alone -/
theorem mj_alone (h : mst w n al sc ti pl) {s : Nat} (hs : s < n) (k2 : Int → aw_W → Option (Int × aw_W)) : ∀ (f k : Nat) (b : Bool), n - k < f → k ≤ n → m_winner_42 N k2 f s (b2i b) k w = m_winner_75 N k2 s (b2i (b && !((List.range n).any (fun j => decide (k ≤ j) && alk ti al sc j s)))) w := by
  intro f
  induction f with
  | zero => intro k b hk; omega
  | succ f ih =>
    intro k b hk hkn
    have hn6 := h.2.1
    rw [m_winner_42, h.1]
    by_cases c : (n : Int) ≤ (k : Int)
    · rw [if_pos c]
      have : (List.range n).any (fun j => decide (k ≤ j) && alk ti al sc j s) = false := by
        rw [Bool.eq_false_iff]
        intro q
        rw [List.any_eq_true] at q
        obtain ⟨j, hj, q⟩ := q
        have := List.mem_range.mp hj
        simp at q
        omega
      rw [this]
      simp
    · rw [if_neg c]
      have step : ∀ b2 : Bool, (b2 = (b && !(alk ti al sc k s))) → m_winner_68 N k2 (m_winner_42 N k2 f) s k (b2i b2) w = m_winner_75 N k2 s (b2i (b && !((List.range n).any (fun j => decide (k ≤ j) && alk ti al sc j s)))) w := by
        intro b2 hb2
        rw [m_winner_68, ww1 (by omega), ih (k + 1) b2 (by omega) (by omega)]
        congr 2
        rw [hb2, Bool.and_assoc]
        congr 1
        rw [← Bool.not_or]
        congr 1
        rw [Bool.eq_iff_iff, Bool.or_eq_true, List.any_eq_true, List.any_eq_true]
        constructor
        · rintro (q | ⟨j, hj, q⟩)
          · exact ⟨k, List.mem_range.mpr (by omega), by simp [q]⟩
          · refine ⟨j, hj, ?_⟩
            simp at q ⊢
            exact ⟨by omega, q.2⟩
        · rintro ⟨j, hj, q⟩
          simp at q
          by_cases e : j = k
          · subst e
            exact Or.inl q.2
          · refine Or.inr ⟨j, hj, ?_⟩
            simp
            exact ⟨by omega, q.2⟩
      cases b with
      | false =>
        show (if (0 : Int) = 0 then _ else _) = _
        rw [if_pos rfl, m_winner_67]
        exact step false (by simp)
      | true =>
        show (if (1 : Int) = 0 then _ else _) = _
        rw [if_neg (by decide), mj_areAlike h (by omega) hs]
        show (if b2i (alk ti al sc k s) = 0 then _ else _) = _
        cases e : alk ti al sc k s with
        | false =>
          rw [if_pos (by rfl)]
          exact step true (by rw [e]; rfl)
        | true =>
          rw [if_neg (by decide), m_winner_67]
          exact step false (by rw [e]; rfl)
theorem mj_winner_l (hN : 10 ≤ N) (h : mst w n al sc ti pl) {m : Nat} {F : Nat → Nat} (he : en n al sc m F) : ∀ (f s : Nat), n - s < f → s ≤ n → (∀ j, j < s → ¬ good pl ti al sc n j) → m_winner_2 N f s w = some (hold pl ti sc m F, w) := by
  intro f
  induction f with
  | zero => intro s hs; omega
  | succ f ih =>
    intro s hs hsn hno
    have hn6 := h.2.1
    have hti := h.2.2.2.2.1
    rw [m_winner_2, h.1]
    by_cases c : (n : Int) ≤ (s : Int)
    · rw [if_pos c, m_winner_87, hold_good he hti (fun j hj => hno j (by omega))]
    · rw [if_neg c, if_pos ⟨by omega, by omega⟩, Int.toNat_natCast, (h.2.2.1 s (by omega)).1]
      have next : ¬ good pl ti al sc n s → m_winner_81 N (m_winner_2 N f) s w = some (hold pl ti sc m F, w) := by
        intro hg
        rw [m_winner_81, ww1 (by omega)]
        refine ih (s + 1) (by omega) (by omega) (fun j hj => ?_)
        by_cases e : j = s
        · subst e; exact hg
        · exact hno j (by omega)
      cases hal : al s with
      | false =>
        rw [if_neg (by decide)]
        exact next (fun q => by have := q.1; rw [hal] at this; cases this)
      | true =>
        rw [if_pos (by rfl), mj_aheadOf hN h (by omega)]
        show (if (ct (fun k => ahd ti al sc k s) n : Int) = aw_w (w 56 0 - 1) then _ else _) = _
        obtain ⟨-, -, -, -, -, h5, h6, h7⟩ := id h
        rw [h5, ww (by omega) (by omega)]
        by_cases hr : (ct (fun k => ahd ti al sc k s) n : Int) = pl - 1
        · rw [if_pos hr]
          have := mj_alone (N := N) h (show s < n by omega) (m_winner_2 N f) N 0 true (by omega) (by omega)
          simp only [b2i] at this
          show m_winner_42 N (m_winner_2 N f) N (s : Int) 1 ((0 : Nat) : Int) w = _
          simp only [if_true] at this
          rw [this, m_winner_75]
          cases e : (List.range n).any (fun j => decide (0 ≤ j) && alk ti al sc j s) with
          | false =>
            rw [if_neg (by simp), m_winner_79]
            have hg : good pl ti al sc n s := by
              refine ⟨hal, hr, fun k hk => ?_⟩
              cases q : alk ti al sc k s with
              | false => rfl
              | true =>
                rw [Bool.eq_false_iff] at e
                exact absurd (List.any_eq_true.mpr ⟨k, List.mem_range.mpr hk, by simp [q]⟩) e
            rw [hold_some he hti (by omega) hg]
          | true =>
            rw [if_pos (by simp)]
            refine next (fun q => ?_)
            rw [List.any_eq_true] at e
            obtain ⟨j, hj, e⟩ := e
            have := q.2.2 j (List.mem_range.mp hj)
            simp [this] at e
        · rw [if_neg hr]
          exact next (fun q => hr q.2.1)
theorem mj_winner (hN : 10 ≤ N) (h : mst w n al sc ti pl) {m : Nat} {F : Nat → Nat} (he : en n al sc m F) : m_winner N w = some (hold pl ti sc m F, w) := by
  rw [m_winner]
  have := h.2.1
  exact mj_winner_l hN h he N 0 (by omega) (by omega) (fun j hj => absurd hj (Nat.not_lt_zero j))
end MJ
