/-! ===== pure: who is first, as bits ===== -/
def bits (p : Nat → Bool) : Nat → Nat
  | 0 => 0
  | n + 1 => bits p n ||| (if p n then 2 ^ n else 0)
theorem bits_lt (p : Nat → Bool) : ∀ n, bits p n < 2 ^ n
  | 0 => by show 0 < 1; decide
  | n + 1 => by
    have h := bits_lt p n
    show bits p n ||| (if p n then 2 ^ n else 0) < _
    refine Nat.or_lt_two_pow (Nat.lt_trans h (Nat.pow_lt_pow_right (by decide) (Nat.lt_succ_self n))) ?_
    split
    · exact Nat.pow_lt_pow_right (by decide) (Nat.lt_succ_self n)
    · exact Nat.two_pow_pos _
theorem bits_at (p : Nat → Bool) (j : Nat) : ∀ n, (bits p n).testBit j = (decide (j < n) && p j)
  | 0 => by simp [bits]
  | n + 1 => by
    show (bits p n ||| (if p n then 2 ^ n else 0)).testBit j = _
    rw [Nat.testBit_or, bits_at p j n]
    by_cases e : j = n
    · subst e
      cases hp : p j <;> simp [hp]
    · cases hp : p n
      · simp
        have : (decide (j < n + 1)) = decide (j < n) := by simp; omega
        rw [this]
      · have h1 : (decide (j < n + 1)) = decide (j < n) := by simp; omega
        rw [h1]
        simp [Nat.testBit_two_pow]
        intro q
        omega
theorem bits_64 (p : Nat → Bool) {n : Nat} (h : n ≤ 6) : bits p n < 64 := Nat.lt_of_lt_of_le (bits_lt p n) (Nat.pow_le_pow_right (n := 2) (by decide) h)
theorem bits_cong {p q : Nat → Bool} : ∀ {n : Nat}, (∀ k, k < n → p k = q k) → bits p n = bits q n
  | 0, _ => rfl
  | n + 1, h => by
    show bits p n ||| _ = bits q n ||| _
    rw [bits_cong (fun k hk => h k (by omega)), h n (by omega)]
def fst (ti : Int) (al : Nat → Bool) (sc : Nat → Int) (n s : Nat) : Bool := al s && decide (ct (fun k => ahd ti al sc k s) n = 0)
section MF
variable {N : Nat} {w : aw_W} {n : Nat} {al : Nat → Bool} {sc : Nat → Int} {ti pl : Int}
theorem mj_firsts_l (hN : 10 ≤ N) (h : mst w n al sc ti pl) : ∀ (f s : Nat), n - s < f → s ≤ n → m_firsts_4 N f (bits (fst ti al sc n) s : Int) s w = some ((bits (fst ti al sc n) n : Int), w) := by
  intro f
  induction f with
  | zero => intro s hs; omega
  | succ f ih =>
    intro s hs hsn
    have hn6 := h.2.1
    rw [m_firsts_4, h.1]
    by_cases c : (n : Int) ≤ (s : Int)
    · rw [if_pos c]
      have : s = n := by omega
      subst this
      rfl
    · rw [if_neg c, if_pos ⟨by omega, by omega⟩, Int.toNat_natCast, (h.2.2.1 s (by omega)).1]
      have hi := ih (s + 1) (by omega) (by omega)
      have h64 := bits_64 (fst ti al sc n) (show s ≤ 6 by omega)
      have no : fst ti al sc n s = false → m_firsts_36 N (m_firsts_4 N f) s (bits (fst ti al sc n) s : Int) w = some ((bits (fst ti al sc n) n : Int), w) := by
        intro e
        rw [m_firsts_36, m_firsts_37, bt_or0 _ h64, ww1 (by omega)]
        have : bits (fst ti al sc n) (s + 1) = bits (fst ti al sc n) s := by
          show bits (fst ti al sc n) s ||| _ = _
          rw [e]
          simp
        rw [← this]
        exact hi
      cases hal : al s with
      | false =>
        rw [if_neg (by decide)]
        exact no (by unfold fst; rw [hal]; rfl)
      | true =>
        rw [if_pos (by rfl), mj_aheadOf hN h (by omega)]
        show (if (ct (fun k => ahd ti al sc k s) n : Int) = 0 then _ else _) = _
        by_cases hr : ct (fun k => ahd ti al sc k s) n = 0
        · rw [if_pos (by omega), m_firsts_37, bt_or _ h64 _ (by omega), ww1 (by omega)]
          have : bits (fst ti al sc n) (s + 1) = bits (fst ti al sc n) s ||| 2 ^ s := by
            show bits (fst ti al sc n) s ||| _ = _
            rw [show fst ti al sc n s = true by unfold fst; rw [hal, hr]; rfl]
            rfl
          rw [← this]
          exact hi
        · rw [if_neg (by omega)]
          exact no (by unfold fst; rw [hal]; simp [hr])
theorem mj_firsts (hN : 10 ≤ N) (h : mst w n al sc ti pl) : m_firsts N w = some ((bits (fst ti al sc n) n : Int), w) := by
  rw [m_firsts]
  have := h.2.1
  exact mj_firsts_l hN h N 0 (by omega) (by omega)
end MF
/-! the class's order -/
theorem ord_en {w : aw_W} {n m : Nat} {al : Nat → Bool} {sc : Nat → Int} {F : Nat → Nat} (h : ord w n al sc m F) : en n al sc m F := ⟨h.2.1, fun a ha => ⟨(h.2.2.1 a ha).1, (h.2.2.1 a ha).2.1⟩, h.2.2.2.1, h.2.2.2.2⟩
theorem ordR_en {w : aw_W} {n m : Nat} {al : Nat → Bool} {sc : Nat → Int} {F : Nat → Nat} (h : ordR w n al sc m F) : en n al sc m F := ⟨h.2.1, fun a ha => ⟨(h.2.2.1 a ha).1, (h.2.2.1 a ha).2.1⟩, h.2.2.2.1, h.2.2.2.2⟩
theorem hold_in {pl ti : Int} {sc : Nat → Int} {m : Nat} {F : Nat → Nat} (h1 : 1 ≤ pl) (c : pl - 1 < (m : Int)) : hold pl ti sc m F = if ti = 1 ∧ ((0 < (pl - 1).toNat ∧ sc (F ((pl - 1).toNat - 1)) = sc (F (pl - 1).toNat)) ∨ ((pl - 1).toNat + 1 < m ∧ sc (F (pl - 1).toNat) = sc (F ((pl - 1).toNat + 1)))) then -1 else (F (pl - 1).toNat : Int) := by
  unfold hold
  rw [if_neg (by omega)]
theorem hold_out {pl ti : Int} {sc : Nat → Int} {m : Nat} {F : Nat → Nat} (c : (m : Int) ≤ pl - 1) : hold pl ti sc m F = -1 := by
  unfold hold
  rw [if_pos (Or.inr c)]
section XO
variable {N : Nat} {w : aw_W} {n m : Nat} {al : Nat → Bool} {sc : Nat → Int} {F : Nat → Nat} {ti pl : Int}
theorem xo_alike (h : ord w n al sc m F) (hn : n ≤ 6) {a b : Int} (ha : a < m) (hb : 0 ≤ b) : x_Order_alike N a b w = some (b2i (decide (0 ≤ a) && decide (b < m) && decide (sc (F a.toNat) = sc (F b.toNat))), w) := by
  obtain ⟨h0, h1, h2, h3, h4⟩ := h
  rw [x_Order_alike]
  by_cases c1 : a < 0
  · have : ¬ 0 ≤ a := by omega
    rw [if_pos c1]
    simp [x_Order_alike_31, x_Order_alike_32, b2i, this]
  · rw [if_neg c1, h0]
    by_cases c2 : (m : Int) ≤ b
    · have : ¬ b < m := by omega
      rw [if_pos c2]
      simp [x_Order_alike_31, x_Order_alike_32, b2i, this]
    · rw [if_neg c2, if_pos ⟨by omega, by omega⟩, if_pos ⟨by omega, by omega⟩, (h2 a.toNat (by omega)).2.2.2, (h2 b.toNat (by omega)).2.2.2]
      have c3 : 0 ≤ a := by omega
      have c4 : b < m := by omega
      by_cases c : sc (F a.toNat) = sc (F b.toNat)
      · rw [if_pos c]
        simp [x_Order_alike_32, b2i, c, c3, c4]
      · rw [if_neg c]
        simp [x_Order_alike_31, x_Order_alike_32, b2i, c]
theorem xo_holder (h : ord w n al sc m F) (hn : n ≤ 6) (h1 : 1 ≤ pl) (h2 : pl ≤ 6) (hti : ti = 0 ∨ ti = 1) : x_Order_holder N pl ti w = some (hold pl ti sc m F, w) := by
  have hm := h.2.1
  have h0 := h.1
  rw [x_Order_holder, ww (by omega) (by omega), if_neg (by omega), h0]
  by_cases c : pl - 1 < (m : Int)
  · rw [if_pos c]
    have hF := h.2.2.1 (pl - 1).toNat (by omega)
    have fin : x_Order_holder_49 N (pl - 1) w = some ((F (pl - 1).toNat : Int), w) := by
      rw [x_Order_holder_49, if_pos ⟨by omega, by omega⟩, hF.2.2.1, x_Order_holder_55]
    rcases hti with rfl | rfl
    · rw [if_neg (by decide), fin, hold_in h1 c, if_neg (by simp)]
    · rw [if_pos rfl, ww (by omega) (by omega), xo_alike h hn (by omega) (by omega)]
      show (if b2i _ = 0 then _ else _) = _
      have t1 : (pl - 1 - 1).toNat = (pl - 1).toNat - 1 := by omega
      have t2 : (pl - 1 + 1).toNat = (pl - 1).toNat + 1 := by omega
      by_cases q1 : 0 < (pl - 1).toNat ∧ sc (F ((pl - 1).toNat - 1)) = sc (F (pl - 1).toNat)
      · have u1 : 0 ≤ pl - 1 - 1 := by omega
        have z0 : ¬ b2i (decide (0 ≤ pl - 1 - 1) && decide (pl - 1 < (m : Int)) && decide (sc (F (pl - 1 - 1).toNat) = sc (F (pl - 1).toNat))) = 0 := by
          rw [t1]
          simp only [b2i, u1, c, q1.2, decide_true, Bool.and_self, if_true]
          decide
        rw [if_neg z0, x_Order_holder_45, x_Order_holder_55, hold_in h1 c, if_pos ⟨rfl, Or.inl q1⟩]
      · have z1 : b2i (decide (0 ≤ pl - 1 - 1) && decide (pl - 1 < (m : Int)) && decide (sc (F (pl - 1 - 1).toNat) = sc (F (pl - 1).toNat))) = 0 := by
          rw [t1]
          by_cases u2 : 0 ≤ pl - 1 - 1
          · have u3 : ¬ sc (F ((pl - 1).toNat - 1)) = sc (F (pl - 1).toNat) := fun z => q1 ⟨by omega, z⟩
            simp only [b2i, u3, decide_false, Bool.and_false]
            rfl
          · simp only [b2i, u2, decide_false, Bool.false_and]
            rfl
        rw [if_pos z1, ww (by omega) (by omega), xo_alike h hn (by omega) (by omega)]
        show (if b2i _ = 0 then _ else _) = _
        by_cases q2 : (pl - 1).toNat + 1 < m ∧ sc (F (pl - 1).toNat) = sc (F ((pl - 1).toNat + 1))
        · have u1 : 0 ≤ pl - 1 := by omega
          have u2 : pl - 1 + 1 < m := by omega
          have z2 : ¬ b2i (decide (0 ≤ pl - 1) && decide (pl - 1 + 1 < (m : Int)) && decide (sc (F (pl - 1).toNat) = sc (F (pl - 1 + 1).toNat))) = 0 := by
            rw [t2]
            simp only [b2i, u1, u2, q2.2, decide_true, Bool.and_self, if_true]
            decide
          rw [if_neg z2, x_Order_holder_45, x_Order_holder_55, hold_in h1 c, if_pos ⟨rfl, Or.inr q2⟩]
        · have z2 : b2i (decide (0 ≤ pl - 1) && decide (pl - 1 + 1 < (m : Int)) && decide (sc (F (pl - 1).toNat) = sc (F (pl - 1 + 1).toNat))) = 0 := by
            rw [t2]
            by_cases u2 : pl - 1 + 1 < m
            · have u3 : ¬ sc (F (pl - 1).toNat) = sc (F ((pl - 1).toNat + 1)) := fun z => q2 ⟨by omega, z⟩
              simp only [b2i, u3, decide_false, Bool.and_false]
              rfl
            · simp only [b2i, u2, decide_false, Bool.and_false, Bool.false_and]
              rfl
          rw [if_pos z2, fin, hold_in h1 c, if_neg]
          rintro ⟨-, q | q⟩
          · exact q1 q
          · exact q2 q
  · rw [if_neg c, hold_out (by omega), x_Order_holder_16]
end XO
section XOR
variable {N : Nat} {w : aw_W} {n m : Nat} {al : Nat → Bool} {sc : Nat → Int} {F : Nat → Nat} {ti pl : Int}
theorem xoR_alike (h : ordR w n al sc m F) (hn : n ≤ 6) {a b : Int} (ha : a < m) (hb : 0 ≤ b) : x_Order_alike_27 N a b w = some (b2i (decide (0 ≤ a) && decide (b < m) && decide (sc (F a.toNat) = sc (F b.toNat))), w) := by
  obtain ⟨h0, h1, h2, h3, h4⟩ := h
  rw [x_Order_alike_27]
  by_cases c1 : a < 0
  · have : ¬ 0 ≤ a := by omega
    rw [if_pos c1]
    simp [x_Order_alike_27_31, x_Order_alike_27_32, b2i, this]
  · rw [if_neg c1, h0]
    by_cases c2 : (m : Int) ≤ b
    · have : ¬ b < m := by omega
      rw [if_pos c2]
      simp [x_Order_alike_27_31, x_Order_alike_27_32, b2i, this]
    · rw [if_neg c2, if_pos ⟨by omega, by omega⟩, if_pos ⟨by omega, by omega⟩, (h2 a.toNat (by omega)).2.2.2, (h2 b.toNat (by omega)).2.2.2]
      have c3 : 0 ≤ a := by omega
      have c4 : b < m := by omega
      by_cases c : sc (F a.toNat) = sc (F b.toNat)
      · rw [if_pos c]
        simp [x_Order_alike_27_32, b2i, c, c3, c4]
      · rw [if_neg c]
        simp [x_Order_alike_27_31, x_Order_alike_27_32, b2i, c]
theorem xoR_holder (h : ordR w n al sc m F) (hn : n ≤ 6) (h1 : 1 ≤ pl) (h2 : pl ≤ 6) (hti : ti = 0 ∨ ti = 1) : x_Order_holder_27 N pl ti w = some (hold pl ti sc m F, w) := by
  have hm := h.2.1
  have h0 := h.1
  rw [x_Order_holder_27, ww (by omega) (by omega), if_neg (by omega), h0]
  by_cases c : pl - 1 < (m : Int)
  · rw [if_pos c]
    have hF := h.2.2.1 (pl - 1).toNat (by omega)
    have fin : x_Order_holder_27_49 N (pl - 1) w = some ((F (pl - 1).toNat : Int), w) := by
      rw [x_Order_holder_27_49, if_pos ⟨by omega, by omega⟩, hF.2.2.1, x_Order_holder_27_55]
    rcases hti with rfl | rfl
    · rw [if_neg (by decide), fin, hold_in h1 c, if_neg (by simp)]
    · rw [if_pos rfl, ww (by omega) (by omega), xoR_alike h hn (by omega) (by omega)]
      show (if b2i _ = 0 then _ else _) = _
      have t1 : (pl - 1 - 1).toNat = (pl - 1).toNat - 1 := by omega
      have t2 : (pl - 1 + 1).toNat = (pl - 1).toNat + 1 := by omega
      by_cases q1 : 0 < (pl - 1).toNat ∧ sc (F ((pl - 1).toNat - 1)) = sc (F (pl - 1).toNat)
      · have u1 : 0 ≤ pl - 1 - 1 := by omega
        have z0 : ¬ b2i (decide (0 ≤ pl - 1 - 1) && decide (pl - 1 < (m : Int)) && decide (sc (F (pl - 1 - 1).toNat) = sc (F (pl - 1).toNat))) = 0 := by
          rw [t1]
          simp only [b2i, u1, c, q1.2, decide_true, Bool.and_self, if_true]
          decide
        rw [if_neg z0, x_Order_holder_27_45, x_Order_holder_27_55, hold_in h1 c, if_pos ⟨rfl, Or.inl q1⟩]
      · have z1 : b2i (decide (0 ≤ pl - 1 - 1) && decide (pl - 1 < (m : Int)) && decide (sc (F (pl - 1 - 1).toNat) = sc (F (pl - 1).toNat))) = 0 := by
          rw [t1]
          by_cases u2 : 0 ≤ pl - 1 - 1
          · have u3 : ¬ sc (F ((pl - 1).toNat - 1)) = sc (F (pl - 1).toNat) := fun z => q1 ⟨by omega, z⟩
            simp only [b2i, u3, decide_false, Bool.and_false]
            rfl
          · simp only [b2i, u2, decide_false, Bool.false_and]
            rfl
        rw [if_pos z1, ww (by omega) (by omega), xoR_alike h hn (by omega) (by omega)]
        show (if b2i _ = 0 then _ else _) = _
        by_cases q2 : (pl - 1).toNat + 1 < m ∧ sc (F (pl - 1).toNat) = sc (F ((pl - 1).toNat + 1))
        · have u1 : 0 ≤ pl - 1 := by omega
          have u2 : pl - 1 + 1 < m := by omega
          have z2 : ¬ b2i (decide (0 ≤ pl - 1) && decide (pl - 1 + 1 < (m : Int)) && decide (sc (F (pl - 1).toNat) = sc (F (pl - 1 + 1).toNat))) = 0 := by
            rw [t2]
            simp only [b2i, u1, u2, q2.2, decide_true, Bool.and_self, if_true]
            decide
          rw [if_neg z2, x_Order_holder_27_45, x_Order_holder_27_55, hold_in h1 c, if_pos ⟨rfl, Or.inr q2⟩]
        · have z2 : b2i (decide (0 ≤ pl - 1) && decide (pl - 1 + 1 < (m : Int)) && decide (sc (F (pl - 1).toNat) = sc (F (pl - 1 + 1).toNat))) = 0 := by
            rw [t2]
            by_cases u2 : pl - 1 + 1 < m
            · have u3 : ¬ sc (F (pl - 1).toNat) = sc (F ((pl - 1).toNat + 1)) := fun z => q2 ⟨by omega, z⟩
              simp only [b2i, u3, decide_false, Bool.and_false]
              rfl
            · simp only [b2i, u2, decide_false, Bool.and_false, Bool.false_and]
              rfl
          rw [if_pos z2, fin, hold_in h1 c, if_neg]
          rintro ⟨-, q | q⟩
          · exact q1 q
          · exact q2 q
  · rw [if_neg c, hold_out (by omega), x_Order_holder_27_16]
end XOR
