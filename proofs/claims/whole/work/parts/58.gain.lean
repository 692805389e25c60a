/-! ===== pure: gains, takings ===== -/
theorem en_ex (al : Nat → Bool) (sc : Nat → Int) : ∀ n, n ≤ 6 → ∃ (m : Nat) (F : Nat → Nat), en n al sc m F := by
  have key : ∀ n, n ≤ 6 → ∃ (w : aw_W) (m : Nat) (F : Nat → Nat), ord w n al sc m F := by
    intro n
    induction n with
    | zero => intro _; exact ⟨fun _ _ => 0, 0, fun _ => 0, rfl, Nat.le_refl _, fun a ha => absurd ha (Nat.not_lt_zero _), fun a b _ hb => absurd hb (Nat.not_lt_zero _), fun s hs => absurd hs (Nat.not_lt_zero _)⟩
    | succ n ih =>
      intro hn
      obtain ⟨w, m, F, h⟩ := ih (by omega)
      cases e : al n with
      | true =>
        obtain ⟨w', F', -, h'⟩ := x_Order_enter_ok 10 (Nat.le_refl _) h (by omega) e
        exact ⟨w', m + 1, F', h'⟩
      | false =>
        obtain ⟨h0, h1, h2, h3, h4⟩ := h
        refine ⟨w, m, F, h0, by omega, fun a ha => ⟨by have := (h2 a ha).1; omega, (h2 a ha).2⟩, h3, fun s hs has => ?_⟩
        by_cases q : s = n
        · subst q
          rw [e] at has
          cases has
        · exact h4 s (by omega) has
  intro n hn
  obtain ⟨w, m, F, h⟩ := key n hn
  exact ⟨m, F, ord_en h⟩
theorem Pr_bd {pd : Int} {n : Nat} {b : Nat → Int} (hb : bd n b) {s : Nat} (hs : s < n) : 0 ≤ Pr pd alT b n s ∧ Pr pd alT b n s ≤ 9 := by
  unfold Pr
  have h0 := hb s hs
  split
  · exact h0
  · split
    · cases e : (List.range n).find? (fun k => alT k && (rk alT b n k + 1 == rk alT b n s)) with
      | none => exact h0
      | some k => exact hb k (List.mem_range.mp (List.mem_of_find?_eq_some e))
    · cases e : (List.range n).find? (fun k => alT k && (rk alT b n k == rk alT b n s + 1)) with
      | none => show (0 : Int) ≤ 0 ∧ (0 : Int) ≤ 9; decide
      | some k => exact hb k (List.mem_range.mp (List.mem_of_find?_eq_some e))
/-- GAIN of s by the row b -/
def Gn (pl ti pd fe wt : Int) (b : Nat → Int) (n s : Nat) : Int := (if Hd pl ti alT b n = s then wt - Pr pd alT b n s else 0) - (if fst ti alT b n s then fe else 0)
/-- all that is paid, with fees -/
def Tk (pl ti pd fe : Int) (b : Nat → Int) (n : Nat) : Int := Pd pl ti pd b n + fe * pop (Fb ti b n)
theorem Gn_bd {pl ti pd fe wt : Int} {b : Nat → Int} {n s : Nat} (hb : bd n b) (hs : s < n) (hw : 0 ≤ wt ∧ wt ≤ 99) (hf : 0 ≤ fe ∧ fe ≤ 99) : -108 ≤ Gn pl ti pd fe wt b n s ∧ Gn pl ti pd fe wt b n s ≤ 99 := by
  have := Pr_bd (pd := pd) hb hs
  unfold Gn
  split <;> split <;> omega
theorem Pd_bd {pl ti pd : Int} {b : Nat → Int} {n : Nat} (hb : bd n b) : 0 ≤ Pd pl ti pd b n ∧ Pd pl ti pd b n ≤ 9 := by
  unfold Pd
  split
  · decide
  · next c =>
    rcases Hd_range (pl := pl) (ti := ti) (n := n) (al := alT) (sc := b) with h | ⟨s, h1, h2, -⟩
    · exact absurd h c
    · rw [h2, Int.toNat_natCast]
      exact Pr_bd hb h1
theorem Pd_at {pl ti pd : Int} {b : Nat → Int} {n s : Nat} (h : Hd pl ti alT b n = s) : Pd pl ti pd b n = Pr pd alT b n s := by
  unfold Pd
  rw [h, if_neg (by omega), Int.toNat_natCast]
/-- a land's items stand in a cell: worths in 0 .. 99 -/
def itB (w : aw_W) (c n : Nat) : Prop := ∀ s, s < n → (1 ≤ w c (4 * s) ∧ w c (4 * s) ≤ 9) ∧ (0 ≤ w c (4 * s + 1) ∧ w c (4 * s + 1) ≤ 99) ∧ (0 ≤ w c (4 * s + 2) ∧ w c (4 * s + 2) ≤ 4) ∧ (0 ≤ w c (4 * s + 3) ∧ w c (4 * s + 3) ≤ 9)
section GA
variable {N : Nat} {w : aw_W} {n : Nat} {b : Nat → Int}
theorem xl_holds {x : Int} : x_Land_holds N x w = some (b2i (decide (0 ≤ x) && decide (x < w 3 4)), w) := by
  rw [x_Land_holds]
  by_cases c : x < 0
  · have : ¬ 0 ≤ x := by omega
    rw [if_pos c]
    simp [x_Land_holds_16, x_Land_holds_17, b2i, this]
  · rw [if_neg c]
    by_cases c2 : w 3 4 ≤ x
    · have : ¬ x < w 3 4 := by omega
      rw [if_pos c2]
      simp [x_Land_holds_16, x_Land_holds_17, b2i, this]
    · have h1 : 0 ≤ x := by omega
      have h2 : x < w 3 4 := by omega
      rw [if_neg c2]
      simp [x_Land_holds_17, b2i, h1, h2]
theorem xl_item (h0 : w 3 4 = n) (hn : n ≤ 6) {s k : Nat} (hs : s < n) (hk : k < 4) : x_Land_item N s k w = some (w 4 (4 * s + k), w) := by
  have h1 : (0 : Int) ≤ s := by omega
  have h2 : (s : Int) < w 3 4 := by omega
  rw [x_Land_item, xl_holds, b2_some, if_neg (by simp [b2i, h1, h2]), if_neg (by omega), if_neg (by omega), ww (x := (s : Int) * 4) (by omega) (by omega), ww (by omega) (by omega), if_pos ⟨by omega, by omega⟩, x_Land_item_31, show ((s : Int) * 4 + (k : Int)).toNat = 4 * s + k by omega]
theorem fst_bit {ti : Int} (hn : n ≤ 6) {s : Nat} (hs : s < n) : aw_and (aw_shr (Fb ti b n : Int) (s : Int)) 1 = if fst ti alT b n s then 1 else 0 := by
  have h64 : Fb ti b n < 64 := bits_64 _ hn
  rw [bt_has _ h64 s (by omega)]
  unfold Fb
  rw [bits_at]
  have : decide (s < n) = true := decide_eq_true hs
  rw [this, Bool.true_and]
theorem xg_gainOf (h : xs w n b) (hd : sd w n b) (hb : bd n b) (hi : itB w 4 n) {s : Nat} (hs : s < n) : x_Sale_gainOf N s w = some (Gn (w 5 0) (w 5 1) (w 5 2) (w 5 3) (w 4 (4 * s + 1)) b n s, w) := by
  obtain ⟨h0, h1, h2, ⟨l0, l1, l2, l3, l4⟩, h4⟩ := id h
  obtain ⟨d3, d4, d5, d6⟩ := hd
  have hw := (hi s hs).2.1
  have hp := Pr_bd (pd := w 5 2) hb hs
  have fee : ∀ x : Int, -1000 ≤ x → x ≤ 1000 → x_Sale_gainOf_26 N s x w = some (x - (if fst (w 5 1) alT b n s then w 5 3 else 0), w) := by
    intro x hx1 hx2
    rw [x_Sale_gainOf_26, d5, fst_bit h2 hs]
    cases e : fst (w 5 1) alT b n s with
    | true => simp [x_Sale_gainOf_53]; rw [ww (by omega) (by omega)]
    | false => simp [x_Sale_gainOf_53]
  rw [x_Sale_gainOf, d3]
  unfold Gn
  by_cases c : Hd (w 5 0) (w 5 1) alT b n = (s : Int)
  · rw [if_pos c, if_pos c]
    have := xl_item (N := N) (k := 1) h0 h2 hs (by decide)
    rw [show ((1 : Nat) : Int) = 1 from rfl] at this
    rw [this, b2_some, d4, Pd_at c, ww (by omega) (by omega)]
    exact fee _ (by omega) (by omega)
  · rw [if_neg c, if_neg c]
    exact fee 0 (by omega) (by omega)
theorem xg_takings (h : xs w n b) (hd : sd w n b) (hb : bd n b) : x_Sale_takings N w = some (Tk (w 5 0) (w 5 1) (w 5 2) (w 5 3) b n, w) := by
  obtain ⟨h0, h1, h2, ⟨l0, l1, l2, l3, l4⟩, h4⟩ := id h
  obtain ⟨d3, d4, d5, d6⟩ := hd
  have h64 : Fb (w 5 1) b n < 64 := bits_64 _ h2
  have hp := Pd_bd (pl := w 5 0) (ti := w 5 1) (pd := w 5 2) hb
  have hq := pop_rng _ h64
  have hm : 0 ≤ w 5 3 * pop (Fb (w 5 1) b n) ∧ w 5 3 * pop (Fb (w 5 1) b n) ≤ 99 * 6 := ⟨Int.mul_nonneg l3.1 hq.1, Int.mul_le_mul l3.2 hq.2 hq.1 (by decide)⟩
  rw [x_Sale_takings, d5, bc_ok N h64, b2_some, d4, ww (x := w 5 3 * pop (Fb (w 5 1) b n)) (by omega) (by omega), ww (by omega) (by omega)]
  rfl
theorem mg_gainOf (hN : 10 ≤ N) (h : ms w n b) (hb : bd n b) (hi : itB w 54 n) {s : Nat} (hs : s < n) : ∃ w', m_gainOf N s w = some (Gn (w 56 0) (w 56 1) (w 56 2) (w 56 3) (w 54 (4 * s + 1)) b n s, w') ∧ ms w' n b ∧ fr_ S_m_gainOf w w' := by
  have key : ∃ w', m_gainOf N s w = some (Gn (w 56 0) (w 56 1) (w 56 2) (w 56 3) (w 54 (4 * s + 1)) b n s, w') ∧ ms w' n b := by
    obtain ⟨w1, e1, m1, t1, f1⟩ := mj_judge (N := N) hN h
    obtain ⟨h0, h1, h2, ⟨l0, l1, l2, l3, l4⟩, h4⟩ := id m1
    obtain ⟨m, F, he⟩ := en_ex alT b n h2
    have hw := (hi s hs).2.1
    have hp := Pr_bd (pd := w1 56 2) hb hs
    have r56 : ∀ k, w1 56 k = w 56 k := fun k => f1 56 k rfl
    have r54 : ∀ k, w1 54 k = w 54 k := fun k => f1 54 k rfl
    have fee : ∀ x : Int, -1000 ≤ x → x ≤ 1000 → m_gainOf_32 N s x w1 = some (x - (if fst (w 56 1) alT b n s then w 56 3 else 0), w1) := by
      intro x hx1 hx2
      have hbit := fst_bit (b := b) (ti := w 56 1) h2 hs
      rw [m_gainOf_32, mj_firsts hN t1, b2_some]
      change aw_b2 (m_has N ((Fb (w 56 1) b n : Nat) : Int) (s : Int) w1) _ = _
      rw [m_has, hbit]
      have r3 := r56 3
      cases e : fst (w 56 1) alT b n s with
      | true =>
        simp only [if_true]
        rw [m_has_14, if_pos (Or.inr rfl), b2_some, if_neg (by decide), m_gainOf_53, r3, ww (by omega) (by omega)]
      | false =>
        rw [if_neg (by decide), m_has_14, if_pos (Or.inl rfl), b2_some, if_pos rfl, m_gainOf_53, ww (by omega) (by omega)]
        simp
    refine ⟨w1, ?_, m1⟩
    rw [m_gainOf, e1, b1_some, mj_winner hN t1 he, b2_some, hold_Hd he h.2.2.2.1.2.1]
    unfold Gn
    by_cases c : Hd (w 56 0) (w 56 1) alT b n = (s : Int)
    · rw [if_pos c, if_pos c, ww (x := 4 * (s : Int)) (by omega) (by omega), ww (x := 4 * (s : Int) + 1) (by omega) (by omega), if_pos ⟨by omega, by omega⟩, mj_paidBy hN m1 he hs, b2_some, show (4 * (s : Int) + 1).toNat = 4 * s + 1 by omega, r54]
      rw [ww (by omega) (by omega), r56 2]
      rw [r56 2] at hp
      exact fee _ (by omega) (by omega)
    · rw [if_neg c, if_neg c]
      exact fee 0 (by omega) (by omega)
  obtain ⟨w', e, m⟩ := key
  exact ⟨w', e, m, f_m_gainOf N _ _ _ _ e⟩
theorem mg_allPaid (hN : 10 ≤ N) (h : ms w n b) (hb : bd n b) : ∃ w', m_allPaid N w = some (Tk (w 56 0) (w 56 1) (w 56 2) (w 56 3) b n, w') ∧ ms w' n b ∧ fr_ S_m_allPaid w w' := by
  have key : ∃ w', m_allPaid N w = some (Tk (w 56 0) (w 56 1) (w 56 2) (w 56 3) b n, w') ∧ ms w' n b := by
    obtain ⟨w1, e1, m1, t1, f1⟩ := mj_judge (N := N) hN h
    obtain ⟨h0, h1, h2, ⟨l0, l1, l2, l3, l4⟩, h4⟩ := id m1
    obtain ⟨m, F, he⟩ := en_ex alT b n h2
    have r56 : ∀ k, w1 56 k = w 56 k := fun k => f1 56 k rfl
    have h64 : Fb (w 56 1) b n < 64 := bits_64 _ h2
    have hq := pop_rng _ h64
    have hl3 := h.2.2.2.1.2.2.2.1
    have hm : 0 ≤ w 56 3 * pop (Fb (w 56 1) b n) ∧ w 56 3 * pop (Fb (w 56 1) b n) ≤ 99 * 6 := ⟨Int.mul_nonneg hl3.1 hq.1, Int.mul_le_mul hl3.2 hq.2 hq.1 (by decide)⟩
    have fin : ∀ x : Int, 0 ≤ x → x ≤ 9 → m_allPaid_24 N x w1 = some (x + w 56 3 * pop (Fb (w 56 1) b n), w1) := by
      intro x hx1 hx2
      rw [m_allPaid_24, mj_firsts hN t1, b2_some]
      change aw_b2 (j_Int_bitCount N ((Fb (w 56 1) b n : Nat) : Int) w1) _ = _
      rw [bc_ok N h64, b2_some, r56 3, ww (x := w 56 3 * pop (Fb (w 56 1) b n)) (by omega) (by omega), ww (by omega) (by omega)]
    refine ⟨w1, ?_, m1⟩
    rw [m_allPaid, e1, b1_some, mj_winner hN t1 he, b2_some, hold_Hd he h.2.2.2.1.2.1]
    unfold Tk Pd
    by_cases c : Hd (w 56 0) (w 56 1) alT b n = -1
    · rw [if_pos c, if_pos c]
      exact fin 0 (by decide) (by decide)
    · rw [if_neg c, if_neg c, mj_winner hN t1 he, b2_some, hold_Hd he h.2.2.2.1.2.1]
      rcases Hd_range (pl := w 56 0) (ti := w 56 1) (n := n) (al := alT) (sc := b) with q | ⟨s, q1, q2, -⟩
      · exact absurd q c
      · rw [q2, mj_paidBy hN m1 he q1, b2_some, Int.toNat_natCast, r56 2]
        have hp := Pr_bd (pd := w 56 2) hb q1
        exact fin _ hp.1 hp.2
  obtain ⟨w', e, m⟩ := key
  exact ⟨w', e, m, f_m_allPaid N _ _ _ e⟩
end GA
