/-! ===== pure: items of a clause, in the class ===== -/
section IX
variable {N : Nat} {w v : aw_W} {tp : List Nat} {p B o : Nat} {S : List (Nat × Nat)}
theorem xit4_l (hN : 200 ≤ N) {base : Nat} (hb : base + 4 ≤ 24) : ∀ (f told p : Nat) (tab : Nat → Int) (F : Nat) (w : aw_W), f < F → told < 2 ^ 4 → 5 ≤ ct told.testBit 4 + f → XP w tp p → (∀ k, k < 4 → w 8 (base + k) = tab k) → ∃ w', x_Land_readItems_1_200_201_202_8_6 N F base told (ct told.testBit 4 : Int) w = some (b2i (pit tp T4 L4 H4 4 f told p tab).1, w') ∧ XP w' tp (pit tp T4 L4 H4 4 f told p tab).2.1 ∧ (∀ k, k < 4 → w' 8 (base + k) = (pit tp T4 L4 H4 4 f told p tab).2.2 k) ∧ (∀ j, j < base → w' 8 j = w 8 j) ∧ fr_ [(1, 2), (8, 1000000)] w w' := by
  intro f
  induction f with
  | zero =>
    intro told p tab F w hF ht hc
    have := ct_le told.testBit 4
    omega
  | succ f ih =>
    intro told p tab F w hF ht hc h hw
    obtain ⟨F, rfl⟩ : ∃ g, F = g + 1 := ⟨F - 1, by omega⟩
    have hcl := ct_le told.testBit 4
    have h160 := h.1.2.1.1
    obtain ⟨w1, e1, h1, f1⟩ := X_sign (N := N) hN h
    have f1' : fr_ [(1, 2), (8, 1000000)] w w1 := fr_m rfl f1
    have hw1 : ∀ j, w1 8 j = w 8 j := fun j => f1 8 j rfl
    rw [x_Land_readItems_1_200_201_202_8_6, if_neg (by omega), e1, b2_some, X_ix4 (by omega), b2_some, pit_s]
    by_cases c1 : fi T4 (gb tp (sk tp p)) 4 0 = -1
    · rw [if_pos c1, if_pos c1]
      exact ⟨w1, rfl, h1, fun k hk => by rw [hw1]; exact hw k hk, fun j _ => hw1 j, f1'⟩
    · rw [if_neg c1, if_neg c1]
      rcases fi_r T4 (gb tp (sk tp p)) 4 0 with q | ⟨k, -, k2, k3, k4⟩
      · exact absurd q c1
      · have hkK : k < 4 := by omega
        have kpos : ∀ k : Nat, k < 4 → 1 ≤ T4.getD k 0 := by decide
        have hk1 := kpos k hkK
        have hql : sk tp p < tp.length := gb_lt rfl (by omega)
        rw [k3, Int.toNat_natCast, bt_has told (Nat.lt_of_lt_of_le ht (by decide)) k (by omega)]
        cases hbit : told.testBit k with
        | true =>
          rw [if_pos rfl, if_neg (by decide), if_pos rfl]
          exact ⟨w1, rfl, h1, fun k hk => by rw [hw1]; exact hw k hk, fun j _ => hw1 j, f1'⟩
        | false =>
          rw [if_pos (by decide), if_neg (by decide), h1.2.1, ww1 (by omega)]
          have h2 := h1.to (q := sk tp p + 1) (by omega)
          obtain ⟨w3, e3, h3, f3⟩ := X_sign (N := N) hN h2
          obtain ⟨w4, e4, h4, f4⟩ := X_number (N := N) hN h3 (D := 2) (by decide)
          have f24 : fr_ [(1, 2)] w w4 := (f1.trans ((fr_r _ _).up rfl)).trans (f3.trans f4)
          have hw4 : ∀ j, w4 8 j = w 8 j := fun j => f24 8 j rfl
          rw [e3, b2_some]
          have e4' : x_Tape_number N 2 w3 = some ((nmb tp 2 false 0 (sk tp (sk tp p + 1))).1, w4) := e4
          rw [e4', b2_some]
          by_cases c3 : (nmb tp 2 false 0 (sk tp (sk tp p + 1))).1 = -1
          · rw [if_pos c3, if_pos c3]
            exact ⟨w4, rfl, h4, fun k hk => by rw [hw4]; exact hw k hk, fun j _ => hw4 j, fr_m rfl f24⟩
          · obtain ⟨v1, v2, v3⟩ := nmb2_v c3
            have hle := h4.2.2
            have bad : ∃ w', x_Land_readItems_1_200_201_202_8_100 N w4 = some (0, w') ∧ XP w' tp ((nmb tp 2 false 0 (sk tp (sk tp p + 1))).2 - 1) ∧ (∀ k, k < 4 → w' 8 (base + k) = tab k) ∧ (∀ j, j < base → w' 8 j = w 8 j) ∧ fr_ [(1, 2), (8, 1000000)] w w' := by
              rw [x_Land_readItems_1_200_201_202_8_100, h4.2.1, ww (x := ((nmb tp 2 false 0 (sk tp (sk tp p + 1))).2 : Int) - 1) (by omega) (by omega), show ((nmb tp 2 false 0 (sk tp (sk tp p + 1))).2 : Int) - 1 = (((nmb tp 2 false 0 (sk tp (sk tp p + 1))).2 - 1 : Nat) : Int) by omega]
              exact ⟨_, rfl, h4.to (by omega), fun k hk => by rw [up_out (Or.inl (by decide)), hw4]; exact hw k hk, fun j _ => by rw [up_out (Or.inl (by decide)), hw4], (fr_m rfl f24).trans ((fr_r _ _).up rfl)⟩
            have bK : 0 ≤ (k : Int) ∧ (k : Int) < 4 := ⟨by omega, by omega⟩
            rw [if_neg c3, if_neg c3, if_pos bK, if_pos bK, show (List.getD [1, 0, 0, 0] k 0 : Int) = L4.getD k 0 from rfl, show (List.getD [9, 99, 4, 9] k 0 : Int) = H4.getD k 0 from rfl]
            by_cases c4 : (nmb tp 2 false 0 (sk tp (sk tp p + 1))).1 < L4.getD k 0
            · rw [if_pos c4, if_pos (Or.inl c4)]
              exact bad
            · rw [if_neg c4]
              by_cases c5 : (nmb tp 2 false 0 (sk tp (sk tp p + 1))).1 ≤ H4.getD k 0
              · have c45 : ¬ ((nmb tp 2 false 0 (sk tp (sk tp p + 1))).1 < L4.getD k 0 ∨ H4.getD k 0 < (nmb tp 2 false 0 (sk tp (sk tp p + 1))).1) := by omega
                rw [if_pos c5, if_neg c45, ww (x := (base : Int) + (k : Int)) (by omega) (by omega), if_pos ⟨by omega, by omega⟩, bt_or told (Nat.lt_of_lt_of_le ht (by decide)) k (by omega), ww1 (by omega), show ((base : Int) + (k : Int)).toNat = base + k by omega, ← ct_tld hkK hbit]
                have fu : fr_ [(8, 1000000)] w4 (aw_up w4 8 (base + k) (nmb tp 2 false 0 (sk tp (sk tp p + 1))).1) := (fr_r _ _).upA rfl
                obtain ⟨w', a1, a2, a3, a4, a5⟩ := ih (told ||| 2 ^ k) (nmb tp 2 false 0 (sk tp (sk tp p + 1))).2 (updi tab k (nmb tp 2 false 0 (sk tp (sk tp p + 1))).1) F (aw_up w4 8 (base + k) (nmb tp 2 false 0 (sk tp (sk tp p + 1))).1) (by omega) (Nat.or_lt_two_pow ht (Nat.pow_lt_pow_right (by decide) hkK)) (by rw [ct_tld hkK hbit]; omega) (h4.fr fu rfl) (fun j hj => by
                  unfold updi
                  by_cases y : j = k
                  · subst y
                    rw [up_in, if_pos rfl]
                  · rw [up_out (Or.inr (by omega)), if_neg y, hw4]
                    exact hw j hj)
                exact ⟨w', a1, a2, a3, fun j hj => by rw [a4 j hj, up_out (Or.inr (by omega)), hw4], ((fr_m rfl f24).trans (fr_m rfl fu)).trans a5⟩
              · rw [if_neg c5, if_pos (Or.inr (by omega))]
                exact bad
theorem X_items4 (hN : 200 ≤ N) {base : Nat} (hb : base + 4 ≤ 24) {tab : Nat → Int} (h : XP w tp p) (hw : ∀ k, k < 4 → w 8 (base + k) = tab k) : ∃ w', x_Land_readItems_1_200_201_202_8 N base w = some (b2i (pit tp T4 L4 H4 4 5 0 p tab).1, w') ∧ XP w' tp (pit tp T4 L4 H4 4 5 0 p tab).2.1 ∧ (∀ k, k < 4 → w' 8 (base + k) = (pit tp T4 L4 H4 4 5 0 p tab).2.2 k) ∧ (∀ j, j < base → w' 8 j = w 8 j) ∧ fr_ [(1, 2), (8, 1000000)] w w' := by
  have z : ct (Nat.testBit 0) 4 = 0 := ct_z (fun k _ => Nat.zero_testBit k)
  have := xit4_l (N := N) hN hb 5 0 p tab N w (by omega) (by decide) (by omega) h hw
  rw [z] at this
  exact this

theorem xit5_l (hN : 200 ≤ N) {base : Nat} (hb : base + 5 ≤ 5) : ∀ (f told p : Nat) (tab : Nat → Int) (F : Nat) (w : aw_W), f < F → told < 2 ^ 5 → 6 ≤ ct told.testBit 5 + f → XP w tp p → (∀ k, k < 5 → w 9 (base + k) = tab k) → ∃ w', x_Land_readItems_6 N F base told (ct told.testBit 5 : Int) w = some (b2i (pit tp T5 L5 H5 5 f told p tab).1, w') ∧ XP w' tp (pit tp T5 L5 H5 5 f told p tab).2.1 ∧ (∀ k, k < 5 → w' 9 (base + k) = (pit tp T5 L5 H5 5 f told p tab).2.2 k) ∧ (∀ j, j < base → w' 9 j = w 9 j) ∧ fr_ [(1, 2), (9, 1000000)] w w' := by
  intro f
  induction f with
  | zero =>
    intro told p tab F w hF ht hc
    have := ct_le told.testBit 5
    omega
  | succ f ih =>
    intro told p tab F w hF ht hc h hw
    obtain ⟨F, rfl⟩ : ∃ g, F = g + 1 := ⟨F - 1, by omega⟩
    have hcl := ct_le told.testBit 5
    have h160 := h.1.2.1.1
    obtain ⟨w1, e1, h1, f1⟩ := X_sign (N := N) hN h
    have f1' : fr_ [(1, 2), (9, 1000000)] w w1 := fr_m rfl f1
    have hw1 : ∀ j, w1 9 j = w 9 j := fun j => f1 9 j rfl
    rw [x_Land_readItems_6, if_neg (by omega), e1, b2_some, X_ix5 (by omega), b2_some, pit_s]
    by_cases c1 : fi T5 (gb tp (sk tp p)) 5 0 = -1
    · rw [if_pos c1, if_pos c1]
      exact ⟨w1, rfl, h1, fun k hk => by rw [hw1]; exact hw k hk, fun j _ => hw1 j, f1'⟩
    · rw [if_neg c1, if_neg c1]
      rcases fi_r T5 (gb tp (sk tp p)) 5 0 with q | ⟨k, -, k2, k3, k4⟩
      · exact absurd q c1
      · have hkK : k < 5 := by omega
        have kpos : ∀ k : Nat, k < 5 → 1 ≤ T5.getD k 0 := by decide
        have hk1 := kpos k hkK
        have hql : sk tp p < tp.length := gb_lt rfl (by omega)
        rw [k3, Int.toNat_natCast, bt_has told (Nat.lt_of_lt_of_le ht (by decide)) k (by omega)]
        cases hbit : told.testBit k with
        | true =>
          rw [if_pos rfl, if_neg (by decide), if_pos rfl]
          exact ⟨w1, rfl, h1, fun k hk => by rw [hw1]; exact hw k hk, fun j _ => hw1 j, f1'⟩
        | false =>
          rw [if_pos (by decide), if_neg (by decide), h1.2.1, ww1 (by omega)]
          have h2 := h1.to (q := sk tp p + 1) (by omega)
          obtain ⟨w3, e3, h3, f3⟩ := X_sign (N := N) hN h2
          obtain ⟨w4, e4, h4, f4⟩ := X_number (N := N) hN h3 (D := 2) (by decide)
          have f24 : fr_ [(1, 2)] w w4 := (f1.trans ((fr_r _ _).up rfl)).trans (f3.trans f4)
          have hw4 : ∀ j, w4 9 j = w 9 j := fun j => f24 9 j rfl
          rw [e3, b2_some]
          have e4' : x_Tape_number N 2 w3 = some ((nmb tp 2 false 0 (sk tp (sk tp p + 1))).1, w4) := e4
          rw [e4', b2_some]
          by_cases c3 : (nmb tp 2 false 0 (sk tp (sk tp p + 1))).1 = -1
          · rw [if_pos c3, if_pos c3]
            exact ⟨w4, rfl, h4, fun k hk => by rw [hw4]; exact hw k hk, fun j _ => hw4 j, fr_m rfl f24⟩
          · obtain ⟨v1, v2, v3⟩ := nmb2_v c3
            have hle := h4.2.2
            have bad : ∃ w', x_Land_readItems_100 N w4 = some (0, w') ∧ XP w' tp ((nmb tp 2 false 0 (sk tp (sk tp p + 1))).2 - 1) ∧ (∀ k, k < 5 → w' 9 (base + k) = tab k) ∧ (∀ j, j < base → w' 9 j = w 9 j) ∧ fr_ [(1, 2), (9, 1000000)] w w' := by
              rw [x_Land_readItems_100, h4.2.1, ww (x := ((nmb tp 2 false 0 (sk tp (sk tp p + 1))).2 : Int) - 1) (by omega) (by omega), show ((nmb tp 2 false 0 (sk tp (sk tp p + 1))).2 : Int) - 1 = (((nmb tp 2 false 0 (sk tp (sk tp p + 1))).2 - 1 : Nat) : Int) by omega]
              exact ⟨_, rfl, h4.to (by omega), fun k hk => by rw [up_out (Or.inl (by decide)), hw4]; exact hw k hk, fun j _ => by rw [up_out (Or.inl (by decide)), hw4], (fr_m rfl f24).trans ((fr_r _ _).up rfl)⟩
            have bK : 0 ≤ (k : Int) ∧ (k : Int) < 5 := ⟨by omega, by omega⟩
            rw [if_neg c3, if_neg c3, if_pos bK, if_pos bK, show (List.getD [1, 0, 0, 0, 0] k 0 : Int) = L5.getD k 0 from rfl, show (List.getD [6, 1, 2, 99, 9] k 0 : Int) = H5.getD k 0 from rfl]
            by_cases c4 : (nmb tp 2 false 0 (sk tp (sk tp p + 1))).1 < L5.getD k 0
            · rw [if_pos c4, if_pos (Or.inl c4)]
              exact bad
            · rw [if_neg c4]
              by_cases c5 : (nmb tp 2 false 0 (sk tp (sk tp p + 1))).1 ≤ H5.getD k 0
              · have c45 : ¬ ((nmb tp 2 false 0 (sk tp (sk tp p + 1))).1 < L5.getD k 0 ∨ H5.getD k 0 < (nmb tp 2 false 0 (sk tp (sk tp p + 1))).1) := by omega
                rw [if_pos c5, if_neg c45, ww (x := (base : Int) + (k : Int)) (by omega) (by omega), if_pos ⟨by omega, by omega⟩, bt_or told (Nat.lt_of_lt_of_le ht (by decide)) k (by omega), ww1 (by omega), show ((base : Int) + (k : Int)).toNat = base + k by omega, ← ct_tld hkK hbit]
                have fu : fr_ [(9, 1000000)] w4 (aw_up w4 9 (base + k) (nmb tp 2 false 0 (sk tp (sk tp p + 1))).1) := (fr_r _ _).upA rfl
                obtain ⟨w', a1, a2, a3, a4, a5⟩ := ih (told ||| 2 ^ k) (nmb tp 2 false 0 (sk tp (sk tp p + 1))).2 (updi tab k (nmb tp 2 false 0 (sk tp (sk tp p + 1))).1) F (aw_up w4 9 (base + k) (nmb tp 2 false 0 (sk tp (sk tp p + 1))).1) (by omega) (Nat.or_lt_two_pow ht (Nat.pow_lt_pow_right (by decide) hkK)) (by rw [ct_tld hkK hbit]; omega) (h4.fr fu rfl) (fun j hj => by
                  unfold updi
                  by_cases y : j = k
                  · subst y
                    rw [up_in, if_pos rfl]
                  · rw [up_out (Or.inr (by omega)), if_neg y, hw4]
                    exact hw j hj)
                exact ⟨w', a1, a2, a3, fun j hj => by rw [a4 j hj, up_out (Or.inr (by omega)), hw4], ((fr_m rfl f24).trans (fr_m rfl fu)).trans a5⟩
              · rw [if_neg c5, if_pos (Or.inr (by omega))]
                exact bad
theorem X_items5 (hN : 200 ≤ N) {base : Nat} (hb : base + 5 ≤ 5) {tab : Nat → Int} (h : XP w tp p) (hw : ∀ k, k < 5 → w 9 (base + k) = tab k) : ∃ w', x_Land_readItems N base w = some (b2i (pit tp T5 L5 H5 5 6 0 p tab).1, w') ∧ XP w' tp (pit tp T5 L5 H5 5 6 0 p tab).2.1 ∧ (∀ k, k < 5 → w' 9 (base + k) = (pit tp T5 L5 H5 5 6 0 p tab).2.2 k) ∧ (∀ j, j < base → w' 9 j = w 9 j) ∧ fr_ [(1, 2), (9, 1000000)] w w' := by
  have z : ct (Nat.testBit 0) 5 = 0 := ct_z (fun k _ => Nat.zero_testBit k)
  have := xit5_l (N := N) hN hb 6 0 p tab N w (by omega) (by decide) (by omega) h hw
  rw [z] at this
  exact this
end IX
