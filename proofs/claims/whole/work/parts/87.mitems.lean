/-! ===== pure: items of a clause, in the reference ===== -/
section IM
variable {N : Nat} {w v : aw_W} {tp : List Nat} {p B o : Nat} {S : List (Nat × Nat)}
theorem M_le4 {k : Nat} (hk : k < 4) : m_leastOf N 0 (k : Int) w = some (L4.getD k 0, w) := by
  rw [m_leastOf]
  have key : ∀ k : Nat, k < 4 → L4.getD k 0 = if (k : Int) = 0 then 1 else 0 := by decide
  rw [key k hk]
  split <;> rfl
theorem M_mo4 {k : Nat} (hk : k < 4) : m_mostOf N 0 (k : Int) w = some (H4.getD k 0, w) := by
  rw [m_mostOf, if_pos rfl]
  have key : ∀ k : Nat, k < 4 → H4.getD k 0 = if (k : Int) = 0 then 9 else if (k : Int) = 1 then 99 else if (k : Int) = 2 then 4 else 9 := by decide
  rw [key k hk]
  split
  · rfl
  · split
    · rfl
    · split <;> rfl
theorem M_le5 {k : Nat} (hk : k < 5) : m_leastOf N 1 (k : Int) w = some (L5.getD k 0, w) := by
  rw [M_leastOf]
  have key : ∀ k : Nat, k < 5 → L5.getD k 0 = lwo (k : Int) := by decide
  rw [key k hk]
theorem M_mo5 {k : Nat} (hk : k < 5) : m_mostOf N 1 (k : Int) w = some (H5.getD k 0, w) := by
  rw [M_mostOf]
  have key : ∀ k : Nat, k < 5 → H5.getD k 0 = hwo (k : Int) := by decide
  rw [key k hk]

theorem M_r80_4 {q base k : Nat} (hb : base + k < 24) (hk : k < 4) (h : MP w 50 0 tp q) (h1 : 1 ≤ q) (hf : w 49 11 = -1) {x : Int} : ∃ w', m_readItem_80 N 0 k base x w = some w' ∧ fr_ [(49, 10), (49, 11), (55, 1000000)] w w' ∧ (isd tp q = true → w' 49 11 = (q : Int)) ∧ (isd tp q = false → (x < L4.getD k 0 ∨ H4.getD k 0 < x) → w' 49 11 = ((q - 1 : Nat) : Int)) ∧ (isd tp q = false → ¬ (x < L4.getD k 0 ∨ H4.getD k 0 < x) → w' 49 11 = -1 ∧ MP w' 50 0 tp q ∧ w' 55 (base + k) = x) ∧ (∀ j, j ≠ base + k → w' 55 j = w 55 j) := by
  have h160 := h.2.2.2.2.2.1.1
  have hql := h.2.2.2.2.1
  rw [m_readItem_80, M_isDigit h, b2_some]
  cases hd : isd tp q with
  | true =>
    rw [if_neg b2i_t, M_fails h hf, b2_some]
    exact ⟨_, rfl, (fr_r _ _).up rfl, fun _ => up_in, fun z => absurd z (by decide), fun z => absurd z (by decide), fun j _ => up_out (Or.inl (by decide))⟩
  | false =>
    rw [if_pos b2i_f, M_le4 hk, b2_some, M_mo4 hk, b2_some, m_isIn_ok, b2_some]
    by_cases c : L4.getD k 0 ≤ x ∧ x ≤ H4.getD k 0
    · rw [if_neg (fun z => (b2i_and.mp z) c), ww (x := (base : Int) + (k : Int)) (by omega) (by omega), if_pos ⟨by omega, by omega⟩, show ((base : Int) + (k : Int)).toNat = base + k by omega]
      have fu : fr_ [(55, 1000000)] w (aw_up w 55 (base + k) x) := (fr_r _ _).upA rfl
      exact ⟨_, rfl, fr_m rfl fu, fun z => absurd z (by decide), fun _ z => by omega, fun _ _ => ⟨by rw [fu 49 11 rfl]; exact hf, h.fr fu rfl, up_in⟩, fun j hj => up_out (Or.inr hj)⟩
    · rw [if_pos (b2i_and.mpr c), h.2.2.2.1, ww (x := (q : Int) - 1) (by omega) (by omega), show (q : Int) - 1 = ((q - 1 : Nat) : Int) by omega, M_fails (h.to (q := q - 1) (by omega)) (by rw [up_out (Or.inr (by decide))]; exact hf), b2_some]
      exact ⟨_, rfl, ((fr_r _ _).up rfl).up rfl, fun z => absurd z (by decide), fun _ _ => up_in, fun _ z => absurd (show L4.getD k 0 ≤ x ∧ x ≤ H4.getD k 0 by omega) c, fun j _ => by rw [up_out (Or.inl (by decide)), up_out (Or.inl (by decide))]⟩
theorem M_rI_4 (hN : 200 ≤ N) {q base k : Nat} (hb : base + k < 24) (hk : k < 4) (h : MP w 50 0 tp q) (hq : q < tp.length) (hf : w 49 11 = -1) : ∃ w', m_readItem N 0 k base w = some w' ∧ fr_ [(49, 10), (49, 11), (55, 1000000)] w w' ∧ ((nmb tp 2 false 0 (sk tp (q + 1))).1 = -1 → w' 49 11 = ((nmb tp 2 false 0 (sk tp (q + 1))).2 : Int)) ∧ ((nmb tp 2 false 0 (sk tp (q + 1))).1 ≠ -1 → ((nmb tp 2 false 0 (sk tp (q + 1))).1 < L4.getD k 0 ∨ H4.getD k 0 < (nmb tp 2 false 0 (sk tp (q + 1))).1) → w' 49 11 = (((nmb tp 2 false 0 (sk tp (q + 1))).2 - 1 : Nat) : Int)) ∧ ((nmb tp 2 false 0 (sk tp (q + 1))).1 ≠ -1 → ¬ ((nmb tp 2 false 0 (sk tp (q + 1))).1 < L4.getD k 0 ∨ H4.getD k 0 < (nmb tp 2 false 0 (sk tp (q + 1))).1) → w' 49 11 = -1 ∧ MP w' 50 0 tp (nmb tp 2 false 0 (sk tp (q + 1))).2 ∧ w' 55 (base + k) = (nmb tp 2 false 0 (sk tp (q + 1))).1) ∧ (∀ j, j ≠ base + k → w' 55 j = w 55 j) := by
  have h160 := h.2.2.2.2.2.1.1
  have htk := h.2.2.2.2.2.1
  have h0 := h.to (q := q + 1) (by omega)
  obtain ⟨w1, e1, h1, f1⟩ := M_look (N := N) hN h0
  have hf1 : w1 49 11 = -1 := by rw [f1 49 11 rfl, up_out (Or.inr (by decide))]; exact hf
  have hl1 := (sk_le (tp := tp) (p := q + 1) (by omega)).2
  have fw1 : fr_ [(49, 10), (49, 11), (55, 1000000)] w w1 := ((fr_r _ _).up rfl).trans (fr_m rfl f1)
  have g1 : ∀ j, w1 55 j = w 55 j := fun j => by rw [f1 55 j rfl, up_out (Or.inl (by decide))]
  rw [m_readItem, h.2.2.2.1, ww1 (by omega), e1, b2_some, M_isDigit h1, b2_some]
  generalize sk tp (q + 1) = q1 at h1 hl1 ⊢
  rw [nmb2]
  cases d1 : isd tp q1 with
  | false =>
    rw [if_pos b2i_f, M_fails h1 hf1, b2_some, if_neg (by decide)]
    exact ⟨_, rfl, fw1.trans ((fr_r _ _).up rfl), fun _ => up_in, fun z => absurd rfl z, fun z => absurd rfl z, fun j _ => by rw [up_out (Or.inl (by decide)), g1]⟩
  | true =>
    have b1 := isd_iff.mp d1
    have q1l := isd_lt d1
    have elk : lk tp q1 = (gb tp q1 : Int) := by unfold lk; rw [if_pos q1l]
    have h2 := h1.to (q := q1 + 1) (by omega)
    have fw2 : fr_ [(49, 10), (49, 11), (55, 1000000)] w (aw_up w1 49 10 ((q1 + 1 : Nat) : Int)) := fw1.up rfl
    have g2 : ∀ j, (aw_up w1 49 10 ((q1 + 1 : Nat) : Int)) 55 j = w 55 j := fun j => by rw [up_out (Or.inl (by decide)), g1]
    rw [if_neg b2i_t, M_here h1, b2_some, elk, h1.2.2.2.1, ww1 (by omega), M_isDigit h2, b2_some, if_pos rfl, ww (x := (gb tp q1 : Int) - 48) (by omega) (by omega)]
    cases d2 : isd tp (q1 + 1) with
    | false =>
      rw [if_pos b2i_f, if_neg (by decide)]
      obtain ⟨w', a1, a2, a3, a4, a5, a6⟩ := M_r80_4 (N := N) hb hk h2 (by omega) (by rw [up_out (Or.inr (by decide))]; exact hf1) (x := (gb tp q1 : Int) - 48)
      have ev : 0 * 10 + (gb tp q1 : Int) - 48 = (gb tp q1 : Int) - 48 := by omega
      rw [ev]
      exact ⟨w', a1, fw2.trans a2, fun z => by exfalso; have z' : (gb tp q1 : Int) - 48 = -1 := z; omega, fun _ => a4 d2, fun _ => a5 d2, fun j hj => by rw [a6 j hj, g2]⟩
    | true =>
      have b2 := isd_iff.mp d2
      have q2l := isd_lt d2
      have elk2 : lk tp (q1 + 1) = (gb tp (q1 + 1) : Int) := by unfold lk; rw [if_pos q2l]
      have h3 := h2.to (q := q1 + 2) (by omega)
      have fw3 : fr_ [(49, 10), (49, 11), (55, 1000000)] w (aw_up (aw_up w1 49 10 ((q1 + 1 : Nat) : Int)) 49 10 ((q1 + 2 : Nat) : Int)) := fw2.up rfl
      have g3 : ∀ j, (aw_up (aw_up w1 49 10 ((q1 + 1 : Nat) : Int)) 49 10 ((q1 + 2 : Nat) : Int)) 55 j = w 55 j := fun j => by rw [up_out (Or.inl (by decide)), g2]
      rw [if_neg b2i_t, M_here h2, b2_some, elk2, h2.2.2.2.1, ww1 (i := q1 + 1) (by omega), ww (x := 10 * ((gb tp q1 : Int) - 48)) (by omega) (by omega), ww (x := 10 * ((gb tp q1 : Int) - 48) + (gb tp (q1 + 1) : Int)) (by omega) (by omega), ww (x := 10 * ((gb tp q1 : Int) - 48) + (gb tp (q1 + 1) : Int) - 48) (by omega) (by omega), if_pos rfl]
      obtain ⟨w', a1, a2, a3, a4, a5, a6⟩ := M_r80_4 (N := N) hb hk h3 (by omega) (by rw [up_out (Or.inr (by decide)), up_out (Or.inr (by decide))]; exact hf1) (x := 10 * ((gb tp q1 : Int) - 48) + (gb tp (q1 + 1) : Int) - 48)
      have ev : (0 * 10 + (gb tp q1 : Int) - 48) * 10 + (gb tp (q1 + 1) : Int) - 48 = 10 * ((gb tp q1 : Int) - 48) + (gb tp (q1 + 1) : Int) - 48 := by omega
      rw [ev]
      cases d3 : isd tp (q1 + 2) with
      | true =>
        rw [if_pos rfl]
        exact ⟨w', a1, fw3.trans a2, fun _ => a3 d3, fun z => absurd rfl z, fun z => absurd rfl z, fun j hj => by rw [a6 j hj, g3]⟩
      | false =>
        rw [if_neg (by decide)]
        exact ⟨w', a1, fw3.trans a2, fun z => by exfalso; have z' : 10 * ((gb tp q1 : Int) - 48) + (gb tp (q1 + 1) : Int) - 48 = -1 := z; omega, fun _ => a4 d3, fun _ => a5 d3, fun j hj => by rw [a6 j hj, g3]⟩
theorem mit4_l (hN : 200 ≤ N) {base : Nat} (hb : base + 4 ≤ 24) : ∀ (f told p : Nat) (tab : Nat → Int) (F : Nat) (w : aw_W), f + 1 < F → told < 2 ^ 4 → 5 ≤ ct told.testBit 4 + f → p ≤ tp.length → MP w 50 0 tp (sk tp p) → w 49 11 = -1 → (∀ k, k < 4 → w 55 (base + k) = tab k) → ∃ w', m_readClause_182 N F 0 base told (fi T4 (gb tp (sk tp p)) 4 0) w = some w' ∧ fr_ [(49, 10), (49, 11), (55, 1000000)] w w' ∧ ((pit tp T4 L4 H4 4 f told p tab).1 = true → w' 49 11 = -1 ∧ MP w' 50 0 tp (pit tp T4 L4 H4 4 f told p tab).2.1 ∧ (∀ k, k < 4 → w' 55 (base + k) = (pit tp T4 L4 H4 4 f told p tab).2.2 k)) ∧ ((pit tp T4 L4 H4 4 f told p tab).1 = false → w' 49 11 = ((pit tp T4 L4 H4 4 f told p tab).2.1 : Int)) ∧ (∀ j, j < base → w' 55 j = w 55 j) := by
  intro f
  induction f with
  | zero =>
    intro told p tab F w hF ht hc
    have := ct_le told.testBit 4
    omega
  | succ f ih =>
    intro told p tab F w hF ht hc hp h hf hw
    obtain ⟨F, rfl⟩ : ∃ g, F = g + 1 := ⟨F - 1, by omega⟩
    have htk := h.2.2.2.2.2.1
    have h160 := htk.1
    rw [m_readClause_182, pit_s]
    by_cases c1 : fi T4 (gb tp (sk tp p)) 4 0 = -1
    · rw [if_pos c1, if_pos c1]
      exact ⟨w, rfl, fr_r _ _, fun _ => ⟨hf, h, hw⟩, fun z => Bool.noConfusion (show true = false from z), fun _ _ => rfl⟩
    · rw [if_neg c1, if_neg c1, if_pos hf]
      rcases fi_r T4 (gb tp (sk tp p)) 4 0 with q | ⟨k, -, k2, k3, k4⟩
      · exact absurd q c1
      · have hkK : k < 4 := by omega
        have kpos : ∀ k : Nat, k < 4 → 1 ≤ T4.getD k 0 := by decide
        have hk1 := kpos k hkK
        have hql : sk tp p < tp.length := gb_lt rfl (by omega)
        rw [k3, Int.toNat_natCast, m_has_ok (Nat.lt_of_lt_of_le ht (by decide)) (by omega), b2_some]
        cases hbit : told.testBit k with
        | true =>
          rw [if_neg b2i_t, if_pos rfl, m_readClause_206, M_fails h hf, b2_some]
          exact ⟨_, rfl, (fr_r _ _).up rfl, fun z => Bool.noConfusion (show false = true from z), fun _ => up_in, fun j _ => up_out (Or.inl (by decide))⟩
        | false =>
          obtain ⟨w1, e1, f1, r1, r2, r3, r4⟩ := M_rI_4 (N := N) hN (show base + k < 24 by omega) hkK h hql hf
          rw [if_pos b2i_f, if_neg (by decide), e1, b1_some, bt_or told (Nat.lt_of_lt_of_le ht (by decide)) k (by omega)]
          have stop : ∀ z : Nat, w1 49 11 = (z : Int) → m_readClause_182 N F 0 base ((told ||| 2 ^ k : Nat) : Int) (k : Int) w1 = some w1 := by
            intro z hz
            obtain ⟨F', rfl⟩ : ∃ g, F = g + 1 := ⟨F - 1, by omega⟩
            rw [m_readClause_182, if_neg (by omega), if_neg (by omega)]
            rfl
          by_cases c3 : (nmb tp 2 false 0 (sk tp (sk tp p + 1))).1 = -1
          · have hz := r1 c3
            rw [if_neg (by omega), if_pos c3, stop _ hz]
            exact ⟨w1, rfl, f1, fun z => Bool.noConfusion (show false = true from z), fun _ => hz, fun j hj => r4 j (by omega)⟩
          · rw [if_neg c3]
            by_cases c4 : (nmb tp 2 false 0 (sk tp (sk tp p + 1))).1 < L4.getD k 0 ∨ H4.getD k 0 < (nmb tp 2 false 0 (sk tp (sk tp p + 1))).1
            · have hz := r2 c3 c4
              rw [if_neg (by omega), if_pos c4, stop _ hz]
              exact ⟨w1, rfl, f1, fun z => Bool.noConfusion (show false = true from z), fun _ => hz, fun j hj => r4 j (by omega)⟩
            · obtain ⟨z1, z2, z3⟩ := r3 c3 c4
              obtain ⟨w2, e2, h2, f2⟩ := M_look (N := N) hN z2
              rw [if_pos z1, if_neg c4, e2, b2_some, M_ix4 (by omega), b2_some, fi_lk4 htk]
              obtain ⟨w', a1, a2, a3, a4, a5⟩ := ih (told ||| 2 ^ k) (nmb tp 2 false 0 (sk tp (sk tp p + 1))).2 (updi tab k (nmb tp 2 false 0 (sk tp (sk tp p + 1))).1) F w2 (by omega) (Nat.or_lt_two_pow ht (Nat.pow_lt_pow_right (by decide) hkK)) (by rw [ct_tld hkK hbit]; omega) z2.2.2.2.2.1 h2 (by rw [f2 49 11 rfl]; exact z1) (fun j hj => by
                rw [f2 55 _ rfl]
                unfold updi
                by_cases y : j = k
                · subst y
                  rw [if_pos rfl]; exact z3
                · rw [if_neg y, r4 _ (by omega)]
                  exact hw j hj)
              exact ⟨w', a1, f1.trans ((fr_m rfl f2).trans a2), a3, a4, fun j hj => by rw [a5 j hj, f2 55 _ rfl, r4 j (by omega)]⟩

theorem M_r80_5 {q base k : Nat} (hb : base + k < 5) (hk : k < 5) (h : MP w 50 0 tp q) (h1 : 1 ≤ q) (hf : w 49 11 = -1) {x : Int} : ∃ w', m_readItem_49_57_80 N 1 k base x w = some w' ∧ fr_ [(49, 10), (49, 11), (57, 1000000)] w w' ∧ (isd tp q = true → w' 49 11 = (q : Int)) ∧ (isd tp q = false → (x < L5.getD k 0 ∨ H5.getD k 0 < x) → w' 49 11 = ((q - 1 : Nat) : Int)) ∧ (isd tp q = false → ¬ (x < L5.getD k 0 ∨ H5.getD k 0 < x) → w' 49 11 = -1 ∧ MP w' 50 0 tp q ∧ w' 57 (base + k) = x) ∧ (∀ j, j ≠ base + k → w' 57 j = w 57 j) := by
  have h160 := h.2.2.2.2.2.1.1
  have hql := h.2.2.2.2.1
  rw [m_readItem_49_57_80, M_isDigit h, b2_some]
  cases hd : isd tp q with
  | true =>
    rw [if_neg b2i_t, M_fails h hf, b2_some]
    exact ⟨_, rfl, (fr_r _ _).up rfl, fun _ => up_in, fun z => absurd z (by decide), fun z => absurd z (by decide), fun j _ => up_out (Or.inl (by decide))⟩
  | false =>
    rw [if_pos b2i_f, M_le5 hk, b2_some, M_mo5 hk, b2_some, m_isIn_ok, b2_some]
    by_cases c : L5.getD k 0 ≤ x ∧ x ≤ H5.getD k 0
    · rw [if_neg (fun z => (b2i_and.mp z) c), ww (x := (base : Int) + (k : Int)) (by omega) (by omega), if_pos ⟨by omega, by omega⟩, show ((base : Int) + (k : Int)).toNat = base + k by omega]
      have fu : fr_ [(57, 1000000)] w (aw_up w 57 (base + k) x) := (fr_r _ _).upA rfl
      exact ⟨_, rfl, fr_m rfl fu, fun z => absurd z (by decide), fun _ z => by omega, fun _ _ => ⟨by rw [fu 49 11 rfl]; exact hf, h.fr fu rfl, up_in⟩, fun j hj => up_out (Or.inr hj)⟩
    · rw [if_pos (b2i_and.mpr c), h.2.2.2.1, ww (x := (q : Int) - 1) (by omega) (by omega), show (q : Int) - 1 = ((q - 1 : Nat) : Int) by omega, M_fails (h.to (q := q - 1) (by omega)) (by rw [up_out (Or.inr (by decide))]; exact hf), b2_some]
      exact ⟨_, rfl, ((fr_r _ _).up rfl).up rfl, fun z => absurd z (by decide), fun _ _ => up_in, fun _ z => absurd (show L5.getD k 0 ≤ x ∧ x ≤ H5.getD k 0 by omega) c, fun j _ => by rw [up_out (Or.inl (by decide)), up_out (Or.inl (by decide))]⟩
theorem M_rI_5 (hN : 200 ≤ N) {q base k : Nat} (hb : base + k < 5) (hk : k < 5) (h : MP w 50 0 tp q) (hq : q < tp.length) (hf : w 49 11 = -1) : ∃ w', m_readItem_49_57 N 1 k base w = some w' ∧ fr_ [(49, 10), (49, 11), (57, 1000000)] w w' ∧ ((nmb tp 2 false 0 (sk tp (q + 1))).1 = -1 → w' 49 11 = ((nmb tp 2 false 0 (sk tp (q + 1))).2 : Int)) ∧ ((nmb tp 2 false 0 (sk tp (q + 1))).1 ≠ -1 → ((nmb tp 2 false 0 (sk tp (q + 1))).1 < L5.getD k 0 ∨ H5.getD k 0 < (nmb tp 2 false 0 (sk tp (q + 1))).1) → w' 49 11 = (((nmb tp 2 false 0 (sk tp (q + 1))).2 - 1 : Nat) : Int)) ∧ ((nmb tp 2 false 0 (sk tp (q + 1))).1 ≠ -1 → ¬ ((nmb tp 2 false 0 (sk tp (q + 1))).1 < L5.getD k 0 ∨ H5.getD k 0 < (nmb tp 2 false 0 (sk tp (q + 1))).1) → w' 49 11 = -1 ∧ MP w' 50 0 tp (nmb tp 2 false 0 (sk tp (q + 1))).2 ∧ w' 57 (base + k) = (nmb tp 2 false 0 (sk tp (q + 1))).1) ∧ (∀ j, j ≠ base + k → w' 57 j = w 57 j) := by
  have h160 := h.2.2.2.2.2.1.1
  have htk := h.2.2.2.2.2.1
  have h0 := h.to (q := q + 1) (by omega)
  obtain ⟨w1, e1, h1, f1⟩ := M_look (N := N) hN h0
  have hf1 : w1 49 11 = -1 := by rw [f1 49 11 rfl, up_out (Or.inr (by decide))]; exact hf
  have hl1 := (sk_le (tp := tp) (p := q + 1) (by omega)).2
  have fw1 : fr_ [(49, 10), (49, 11), (57, 1000000)] w w1 := ((fr_r _ _).up rfl).trans (fr_m rfl f1)
  have g1 : ∀ j, w1 57 j = w 57 j := fun j => by rw [f1 57 j rfl, up_out (Or.inl (by decide))]
  rw [m_readItem_49_57, h.2.2.2.1, ww1 (by omega), e1, b2_some, M_isDigit h1, b2_some]
  generalize sk tp (q + 1) = q1 at h1 hl1 ⊢
  rw [nmb2]
  cases d1 : isd tp q1 with
  | false =>
    rw [if_pos b2i_f, M_fails h1 hf1, b2_some, if_neg (by decide)]
    exact ⟨_, rfl, fw1.trans ((fr_r _ _).up rfl), fun _ => up_in, fun z => absurd rfl z, fun z => absurd rfl z, fun j _ => by rw [up_out (Or.inl (by decide)), g1]⟩
  | true =>
    have b1 := isd_iff.mp d1
    have q1l := isd_lt d1
    have elk : lk tp q1 = (gb tp q1 : Int) := by unfold lk; rw [if_pos q1l]
    have h2 := h1.to (q := q1 + 1) (by omega)
    have fw2 : fr_ [(49, 10), (49, 11), (57, 1000000)] w (aw_up w1 49 10 ((q1 + 1 : Nat) : Int)) := fw1.up rfl
    have g2 : ∀ j, (aw_up w1 49 10 ((q1 + 1 : Nat) : Int)) 57 j = w 57 j := fun j => by rw [up_out (Or.inl (by decide)), g1]
    rw [if_neg b2i_t, M_here h1, b2_some, elk, h1.2.2.2.1, ww1 (by omega), M_isDigit h2, b2_some, if_pos rfl, ww (x := (gb tp q1 : Int) - 48) (by omega) (by omega)]
    cases d2 : isd tp (q1 + 1) with
    | false =>
      rw [if_pos b2i_f, if_neg (by decide)]
      obtain ⟨w', a1, a2, a3, a4, a5, a6⟩ := M_r80_5 (N := N) hb hk h2 (by omega) (by rw [up_out (Or.inr (by decide))]; exact hf1) (x := (gb tp q1 : Int) - 48)
      have ev : 0 * 10 + (gb tp q1 : Int) - 48 = (gb tp q1 : Int) - 48 := by omega
      rw [ev]
      exact ⟨w', a1, fw2.trans a2, fun z => by exfalso; have z' : (gb tp q1 : Int) - 48 = -1 := z; omega, fun _ => a4 d2, fun _ => a5 d2, fun j hj => by rw [a6 j hj, g2]⟩
    | true =>
      have b2 := isd_iff.mp d2
      have q2l := isd_lt d2
      have elk2 : lk tp (q1 + 1) = (gb tp (q1 + 1) : Int) := by unfold lk; rw [if_pos q2l]
      have h3 := h2.to (q := q1 + 2) (by omega)
      have fw3 : fr_ [(49, 10), (49, 11), (57, 1000000)] w (aw_up (aw_up w1 49 10 ((q1 + 1 : Nat) : Int)) 49 10 ((q1 + 2 : Nat) : Int)) := fw2.up rfl
      have g3 : ∀ j, (aw_up (aw_up w1 49 10 ((q1 + 1 : Nat) : Int)) 49 10 ((q1 + 2 : Nat) : Int)) 57 j = w 57 j := fun j => by rw [up_out (Or.inl (by decide)), g2]
      rw [if_neg b2i_t, M_here h2, b2_some, elk2, h2.2.2.2.1, ww1 (i := q1 + 1) (by omega), ww (x := 10 * ((gb tp q1 : Int) - 48)) (by omega) (by omega), ww (x := 10 * ((gb tp q1 : Int) - 48) + (gb tp (q1 + 1) : Int)) (by omega) (by omega), ww (x := 10 * ((gb tp q1 : Int) - 48) + (gb tp (q1 + 1) : Int) - 48) (by omega) (by omega), if_pos rfl]
      obtain ⟨w', a1, a2, a3, a4, a5, a6⟩ := M_r80_5 (N := N) hb hk h3 (by omega) (by rw [up_out (Or.inr (by decide)), up_out (Or.inr (by decide))]; exact hf1) (x := 10 * ((gb tp q1 : Int) - 48) + (gb tp (q1 + 1) : Int) - 48)
      have ev : (0 * 10 + (gb tp q1 : Int) - 48) * 10 + (gb tp (q1 + 1) : Int) - 48 = 10 * ((gb tp q1 : Int) - 48) + (gb tp (q1 + 1) : Int) - 48 := by omega
      rw [ev]
      cases d3 : isd tp (q1 + 2) with
      | true =>
        rw [if_pos rfl]
        exact ⟨w', a1, fw3.trans a2, fun _ => a3 d3, fun z => absurd rfl z, fun z => absurd rfl z, fun j hj => by rw [a6 j hj, g3]⟩
      | false =>
        rw [if_neg (by decide)]
        exact ⟨w', a1, fw3.trans a2, fun z => by exfalso; have z' : 10 * ((gb tp q1 : Int) - 48) + (gb tp (q1 + 1) : Int) - 48 = -1 := z; omega, fun _ => a4 d3, fun _ => a5 d3, fun j hj => by rw [a6 j hj, g3]⟩
theorem mit5_l (hN : 200 ≤ N) {base : Nat} (hb : base + 5 ≤ 5) : ∀ (f told p : Nat) (tab : Nat → Int) (F : Nat) (w : aw_W), f + 1 < F → told < 2 ^ 5 → 6 ≤ ct told.testBit 5 + f → p ≤ tp.length → MP w 50 0 tp (sk tp p) → w 49 11 = -1 → (∀ k, k < 5 → w 57 (base + k) = tab k) → ∃ w', m_readClause_182d N F 1 base told (fi T5 (gb tp (sk tp p)) 5 0) w = some w' ∧ fr_ [(49, 10), (49, 11), (57, 1000000)] w w' ∧ ((pit tp T5 L5 H5 5 f told p tab).1 = true → w' 49 11 = -1 ∧ MP w' 50 0 tp (pit tp T5 L5 H5 5 f told p tab).2.1 ∧ (∀ k, k < 5 → w' 57 (base + k) = (pit tp T5 L5 H5 5 f told p tab).2.2 k)) ∧ ((pit tp T5 L5 H5 5 f told p tab).1 = false → w' 49 11 = ((pit tp T5 L5 H5 5 f told p tab).2.1 : Int)) ∧ (∀ j, j < base → w' 57 j = w 57 j) := by
  intro f
  induction f with
  | zero =>
    intro told p tab F w hF ht hc
    have := ct_le told.testBit 5
    omega
  | succ f ih =>
    intro told p tab F w hF ht hc hp h hf hw
    obtain ⟨F, rfl⟩ : ∃ g, F = g + 1 := ⟨F - 1, by omega⟩
    have htk := h.2.2.2.2.2.1
    have h160 := htk.1
    rw [m_readClause_182d, pit_s]
    by_cases c1 : fi T5 (gb tp (sk tp p)) 5 0 = -1
    · rw [if_pos c1, if_pos c1]
      exact ⟨w, rfl, fr_r _ _, fun _ => ⟨hf, h, hw⟩, fun z => Bool.noConfusion (show true = false from z), fun _ _ => rfl⟩
    · rw [if_neg c1, if_neg c1, if_pos hf]
      rcases fi_r T5 (gb tp (sk tp p)) 5 0 with q | ⟨k, -, k2, k3, k4⟩
      · exact absurd q c1
      · have hkK : k < 5 := by omega
        have kpos : ∀ k : Nat, k < 5 → 1 ≤ T5.getD k 0 := by decide
        have hk1 := kpos k hkK
        have hql : sk tp p < tp.length := gb_lt rfl (by omega)
        rw [k3, Int.toNat_natCast, m_has_ok (Nat.lt_of_lt_of_le ht (by decide)) (by omega), b2_some]
        cases hbit : told.testBit k with
        | true =>
          rw [if_neg b2i_t, if_pos rfl, m_readClause_206, M_fails h hf, b2_some]
          exact ⟨_, rfl, (fr_r _ _).up rfl, fun z => Bool.noConfusion (show false = true from z), fun _ => up_in, fun j _ => up_out (Or.inl (by decide))⟩
        | false =>
          obtain ⟨w1, e1, f1, r1, r2, r3, r4⟩ := M_rI_5 (N := N) hN (show base + k < 5 by omega) hkK h hql hf
          rw [if_pos b2i_f, if_neg (by decide), e1, b1_some, bt_or told (Nat.lt_of_lt_of_le ht (by decide)) k (by omega)]
          have stop : ∀ z : Nat, w1 49 11 = (z : Int) → m_readClause_182d N F 1 base ((told ||| 2 ^ k : Nat) : Int) (k : Int) w1 = some w1 := by
            intro z hz
            obtain ⟨F', rfl⟩ : ∃ g, F = g + 1 := ⟨F - 1, by omega⟩
            rw [m_readClause_182d, if_neg (by omega), if_neg (by omega)]
            rfl
          by_cases c3 : (nmb tp 2 false 0 (sk tp (sk tp p + 1))).1 = -1
          · have hz := r1 c3
            rw [if_neg (by omega), if_pos c3, stop _ hz]
            exact ⟨w1, rfl, f1, fun z => Bool.noConfusion (show false = true from z), fun _ => hz, fun j hj => r4 j (by omega)⟩
          · rw [if_neg c3]
            by_cases c4 : (nmb tp 2 false 0 (sk tp (sk tp p + 1))).1 < L5.getD k 0 ∨ H5.getD k 0 < (nmb tp 2 false 0 (sk tp (sk tp p + 1))).1
            · have hz := r2 c3 c4
              rw [if_neg (by omega), if_pos c4, stop _ hz]
              exact ⟨w1, rfl, f1, fun z => Bool.noConfusion (show false = true from z), fun _ => hz, fun j hj => r4 j (by omega)⟩
            · obtain ⟨z1, z2, z3⟩ := r3 c3 c4
              obtain ⟨w2, e2, h2, f2⟩ := M_look (N := N) hN z2
              rw [if_pos z1, if_neg c4, e2, b2_some, M_ix5 (by omega), b2_some, fi_lk5 htk]
              obtain ⟨w', a1, a2, a3, a4, a5⟩ := ih (told ||| 2 ^ k) (nmb tp 2 false 0 (sk tp (sk tp p + 1))).2 (updi tab k (nmb tp 2 false 0 (sk tp (sk tp p + 1))).1) F w2 (by omega) (Nat.or_lt_two_pow ht (Nat.pow_lt_pow_right (by decide) hkK)) (by rw [ct_tld hkK hbit]; omega) z2.2.2.2.2.1 h2 (by rw [f2 49 11 rfl]; exact z1) (fun j hj => by
                rw [f2 57 _ rfl]
                unfold updi
                by_cases y : j = k
                · subst y
                  rw [if_pos rfl]; exact z3
                · rw [if_neg y, r4 _ (by omega)]
                  exact hw j hj)
              exact ⟨w', a1, f1.trans ((fr_m rfl f2).trans a2), a3, a4, fun j hj => by rw [a5 j hj, f2 57 _ rfl, r4 j (by omega)]⟩
end IM
