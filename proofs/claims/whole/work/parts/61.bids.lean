/-! ===== pure: bids, gain ===== -/
/-- the row x, if it may be taken -/
def okr (n : Nat) (lw : Nat → Int) (x : Int) : Bool := decide (n ≠ 0) && decide (0 ≤ x) && vr x.toNat n (lw 4).toNat
def bb (x : Int) (n : Nat) : Nat → Int := fun s => (dg x.toNat n s : Int)
theorem bb_bd (x : Int) (n : Nat) : bd n (bb x n) := fun s _ => by
  have := dg_lt x.toNat n s
  unfold bb
  omega
section BD
variable {N : Nat} {w : aw_W} {n : Nat} {lw it : Nat → Int}
theorem X_take (hN : 10 ≤ N) (h : XL w n lw it) {x : Int} (hx : aw_I x) : ∃ w', x_Sale_take N x w = some (b2i (okr n lw x), w') ∧ XL w' n lw it ∧ fr_ S_x_Sale_take w w' ∧ (okr n lw x = true → n ≠ 0 ∧ (∀ s, s < n → w' 21 s = bb x n s)) := by
  have hxx := hx
  unfold aw_I at hxx
  obtain ⟨q0, q1, q2, q3, q4, q5⟩ := id h
  by_cases hn : n = 0
  · subst hn
    refine ⟨w, ?_, h, fr_r _ _, fun q => by unfold okr at q; simp at q⟩
    rw [x_Sale_take, q0, if_pos (by rfl)]
    rfl
  · have h4 := (q5 hn).1.2.2.2.2
    obtain ⟨w', e, hf, hd⟩ := xt_take (N := N) (mo := (lw 4).toNat) hN q0 q1 (by rw [q3 4 (by decide)]; omega) (x := x) (by omega)
    refine ⟨w', e, h.fr hf rfl, hf, fun q => ?_⟩
    unfold okr at q
    simp at q
    exact ⟨hn, fun s hs => hd q.1.2 hn s hs⟩
theorem M_lay (hN : 10 ≤ N) (h : ML w n lw it) (hn : n ≠ 0) {x : Int} (hx : aw_I x) : ∃ w', m_lay N x w = some (b2i (okr n lw x), w') ∧ ML w' n lw it ∧ fr_ S_m_lay w w' ∧ (okr n lw x = true → ∀ s, s < n → w' 64 s = bb x n s) := by
  obtain ⟨q0, q1, q2, q3, q4, q5⟩ := id h
  have h4 := (q5 hn).1.2.2.2.2
  obtain ⟨w', e, hf, hd⟩ := ml_lay (N := N) (mo := (lw 4).toNat) hN q0 q1 (by rw [q3 4 (by decide)]; omega) hx
  refine ⟨w', ?_, h.fr hf rfl, hf, fun q => ?_⟩
  · rw [e]
    unfold okr
    simp [hn]
  · unfold okr at q
    simp at q
    exact hd q.1.2
def a_bids (n : Nat) (lw : Nat → Int) (x1 x2 : Int) : Int :=
  if x2 < 0 ∨ 3 < x2 ∨ okr n lw x1 = false then -1000000 else if x2 = 0 then hd n lw (bb x1 n) else if x2 = 1 then pd n lw (bb x1 n) else if x2 = 2 then (Fb (lw 1) (bb x1 n) n : Int) else tk n lw (bb x1 n)
theorem X_bids (hN : 10 ≤ N) (h : XL w n lw it) {x1 x2 : Int} (hx : aw_I x1) : ∃ w', x_bids N x1 x2 w = some (a_bids n lw x1 x2, w') := by
  unfold a_bids
  rw [x_bids]
  by_cases c1 : x2 < 0
  · rw [if_pos c1, if_pos (Or.inl c1)]
    exact ⟨w, rfl⟩
  · rw [if_neg c1]
    by_cases c2 : 3 < x2
    · rw [if_pos c2, if_pos (Or.inr (Or.inl c2))]
      exact ⟨w, rfl⟩
    · rw [if_neg c2]
      obtain ⟨w1, e1, h1, f1, d1⟩ := X_take (N := N) hN h hx
      rw [e1, b2_some]
      cases ho : okr n lw x1 with
      | false =>
        rw [if_pos (by rfl), if_pos (Or.inr (Or.inr rfl))]
        exact ⟨w1, rfl⟩
      | true =>
        obtain ⟨hn, hb⟩ := d1 ho
        rw [if_neg (by decide), if_neg (by simp; omega)]
        obtain ⟨w2, e2, h2, b2, s3, s4, s5, s6, ss, f2⟩ := X_settle (N := N) hN h1 hn hb
        rw [e2, b1_some, s3, s4, s5]
        by_cases z0 : x2 = 0
        · rw [if_pos z0, if_pos z0]; exact ⟨w2, rfl⟩
        · rw [if_neg z0, if_neg z0]
          by_cases z1 : x2 = 1
          · rw [if_pos z1, if_pos z1]; exact ⟨w2, rfl⟩
          · rw [if_neg z1, if_neg z1]
            by_cases z2 : x2 = 2
            · rw [if_pos z2, if_pos z2]; exact ⟨w2, rfl⟩
            · rw [if_neg z2, if_neg z2, X_takings h2 hn b2 (bb_bd x1 n) ss, b2_some]
              exact ⟨w2, rfl⟩
theorem M_bids (hN : 10 ≤ N) (h : ML w n lw it) {x1 x2 : Int} (hx : aw_I x1) : ∃ w', m_bids N x1 x2 w = some (a_bids n lw x1 x2, w') := by
  unfold a_bids
  rw [m_bids, h.1]
  by_cases hn : n = 0
  · subst hn
    rw [if_pos (by rfl)]
    have : okr 0 lw x1 = false := by unfold okr; simp
    rw [if_pos (Or.inr (Or.inr this))]
    exact ⟨_, rfl⟩
  · have h0 : ML (aw_up w 49 0 0) n lw it := h.fr (S := [(49, 0)]) ((fr_r _ w).up rfl) rfl
    rw [if_neg (by omega), m_isIn_ok, b2_some]
    by_cases c1 : 0 ≤ x2 ∧ x2 ≤ 3
    · rw [if_neg (by simp [b2i, c1.1, c1.2])]
      obtain ⟨w1, e1, h1, f1, d1⟩ := M_lay (N := N) hN h0 hn hx
      rw [e1, b2_some]
      cases ho : okr n lw x1 with
      | false =>
        rw [if_pos (by rfl), if_pos (Or.inr (Or.inr rfl))]
        exact ⟨w1, rfl⟩
      | true =>
        rw [if_neg (by decide), if_neg (by simp; omega)]
        obtain ⟨w2, e2, h2, b2, wn, fi, pa, f2⟩ := M_judge (N := N) hN h1 hn (d1 ho)
        rw [e2, b1_some]
        by_cases z0 : x2 = 0
        · rw [if_pos z0, if_pos z0, wn, b2_some]; exact ⟨w2, rfl⟩
        · rw [if_neg z0, if_neg z0]
          by_cases z1 : x2 = 1
          · rw [if_pos z1, if_pos z1, wn, b2_some, wn, b2_some]
            unfold pd Pd
            show ∃ w', (if Hd (lw 0) (lw 1) alT (bb x1 n) n = -1 then _ else _) = _
            by_cases z : Hd (lw 0) (lw 1) alT (bb x1 n) n = -1
            · rw [if_pos z, if_pos z]; exact ⟨w2, rfl⟩
            · rw [if_neg z, if_neg z]
              rcases Hd_range (pl := lw 0) (ti := lw 1) (n := n) (al := alT) (sc := bb x1 n) with q | ⟨s, q1, q2, -⟩
              · exact absurd q z
              · have : hd n lw (bb x1 n) = (s : Int) := q2
                rw [this, pa s q1, b2_some, q2, Int.toNat_natCast]
                exact ⟨w2, rfl⟩
          · rw [if_neg z1, if_neg z1]
            by_cases z2 : x2 = 2
            · rw [if_pos z2, if_pos z2, fi, b2_some]; exact ⟨w2, rfl⟩
            · obtain ⟨w3, e3, -⟩ := M_allPaid (N := N) hN h2 hn b2 (bb_bd x1 n)
              rw [if_neg z2, if_neg z2, e3, b2_some]
              exact ⟨w3, rfl⟩
    · have : b2i (decide (0 ≤ x2) && decide (x2 ≤ 3)) = 0 := by
        unfold b2i
        rw [if_neg]
        simp
        omega
      rw [if_pos this, if_pos (by omega)]
      exact ⟨_, rfl⟩
def a_gain (n : Nat) (lw it : Nat → Int) (x1 x2 : Int) : Int := if x2 < 0 ∨ (n : Int) ≤ x2 ∨ okr n lw x1 = false then -1000000 else gn n lw it (bb x1 n) x2.toNat
theorem X_gain (hN : 10 ≤ N) (h : XL w n lw it) {x1 x2 : Int} (hx : aw_I x1) : ∃ w', x_gain N x1 x2 w = some (a_gain n lw it x1 x2, w') := by
  unfold a_gain
  rw [x_gain, xl_holds, b2_some, h.1]
  by_cases c : 0 ≤ x2 ∧ x2 < (n : Int)
  · rw [if_neg (by simp [b2i, c.1, c.2])]
    obtain ⟨w1, e1, h1, f1, d1⟩ := X_take (N := N) hN h hx
    rw [e1, b2_some]
    cases ho : okr n lw x1 with
    | false =>
      rw [if_pos (by rfl), if_pos (Or.inr (Or.inr rfl))]
      exact ⟨w1, rfl⟩
    | true =>
      obtain ⟨hn, hb⟩ := d1 ho
      obtain ⟨s, rfl⟩ : ∃ s : Nat, x2 = s := ⟨x2.toNat, by omega⟩
      rw [if_neg (by decide), if_neg (by simp; omega), Int.toNat_natCast]
      obtain ⟨w2, e2, h2, b2, s3, s4, s5, s6, ss, f2⟩ := X_settle (N := N) hN h1 hn hb
      rw [e2, b1_some, X_gainOf h2 hn b2 (bb_bd x1 n) ss (by omega), b2_some]
      exact ⟨w2, rfl⟩
  · have : b2i (decide (0 ≤ x2) && decide (x2 < (n : Int))) = 0 := by
      unfold b2i
      rw [if_neg]
      simp
      omega
    rw [if_pos this, if_pos (by omega)]
    exact ⟨w, rfl⟩
theorem M_gain (hN : 10 ≤ N) (h : ML w n lw it) {x1 x2 : Int} (hx : aw_I x1) : ∃ w', m_gain N x1 x2 w = some (a_gain n lw it x1 x2, w') := by
  unfold a_gain
  have h0 : ML (aw_up w 49 0 0) n lw it := h.fr (S := [(49, 0)]) ((fr_r _ w).up rfl) rfl
  rw [m_gain, m_isStriver_ok, b2_some, h0.1]
  by_cases c : 0 ≤ x2 ∧ x2 < (n : Int)
  · have hn : n ≠ 0 := by omega
    rw [if_neg (by simp [b2i, c.1, c.2])]
    obtain ⟨w1, e1, h1, f1, d1⟩ := M_lay (N := N) hN h0 hn hx
    rw [e1, b2_some]
    cases ho : okr n lw x1 with
    | false =>
      rw [if_pos (by rfl), if_pos (Or.inr (Or.inr rfl))]
      exact ⟨w1, rfl⟩
    | true =>
      obtain ⟨s, rfl⟩ : ∃ s : Nat, x2 = s := ⟨x2.toNat, by omega⟩
      rw [if_neg (by decide), if_neg (by simp; omega), Int.toNat_natCast]
      obtain ⟨w2, e2, -⟩ := M_gainOf (N := N) hN h1 hn (d1 ho) (bb_bd x1 n) (show s < n by omega)
      rw [e2, b2_some]
      exact ⟨w2, rfl⟩
  · have : b2i (decide (0 ≤ x2) && decide (x2 < (n : Int))) = 0 := by
      unfold b2i
      rw [if_neg]
      simp
      omega
    rw [if_pos this, if_pos (by omega)]
    exact ⟨_, rfl⟩
end BD
