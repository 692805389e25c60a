/-! ===== pure: who of some gains most more: cure, firm ===== -/
/-- the best gain of s by any bid, its lowest bid -/
def bG (n : Nat) (lw it b : Nat → Int) (s : Nat) : Int := bv (gw n lw it b s) (lw 4).toNat
def bB (n : Nat) (lw it b : Nat → Int) (s : Nat) : Int := (bi (gw n lw it b s) (lw 4).toNat : Int)
def btr (p : Nat → Bool) (n : Nat) (lw it b : Nat → Int) : Nat → Int × Int × Int
  | 0 => (-1, -1, 0)
  | i + 1 => if p i = true ∧ (btr p n lw it b i).2.2 < bG n lw it b i - gn n lw it b i then ((i : Int), bB n lw it b i, bG n lw it b i - gn n lw it b i) else btr p n lw it b i
theorem btr_s (p : Nat → Bool) (n : Nat) (lw it b : Nat → Int) (i : Nat) : btr p n lw it b (i + 1) = if p i = true ∧ (btr p n lw it b i).2.2 < bG n lw it b i - gn n lw it b i then ((i : Int), bB n lw it b i, bG n lw it b i - gn n lw it b i) else btr p n lw it b i := rfl
theorem btr_0 (p : Nat → Bool) (n : Nat) (lw it b : Nat → Int) : ∀ i, 0 ≤ (btr p n lw it b i).2.2
  | 0 => Int.le_refl _
  | i + 1 => by
    have := btr_0 p n lw it b i
    rw [btr_s]
    split
    · next h => show 0 ≤ bG n lw it b i - gn n lw it b i; omega
    · exact this
theorem btr_cong {p q : Nat → Bool} {n : Nat} {lw it b : Nat → Int} : ∀ {i : Nat}, (∀ k, k < i → p k = q k) → btr p n lw it b i = btr q n lw it b i
  | 0, _ => rfl
  | i + 1, h => by rw [btr_s, btr_s, btr_cong (fun k hk => h k (by omega)), h i (by omega)]
theorem btr_none {p : Nat → Bool} {n : Nat} {lw it b : Nat → Int} : ∀ {i : Nat}, (btr p n lw it b i).1 = -1 ↔ ∀ k, k < i → p k = true → ¬ gn n lw it b k < bG n lw it b k := by
  intro i
  have key : ∀ i, ((btr p n lw it b i).1 = -1 ∧ (btr p n lw it b i).2.2 = 0 ∧ ∀ k, k < i → p k = true → ¬ gn n lw it b k < bG n lw it b k) ∨ ((btr p n lw it b i).1 ≠ -1 ∧ ∃ k, k < i ∧ p k = true ∧ gn n lw it b k < bG n lw it b k) := by
    intro i
    induction i with
    | zero => exact Or.inl ⟨rfl, rfl, fun k hk => absurd hk (Nat.not_lt_zero k)⟩
    | succ i ih =>
      rw [btr_s]
      by_cases c : p i = true ∧ (btr p n lw it b i).2.2 < bG n lw it b i - gn n lw it b i
      · have h0 := btr_0 p n lw it b i
        rw [if_pos c]
        refine Or.inr ⟨by show (i : Int) ≠ -1; omega, i, by omega, c.1, by omega⟩
      · rw [if_neg c]
        rcases ih with ⟨a1, a2, a3⟩ | ⟨a1, k, a2, a3⟩
        · refine Or.inl ⟨a1, a2, fun k hk hp => ?_⟩
          by_cases e : k = i
          · subst e
            intro q
            exact c ⟨hp, by omega⟩
          · exact a3 k (by omega) hp
        · exact Or.inr ⟨a1, k, by omega, a3⟩
  rcases key i with ⟨a1, -, a3⟩ | ⟨a1, k, a2, a3, a4⟩
  · exact ⟨fun _ => a3, fun _ => a1⟩
  · exact ⟨fun q => absurd q a1, fun q => absurd a4 (q k a2 a3)⟩
section BT
variable {N : Nat} {w : aw_W} {n : Nat} {lw it b : Nat → Int}
theorem bG_bd (h : n ≠ 0 → LB lw ∧ IB it n) (hb : bd n b) {s : Nat} (hs : s < n) : -108 ≤ bG n lw it b s ∧ bG n lw it b s ≤ 99 := by
  have h9 := (h (by omega)).1.2.2.2.2
  exact bv_bd (fun o ho => gw_bd h hb hs (by omega))
theorem xbt_l (hN : 20 ≤ N) (hbd : bd n b) {a : Nat} (ha : a < 64) : ∀ (f i : Nat) (w : aw_W), n - i < f → i ≤ n → XL w n lw it → (∀ k, k < n → w 21 k = b k) → w 22 2 = (btr a.testBit n lw it b i).1 → w 22 3 = (btr a.testBit n lw it b i).2.1 → w 22 4 = (btr a.testBit n lw it b i).2.2 → ∃ w', x_Replies_better_17 N f a i w = some w' ∧ XL w' n lw it ∧ (∀ k, k < n → w' 21 k = b k) ∧ w' 22 2 = (btr a.testBit n lw it b n).1 ∧ w' 22 3 = (btr a.testBit n lw it b n).2.1 ∧ w' 22 4 = (btr a.testBit n lw it b n).2.2 := by
  intro f
  induction f with
  | zero => intro i w h; omega
  | succ f ih =>
    intro i w hf hin h hb i1 i2 i3
    obtain ⟨q0, q1, q2, q3, q4, q5⟩ := id h
    rw [x_Replies_better_17, q0]
    by_cases c : (n : Int) ≤ (i : Int)
    · have : i = n := by omega
      subst this
      rw [if_pos c]
      exact ⟨w, rfl, h, hb, i1, i2, i3⟩
    · have hin2 : i < n := by omega
      rw [if_neg c, bt_has a ha i (by omega)]
      by_cases hp : a.testBit i = true
      · rw [if_pos hp, if_neg (by decide), if_pos ⟨by omega, by omega⟩, Int.toNat_natCast, hb i hin2]
        have hbi := hbd i hin2
        obtain ⟨o, eo⟩ : ∃ o : Nat, b i = o := ⟨(b i).toNat, by omega⟩
        obtain ⟨w1, e1, h1, b1, -, f1⟩ := X_gainWith (N := N) (by omega) h hb hbd hin2 (show o ≤ 9 by omega)
        rw [← eo, upb_self] at b1
        have eg : gw n lw it b i o = gn n lw it b i := by unfold gw; rw [← eo, upb_self]
        rw [eo, e1, b2_some, eg]
        obtain ⟨w2, e2, h2, b2, g2, f2⟩ := X_bestBid (N := N) hN h1 b1 hbd hin2
        rw [e2, b2_some, g2]
        have B1 := gn_bd q5 hbd hin2
        have B2 := bG_bd q5 hbd hin2
        change ∃ w', (if aw_w (bG n lw it b i - gn n lw it b i) ≤ w2 22 4 then x_Replies_better_107 N (x_Replies_better_17 N f) a i w2 else x_Replies_better_107 N (x_Replies_better_17 N f) a i (aw_up (aw_up (aw_up w2 22 2 i) 22 3 (bB n lw it b i)) 22 4 (aw_w (bG n lw it b i - gn n lw it b i)))) = _ ∧ _
        rw [ww (by omega) (by omega)]
        have r : ∀ k, w2 22 k = w 22 k := fun k => by rw [f2 22 k rfl, f1 22 k rfl]
        rw [r 4, i3]
        by_cases cc : bG n lw it b i - gn n lw it b i ≤ (btr a.testBit n lw it b i).2.2
        · have eb : btr a.testBit n lw it b (i + 1) = btr a.testBit n lw it b i := by rw [btr_s, if_neg (by omega)]
          rw [if_pos cc, x_Replies_better_107, ww1 (by omega)]
          exact ih (i + 1) w2 (by omega) (by omega) h2 b2 (by rw [r, eb]; exact i1) (by rw [r, eb]; exact i2) (by rw [r, eb]; exact i3)
        · have eb : btr a.testBit n lw it b (i + 1) = ((i : Int), bB n lw it b i, bG n lw it b i - gn n lw it b i) := by rw [btr_s, if_pos ⟨hp, by omega⟩]
          rw [if_neg cc, x_Replies_better_107, ww1 (by omega)]
          exact ih (i + 1) _ (by omega) (by omega) (h2.fr (S := [(22, 2), (22, 3), (22, 4)]) ((((fr_r _ w2).up rfl).up rfl).up rfl) rfl) (fun k hk => by simp [aw_up]; exact b2 k hk) (by rw [eb]; simp [aw_up]) (by rw [eb]; simp [aw_up]) (by rw [eb]; simp [aw_up])
      · have eb : btr a.testBit n lw it b (i + 1) = btr a.testBit n lw it b i := by rw [btr_s, if_neg (fun z => hp z.1)]
        rw [if_neg hp, if_pos rfl, x_Replies_better_107, ww1 (by omega)]
        exact ih (i + 1) w (by omega) (by omega) h hb (by rw [eb]; exact i1) (by rw [eb]; exact i2) (by rw [eb]; exact i3)
theorem X_better (hN : 20 ≤ N) (h : XL w n lw it) (hb : ∀ k, k < n → w 21 k = b k) (hbd : bd n b) {a : Nat} (ha : a < 64) : ∃ w', x_Replies_better N a w = some w' ∧ XL w' n lw it ∧ (∀ k, k < n → w' 21 k = b k) ∧ w' 22 2 = (btr a.testBit n lw it b n).1 ∧ w' 22 3 = (btr a.testBit n lw it b n).2.1 ∧ w' 22 4 = (btr a.testBit n lw it b n).2.2 := by
  have hn6 := h.2.1
  rw [x_Replies_better]
  exact xbt_l (N := N) hN hbd ha N 0 _ (by omega) (by omega) (h.fr (S := [(22, 2), (22, 3), (22, 4)]) ((((fr_r _ w).up rfl).up rfl).up rfl) rfl) (fun k hk => by simp [aw_up]; exact hb k hk) (by simp [aw_up]; rfl) (by simp [aw_up]; rfl) (by simp [aw_up]; rfl)
theorem all_n : ∀ n : Nat, n ≤ 6 → aw_w (aw_shl 1 (n : Int) - 1) = ((2 ^ n - 1 : Nat) : Int) ∧ 2 ^ n - 1 < 64 ∧ ∀ i, i < n → (2 ^ n - 1).testBit i = true := by decide +kernel
theorem X_all (h : XL w n lw it) : x_Land_all N w = some (((2 ^ n - 1 : Nat) : Int), w) := by
  rw [x_Land_all, h.1, (all_n n h.2.1).1]
def a_cure (n : Nat) (lw it : Nat → Int) (x1 x2 : Int) : Int :=
  if x2 < 0 ∨ 2 < x2 ∨ okr n lw x1 = false then -1000000 else if x2 = 0 then (btr alT n lw it (bb x1 n) n).1 else if x2 = 1 then (btr alT n lw it (bb x1 n) n).2.1 else (btr alT n lw it (bb x1 n) n).2.2
theorem X_cure (hN : 20 ≤ N) (h : XL w n lw it) {x1 x2 : Int} (hx : aw_I x1) : ∃ w', x_cure N x1 x2 w = some (a_cure n lw it x1 x2, w') := by
  unfold a_cure
  rw [x_cure]
  by_cases c1 : x2 < 0
  · rw [if_pos c1, if_pos (Or.inl c1)]
    exact ⟨w, rfl⟩
  · rw [if_neg c1]
    by_cases c2 : 2 < x2
    · rw [if_pos c2, if_pos (Or.inr (Or.inl c2))]
      exact ⟨w, rfl⟩
    · rw [if_neg c2]
      obtain ⟨w1, e1, h1, f1, d1⟩ := X_take (N := N) (by omega) h hx
      rw [e1, b2_some]
      cases ho : okr n lw x1 with
      | false =>
        rw [if_pos (by rfl), if_pos (Or.inr (Or.inr rfl))]
        exact ⟨w1, rfl⟩
      | true =>
        obtain ⟨hn, hb⟩ := d1 ho
        have al := all_n n h.2.1
        rw [if_neg (by decide), if_neg (by simp; omega), X_all h1, b2_some]
        obtain ⟨w2, e2, h2, b2, s1, s2, s3⟩ := X_better (N := N) hN h1 hb (bb_bd x1 n) al.2.1
        have ec : btr (2 ^ n - 1).testBit n lw it (bb x1 n) n = btr alT n lw it (bb x1 n) n := btr_cong (fun k hk => by rw [al.2.2 k hk]; rfl)
        rw [ec] at s1 s2 s3
        rw [e2, b1_some, s1, s2, s3]
        by_cases z0 : x2 = 0
        · rw [if_pos z0, if_pos z0]; exact ⟨w2, rfl⟩
        · rw [if_neg z0, if_neg z0]
          by_cases z1 : x2 = 1
          · rw [if_pos z1, if_pos z1]; exact ⟨w2, rfl⟩
          · rw [if_neg z1, if_neg z1]; exact ⟨w2, rfl⟩
theorem mo_lt {g : Nat → Int} {now m : Int} {k : Nat} (hm : 0 ≤ m) : m < mo2 g now k ↔ m < bv g k - now := by
  unfold mo2
  split <;> omega
theorem mo_eq {g : Nat → Int} {now m : Int} {k : Nat} (hm : 0 ≤ m) (h : m < bv g k - now) : mo2 g now k = bv g k - now ∧ mo1 g now k = bi g k := by
  unfold mo1 mo2
  rw [if_pos (by omega), if_pos (by omega)]
  exact ⟨rfl, rfl⟩
theorem mcu_l (hN : 20 ≤ N) (hbd : bd n b) {x2 : Int} : ∀ (f i : Nat) (w : aw_W), n - i < f → i ≤ n → ML w n lw it → (∀ k, k < n → w 64 k = b k) → ∃ w', m_cure_47 N f x2 (btr alT n lw it b i).1 (btr alT n lw it b i).2.1 (btr alT n lw it b i).2.2 i w = m_cure_95 N x2 (btr alT n lw it b n).1 (btr alT n lw it b n).2.1 (btr alT n lw it b n).2.2 w' := by
  intro f
  induction f with
  | zero => intro i w h; omega
  | succ f ih =>
    intro i w hf hin h hb
    obtain ⟨q0, q1, q2, q3, q4, q5⟩ := id h
    rw [m_cure_47, q0]
    by_cases c : (n : Int) ≤ (i : Int)
    · have : i = n := by omega
      subst this
      rw [if_pos c]
      exact ⟨w, rfl⟩
    · have hin2 : i < n := by omega
      obtain ⟨w1, e1, h1, b1, g1, g2, f1⟩ := M_layBest (N := N) hN h hb hbd hin2
      have h0 := btr_0 alT n lw it b i
      rw [if_neg c, e1, b1_some, g1, g2]
      by_cases cc : (btr alT n lw it b i).2.2 < mo2 (gw n lw it b i) (gn n lw it b i) (lw 4).toNat
      · have cc2 := (mo_lt h0).mp cc
        obtain ⟨t1, t2⟩ := mo_eq h0 cc2
        have eb : btr alT n lw it b (i + 1) = ((i : Int), bB n lw it b i, bG n lw it b i - gn n lw it b i) := by rw [btr_s, if_pos ⟨rfl, cc2⟩]
        rw [if_pos cc, m_cure_89, ww1 (by omega), t1, t2]
        have := ih (i + 1) w1 (by omega) (by omega) h1 b1
        rw [eb] at this
        exact this
      · have eb : btr alT n lw it b (i + 1) = btr alT n lw it b i := by rw [btr_s, if_neg (fun z => cc ((mo_lt h0).mpr z.2))]
        rw [if_neg cc, m_cure_89, ww1 (by omega)]
        have := ih (i + 1) w1 (by omega) (by omega) h1 b1
        rw [eb] at this
        exact this
theorem M_cure (hN : 20 ≤ N) (h : ML w n lw it) {x1 x2 : Int} (hx : aw_I x1) : ∃ w', m_cure N x1 x2 w = some (a_cure n lw it x1 x2, w') := by
  unfold a_cure
  rw [m_cure, h.1]
  by_cases hn : n = 0
  · subst hn
    rw [if_pos (by rfl)]
    have : okr 0 lw x1 = false := by unfold okr; simp
    rw [if_pos (Or.inr (Or.inr this))]
    exact ⟨_, rfl⟩
  · have h0 : ML (aw_up w 49 0 0) n lw it := h.fr (S := [(49, 0)]) ((fr_r _ w).up rfl) rfl
    rw [if_neg (by omega), m_isIn_ok, b2_some]
    by_cases c1 : 0 ≤ x2 ∧ x2 ≤ 2
    · rw [if_neg (by simp [b2i, c1.1, c1.2])]
      obtain ⟨w1, e1, h1, f1, d1⟩ := M_lay (N := N) (by omega) h0 hn hx
      rw [e1, b2_some]
      cases ho : okr n lw x1 with
      | false =>
        rw [if_pos (by rfl), if_pos (Or.inr (Or.inr rfl))]
        exact ⟨w1, rfl⟩
      | true =>
        rw [if_neg (by decide), if_neg (by simp; omega)]
        have hn6 := h.2.1
        obtain ⟨w2, e2⟩ := mcu_l (N := N) (x2 := x2) hN (bb_bd x1 n) N 0 w1 (by omega) (by omega) h1 (d1 ho)
        have e2' : m_cure_47 N N x2 (-1) (-1) 0 0 w1 = _ := e2
        rw [e2', m_cure_95]
        by_cases z0 : x2 = 0
        · rw [if_pos z0, if_pos z0]; exact ⟨w2, rfl⟩
        · rw [if_neg z0, if_neg z0]
          by_cases z1 : x2 = 1
          · rw [if_pos z1, if_pos z1]; exact ⟨w2, rfl⟩
          · rw [if_neg z1, if_neg z1]; exact ⟨w2, rfl⟩
    · have : b2i (decide (0 ≤ x2) && decide (x2 ≤ 2)) = 0 := by
        unfold b2i
        rw [if_neg]
        simp
        omega
      rw [if_pos this, if_pos (by omega)]
      exact ⟨_, rfl⟩
/-! firm -/
def okp (n : Nat) (lw : Nat → Int) (x1 x2 : Int) : Bool := decide (0 < x2) && decide (x2 < (2 ^ n : Nat)) && okr n lw x1
def a_firm (n : Nat) (lw it : Nat → Int) (x1 x2 : Int) : Int := if okp n lw x1 x2 = false then -1 else if (btr x2.toNat.testBit n lw it (bb x1 n) n).1 = -1 then 1 else 0
theorem pow_n : ∀ n : Nat, n ≤ 6 → aw_shl 1 (n : Int) = ((2 ^ n : Nat) : Int) ∧ 1 ≤ 2 ^ n ∧ 2 ^ n ≤ 64 := by decide +kernel
theorem X_holdsSome (h : XL w n lw it) (x : Int) : x_Land_holdsSome N x w = some (b2i (decide (0 < x) && decide (x < (2 ^ n : Nat))), w) := by
  have al := all_n n h.2.1
  have pn := pow_n n h.2.1
  rw [x_Land_holdsSome, X_all h]
  by_cases c : x ≤ 0
  · have : ¬ 0 < x := by omega
    rw [if_pos c]
    simp [x_Land_holdsSome_16, x_Land_holdsSome_17, b2i, this]
  · have c' : 0 < x := by omega
    rw [if_neg c, b2_some]
    by_cases c2 : ((2 ^ n - 1 : Nat) : Int) < x
    · have : ¬ x < ((2 ^ n : Nat) : Int) := by omega
      rw [if_pos c2, x_Land_holdsSome_16, x_Land_holdsSome_17, if_pos (Or.inl rfl)]
      congr 2
      unfold b2i
      rw [if_neg]
      rw [Bool.and_eq_true, decide_eq_true_eq, decide_eq_true_eq]
      exact fun z => this z.2
    · have : x < ((2 ^ n : Nat) : Int) := by omega
      rw [if_neg c2, x_Land_holdsSome_17, if_pos (Or.inr rfl)]
      congr 2
      unfold b2i
      rw [if_pos]
      rw [Bool.and_eq_true, decide_eq_true_eq, decide_eq_true_eq]
      exact ⟨c', this⟩
theorem X_firm (hN : 20 ≤ N) (h : XL w n lw it) {x1 x2 : Int} (hx : aw_I x1) : ∃ w', x_firm N x1 x2 w = some (a_firm n lw it x1 x2, w') := by
  unfold a_firm
  have pn := pow_n n h.2.1
  rw [x_firm, X_holdsSome h, b2_some]
  cases hp : (decide (0 < x2) && decide (x2 < ((2 ^ n : Nat) : Int))) with
  | false =>
    rw [if_pos (by rfl), if_pos (by unfold okp; rw [hp]; rfl)]
    exact ⟨w, rfl⟩
  | true =>
    rw [if_neg (by decide)]
    obtain ⟨w1, e1, h1, f1, d1⟩ := X_take (N := N) (by omega) h hx
    rw [e1, b2_some]
    cases ho : okr n lw x1 with
    | false =>
      rw [if_pos (by rfl), if_pos (by unfold okp; rw [ho]; simp)]
      exact ⟨w1, rfl⟩
    | true =>
      obtain ⟨hn, hb⟩ := d1 ho
      have hok : ¬ okp n lw x1 x2 = false := by unfold okp; rw [hp, ho]; simp
      rw [Bool.and_eq_true, decide_eq_true_eq, decide_eq_true_eq] at hp
      obtain ⟨a, rfl⟩ : ∃ a : Nat, x2 = a := ⟨x2.toNat, by omega⟩
      obtain ⟨w2, e2, h2, b2, s1, s2, s3⟩ := X_better (N := N) (a := a) hN h1 hb (bb_bd x1 n) (by omega)
      rw [if_neg (by decide), if_neg hok, e2, b1_some, s1, Int.toNat_natCast]
      by_cases z : (btr a.testBit n lw it (bb x1 n) n).1 = -1
      · rw [if_pos z, if_pos z]; exact ⟨w2, rfl⟩
      · rw [if_neg z, if_neg z]; exact ⟨w2, rfl⟩
theorem M_isPact (hN : 20 ≤ N) (h : ML w n lw it) {x1 x2 : Int} (hx : aw_I x1) : ∃ w', m_isPact N x1 x2 w = some (b2i (okp n lw x1 x2), w') ∧ ML w' n lw it ∧ fr_ S_m_isPact w w' ∧ (okp n lw x1 x2 = true → n ≠ 0 ∧ ∀ s, s < n → w' 64 s = bb x1 n s) := by
  have pn := pow_n n h.2.1
  have key : ∃ w', m_isPact N x1 x2 w = some (b2i (okp n lw x1 x2), w') ∧ ML w' n lw it ∧ (okp n lw x1 x2 = true → n ≠ 0 ∧ ∀ s, s < n → w' 64 s = bb x1 n s) := by
    have no : okp n lw x1 x2 = false → m_isPact_33 N w = some (b2i (okp n lw x1 x2), w) := fun q => by rw [q]; rfl
    rw [m_isPact, h.1]
    by_cases hn : n = 0
    · have q : okp n lw x1 x2 = false := by unfold okp okr; simp [hn]
      rw [if_pos (by omega)]
      exact ⟨w, no q, h, fun z => by rw [q] at z; cases z⟩
    · rw [if_neg (by omega)]
      by_cases c1 : x2 ≤ 0
      · have q : okp n lw x1 x2 = false := by unfold okp; have : ¬ 0 < x2 := by omega
                                              simp [this]
        rw [if_pos c1]
        exact ⟨w, no q, h, fun z => by rw [q] at z; cases z⟩
      · rw [if_neg c1, pn.1]
        by_cases c2 : ((2 ^ n : Nat) : Int) ≤ x2
        · have q : okp n lw x1 x2 = false := by
            unfold okp
            have : decide (x2 < ((2 ^ n : Nat) : Int)) = false := decide_eq_false (by omega)
            rw [this]
            simp
          rw [if_pos c2]
          exact ⟨w, no q, h, fun z => by rw [q] at z; cases z⟩
        · have q1 : decide (0 < x2) = true := decide_eq_true (by omega)
          have q2 : decide (x2 < ((2 ^ n : Nat) : Int)) = true := decide_eq_true (by omega)
          have q : okp n lw x1 x2 = okr n lw x1 := by unfold okp; rw [q1, q2]; rfl
          obtain ⟨w1, e1, h1, f1, d1⟩ := M_lay (N := N) (by omega) h hn hx
          rw [if_neg c2, e1, b2_some, q]
          cases ho : okr n lw x1 with
          | false =>
            rw [if_pos (by rfl)]
            exact ⟨w1, rfl, h1, fun z => by cases z⟩
          | true =>
            rw [if_neg (by decide)]
            exact ⟨w1, rfl, h1, fun _ => ⟨hn, d1 ho⟩⟩
  obtain ⟨w', e, a, c⟩ := key
  exact ⟨w', e, a, f_m_isPact N _ _ _ _ _ e, c⟩
theorem m_has_ok {a : Nat} (ha : a < 64) {s : Nat} (hs : s < 6) : m_has N a s w = some (b2i (a.testBit s), w) := by
  rw [m_has, bt_has a ha s hs]
  cases a.testBit s with
  | true => rfl
  | false => rfl
theorem mfi_l (hN : 20 ≤ N) (hbd : bd n b) {a : Nat} (ha : a < 64) : ∀ (f i : Nat) (w : aw_W), n - i < f → i ≤ n → ML w n lw it → (∀ k, k < n → w 64 k = b k) → (∀ k, k < i → a.testBit k = true → ¬ gn n lw it b k < bG n lw it b k) → ∃ w', m_firm_18 N f a i w = some (if (btr a.testBit n lw it b n).1 = -1 then 1 else 0, w') := by
  intro f
  induction f with
  | zero => intro i w h; omega
  | succ f ih =>
    intro i w hf hin h hb hno
    obtain ⟨q0, q1, q2, q3, q4, q5⟩ := id h
    rw [m_firm_18, q0]
    by_cases c : (n : Int) ≤ (i : Int)
    · have : i = n := by omega
      subst this
      rw [if_pos c, if_pos (btr_none.mpr hno)]
      exact ⟨w, rfl⟩
    · have hin2 : i < n := by omega
      rw [if_neg c, m_has_ok ha (by omega), b2_some]
      cases hp : a.testBit i with
      | false =>
        rw [if_pos (by rfl), m_firm_51, ww1 (by omega)]
        refine ih (i + 1) w (by omega) (by omega) h hb (fun k hk hk2 => ?_)
        by_cases e : k = i
        · subst e; rw [hp] at hk2; cases hk2
        · exact hno k (by omega) hk2
      | true =>
        obtain ⟨w1, e1, h1, b1, g1, g2, f1⟩ := M_layBest (N := N) hN h hb hbd hin2
        rw [if_neg (by decide), e1, b1_some, g2]
        have hlt := mo_lt (g := gw n lw it b i) (now := gn n lw it b i) (k := (lw 4).toNat) (Int.le_refl 0)
        by_cases cc : mo2 (gw n lw it b i) (gn n lw it b i) (lw 4).toNat ≤ 0
        · rw [if_pos cc, m_firm_51, ww1 (by omega)]
          refine ih (i + 1) w1 (by omega) (by omega) h1 b1 (fun k hk hk2 => ?_)
          by_cases e : k = i
          · subst e
            intro z
            have : 0 < bv (gw n lw it b k) (lw 4).toNat - gn n lw it b k := by
              have : gn n lw it b k < bv (gw n lw it b k) (lw 4).toNat := z
              omega
            have := hlt.mpr this
            omega
          · exact hno k (by omega) hk2
        · have hne : ¬ (btr a.testBit n lw it b n).1 = -1 := by
            rw [btr_none]
            intro z
            refine z i hin2 hp ?_
            have := hlt.mp (by omega)
            show gn n lw it b i < bv (gw n lw it b i) (lw 4).toNat
            omega
          rw [if_neg cc, if_neg hne]
          exact ⟨w1, rfl⟩
theorem M_firm (hN : 20 ≤ N) (h : ML w n lw it) {x1 x2 : Int} (hx : aw_I x1) : ∃ w', m_firm N x1 x2 w = some (a_firm n lw it x1 x2, w') := by
  unfold a_firm
  have pn := pow_n n h.2.1
  have h0 : ML (aw_up w 49 0 0) n lw it := h.fr (S := [(49, 0)]) ((fr_r _ w).up rfl) rfl
  obtain ⟨w1, e1, h1, f1, d1⟩ := M_isPact (N := N) (x2 := x2) hN h0 hx
  rw [m_firm, e1, b2_some]
  cases ho : okp n lw x1 x2 with
  | false =>
    rw [if_pos (by rfl), if_pos rfl]
    exact ⟨w1, rfl⟩
  | true =>
    obtain ⟨hn, hb⟩ := d1 ho
    have hn6 := h.2.1
    unfold okp at ho
    rw [Bool.and_eq_true, Bool.and_eq_true, decide_eq_true_eq, decide_eq_true_eq] at ho
    obtain ⟨a, rfl⟩ : ∃ a : Nat, x2 = a := ⟨x2.toNat, by omega⟩
    rw [if_neg (by decide), if_neg (by decide), Int.toNat_natCast]
    exact mfi_l (N := N) (a := a) hN (bb_bd x1 n) (by omega) N 0 w1 (by omega) (by omega) h1 hb (fun k hk => absurd hk (Nat.not_lt_zero k))
end BT
