/-! ===== pure: the book of honours ===== -/
def XB (w : aw_W) (m : Nat) (r : Nat → Nat) : Prop := w 41 4 = m ∧ m ≤ 40 ∧ ∀ k, k < 40 → w 42 k = (r k : Int) ∧ r k < 2147483648
def MB (w : aw_W) (m : Nat) (r : Nat → Nat) : Prop := w 49 43 = m ∧ m ≤ 40 ∧ ∀ k, k < 40 → w 69 k = (r k : Int) ∧ r k < 2147483648
def P_XB : List (Nat × Nat) := [(41, 4), (42, 1000000)]
def P_MB : List (Nat × Nat) := [(49, 43), (69, 1000000)]
def upr (r : Nat → Nat) (m x : Nat) : Nat → Nat := fun k => if k = m then x else r k
section BK
variable {N : Nat} {w v : aw_W} {n m : Nat} {lw it : Nat → Int} {r : Nat → Nat} {S : List (Nat × Nat)}
theorem XB.fr (h : XB w m r) (hf : fr_ S w v) (ha : avd S P_XB = true) : XB v m r :=
  ⟨by rw [avd_fr ha hf rfl]; exact h.1, h.2.1, fun k hk => by rw [avd_fr ha hf (fr_inA rfl k)]; exact h.2.2 k hk⟩
theorem MB.fr (h : MB w m r) (hf : fr_ S w v) (ha : avd S P_MB = true) : MB v m r :=
  ⟨by rw [avd_fr ha hf rfl]; exact h.1, h.2.1, fun k hk => by rw [avd_fr ha hf (fr_inA rfl k)]; exact h.2.2 k hk⟩
theorem X_put (hN : 10 ≤ N) (h : XL w n lw it) {q : Nat} (hq : q < 2147483648) : ∃ w', x_Sale_put N (q : Int) w = some (((q / 10 ^ n : Nat) : Int), w') ∧ XL w' n lw it ∧ (∀ s, s < n → w' 21 s = bq q n s) ∧ fr_ S_x_Sale_put w w' := by
  obtain ⟨w', e, d, f⟩ := xp_put (N := N) (w := w) hN h.1 h.2.1 q hq
  exact ⟨w', e, h.fr f rfl, fun s hs => by rw [d s hs]; unfold bq; rw [if_pos hs], f⟩
theorem X_add (h : XB w m r) (hm : m < 40) {x : Nat} (hx : x < 2147483648) : ∃ w', x_Book_add N (x : Int) w = some w' ∧ XB w' (m + 1) (upr r m x) := by
  obtain ⟨h0, h1, h2⟩ := h
  rw [x_Book_add, h0, if_neg (by omega), if_pos ⟨by omega, by omega⟩, ww1 (by omega), Int.toNat_natCast]
  refine ⟨_, rfl, by simp [aw_up], by omega, fun k hk => ?_⟩
  unfold upr
  by_cases e : k = m
  · subst e
    simp [aw_up]
    exact hx
  · simp [aw_up, e]
    exact h2 k hk
theorem mlb_l {q : Nat} (hq : q < 2147483648) (hn : n ≤ 6) : ∀ (i f : Nat) (w : aw_W), i < f → i ≤ n → (∀ s, i ≤ s → s < n → w 64 s = (dg q n s : Int)) → ∃ w', m_layBooked_14 N f ((q / 10 ^ (n - i) : Nat) : Int) ((i : Int) - 1) w = m_layBooked_39 N w' ∧ (∀ s, s < n → w' 64 s = (dg q n s : Int)) ∧ fr_ [(64, 1000000)] w w' := by
  intro i
  induction i with
  | zero =>
    intro f w hf hin hs
    cases f with
    | zero => omega
    | succ f =>
      rw [m_layBooked_14, if_pos (by omega)]
      exact ⟨w, rfl, fun s h => hs s (Nat.zero_le s) h, fr_r _ _⟩
  | succ i ih =>
    intro f w hf hin hs
    cases f with
    | zero => omega
    | succ f =>
      have hr : q / 10 ^ (n - (i + 1)) < 2147483648 := Nat.lt_of_le_of_lt (Nat.div_le_self _ _) hq
      have e1 : q / 10 ^ (n - (i + 1)) / 10 = q / 10 ^ (n - i) := by
        rw [Nat.div_div_eq_div_mul, ← Nat.pow_succ, show (n - (i + 1)).succ = n - i by omega]
      have e2 : q / 10 ^ (n - (i + 1)) % 10 = dg q n i := by
        unfold dg
        rw [show n - 1 - i = n - (i + 1) by omega]
      have hdl := dg_lt q n i
      generalize q / 10 ^ (n - (i + 1)) = z at hr e1 e2 ⊢
      rw [m_layBooked_14, show (((i + 1 : Nat) : Int) - 1) = (i : Int) by omega, if_neg (by omega), if_pos ⟨by omega, by omega⟩, td10, tm10, Int.toNat_natCast, ww (x := ((z / 10 : Nat) : Int)) (by omega) (by omega), ww (x := (i : Int) + (-1)) (by omega) (by omega), ww (x := ((z % 10 : Nat) : Int)) (by omega) (by omega)]
      rw [e1, e2, show (i : Int) + (-1) = (i : Int) - 1 by omega]
      obtain ⟨w', a1, a2, a3⟩ := ih f (aw_up w 64 i ((dg q n i : Nat) : Int)) (by omega) (by omega) (fun s h1 h2 => by
        by_cases e : s = i
        · subst e
          simp [aw_up]
        · simp [aw_up, e]
          exact hs s (by omega) h2)
      exact ⟨w', a1, a2, (((fr_r _ w).upA rfl).trans a3)⟩
theorem M_layBooked (hN : 10 ≤ N) (h : ML w n lw it) (hn : n ≠ 0) (hb : MB w m r) {k : Nat} (hk : k < m) : ∃ w', m_layBooked N (k : Int) w = some w' ∧ ML w' n lw it ∧ MB w' m r ∧ (∀ s, s < n → w' 64 s = bq (r k) n s) ∧ m_winner N w' = some (hd n lw (bq (r k) n), w') ∧ m_firsts N w' = some ((Fb (lw 1) (bq (r k) n) n : Int), w') := by
  have hm := hb.2.1
  have hn6 := h.2.1
  obtain ⟨hk1, hk2⟩ := hb.2.2 k (by omega)
  obtain ⟨w1, e1, b1, f1⟩ := mlb_l (N := N) (n := n) hk2 hn6 n N w (by omega) (Nat.le_refl _) (fun s h1 h2 => absurd h2 (by omega))
  rw [Nat.sub_self, Nat.pow_zero, Nat.div_one] at e1
  have h1 := h.fr f1 rfl
  obtain ⟨w2, e2, h2, b2, wn, fi, pa, f2⟩ := M_judge (N := N) (b := bq (r k) n) hN h1 hn (fun s hs => by rw [b1 s hs]; unfold bq; rw [if_pos hs])
  refine ⟨w2, ?_, h2, (hb.fr f1 rfl).fr f2 rfl, b2, wn, fi⟩
  rw [m_layBooked, if_pos ⟨by omega, by omega⟩, Int.toNat_natCast, hk1, h.1, ww (x := (n : Int) - 1) (by omega) (by omega), e1, m_layBooked_39, e2, b1_some]
/-! often -/
def ofp (n : Nat) (lw : Nat → Int) (r : Nat → Nat) (x : Int) : Nat → Bool := fun i => decide (hd n lw (bq (r i) n) = x)
theorem ct40 {p : Nat → Bool} {i m : Nat} (hi : i ≤ m) (hm : m ≤ 40) : ct p i ≤ 40 := by
  have := ct_le p i
  omega
theorem cts1 {p : Nat → Bool} {i : Nat} (hi : i ≤ 40) (h : p i = true) : aw_w ((ct p i : Int) + 1) = ((ct p (i + 1) : Nat) : Int) := by
  have := ct_le p i
  rw [ct_s, if_pos h, ww1 (by omega)]
theorem cts0 {p : Nat → Bool} {i : Nat} (hi : i ≤ 40) (h : p i = false) : aw_w ((ct p i : Int) + 0) = ((ct p (i + 1) : Nat) : Int) := by
  have := ct_le p i
  rw [ct_s, if_neg (by rw [h]; decide), ww (by omega) (by omega)]
  omega
theorem xto_l (hN : 10 ≤ N) (hn : n ≠ 0) {x : Int} : ∀ (f i : Nat) (w : aw_W), m - i < f → i ≤ m → XL w n lw it → XB w m r → ∃ w', x_Book_timesOf_4 N f x (ct (ofp n lw r x) i : Int) i w = some ((ct (ofp n lw r x) m : Int), w') := by
  intro f
  induction f with
  | zero => intro i w hf; omega
  | succ f ih =>
    intro i w hf hi h hb
    have hm := hb.2.1
    rw [x_Book_timesOf_4, hb.1]
    by_cases c : (m : Int) ≤ (i : Int)
    · have : i = m := by omega
      subst this
      rw [if_pos c]
      exact ⟨w, rfl⟩
    · obtain ⟨hk1, hk2⟩ := hb.2.2 i (by omega)
      obtain ⟨w1, e1, h1, b1, f1⟩ := X_put (N := N) hN h hk2
      obtain ⟨w2, e2, h2, b2, s3, s4, s5, s6, ss, f2⟩ := X_settle (N := N) hN h1 hn b1
      rw [if_neg c, if_pos ⟨by omega, by omega⟩, Int.toNat_natCast, hk1, e1, b2_some, e2, b1_some, s3]
      have hb2 := (hb.fr f1 rfl).fr f2 rfl
      by_cases z : hd n lw (bq (r i) n) = x
      · rw [if_pos z, x_Book_timesOf_50, cts1 (by omega) (decide_eq_true z), ww1 (by omega)]
        exact ih (i + 1) w2 (by omega) (by omega) h2 hb2
      · rw [if_neg z, x_Book_timesOf_50, cts0 (by omega) (decide_eq_false z), ww1 (by omega)]
        exact ih (i + 1) w2 (by omega) (by omega) h2 hb2
def a_often (n : Nat) (lw : Nat → Int) (m : Nat) (r : Nat → Nat) (x : Int) : Int := if x < 0 ∨ (n : Int) ≤ x then -1 else (ct (ofp n lw r x) m : Int)
theorem b2i_rng {x : Int} {n : Int} : b2i (decide (0 ≤ x) && decide (x < n)) = 0 ↔ (x < 0 ∨ n ≤ x) := by
  rw [b2i_and]
  omega
theorem X_often (hN : 100 ≤ N) (h : XL w n lw it) (hb : XB w m r) {x : Int} : ∃ w', x_often N x w = some (a_often n lw m r x, w') := by
  unfold a_often
  rw [x_often, xl_holds, b2_some, h.1]
  by_cases c : x < 0 ∨ (n : Int) ≤ x
  · rw [if_pos (b2i_rng.mpr c), if_pos c]
    exact ⟨w, rfl⟩
  · have hm := hb.2.1
    obtain ⟨w1, e1⟩ := xto_l (N := N) (x := x) (by omega) (show n ≠ 0 by omega) N 0 w (by omega) (Nat.zero_le _) h hb
    have e1' : x_Book_timesOf N x w = some ((ct (ofp n lw r x) m : Int), w1) := e1
    rw [if_neg (fun z => c (b2i_rng.mp z)), if_neg c, e1', b2_some]
    exact ⟨w1, rfl⟩
theorem mto_l (hN : 10 ≤ N) (hn : n ≠ 0) {x : Int} : ∀ (f i : Nat) (w : aw_W), m - i < f → i ≤ m → ML w n lw it → MB w m r → ∃ w', m_often_19 N f x (ct (ofp n lw r x) i : Int) i w = some ((ct (ofp n lw r x) m : Int), w') := by
  intro f
  induction f with
  | zero => intro i w hf; omega
  | succ f ih =>
    intro i w hf hi h hb
    have hm := hb.2.1
    rw [m_often_19, hb.1]
    by_cases c : (m : Int) ≤ (i : Int)
    · have : i = m := by omega
      subst this
      rw [if_pos c]
      exact ⟨w, rfl⟩
    · obtain ⟨w1, e1, h1, hb1, b1, wn, fi⟩ := M_layBooked (N := N) hN h hn hb (show i < m by omega)
      rw [if_neg c, e1, b1_some, wn, b2_some]
      by_cases z : hd n lw (bq (r i) n) = x
      · rw [if_pos z, m_often_46, cts1 (by omega) (decide_eq_true z), ww1 (by omega)]
        exact ih (i + 1) w1 (by omega) (by omega) h1 hb1
      · rw [if_neg z, m_often_46, cts0 (by omega) (decide_eq_false z), ww1 (by omega)]
        exact ih (i + 1) w1 (by omega) (by omega) h1 hb1
theorem ML.th (h : ML w n lw it) : ML (aw_up w 49 0 0) n lw it := h.fr (S := [(49, 0)]) ((fr_r _ w).up rfl) rfl
theorem MB.th (h : MB w m r) : MB (aw_up w 49 0 0) m r := h.fr (S := [(49, 0)]) ((fr_r _ w).up rfl) rfl
theorem M_often (hN : 100 ≤ N) (h : ML w n lw it) (hb : MB w m r) {x : Int} : ∃ w', m_often N x w = some (a_often n lw m r x, w') := by
  unfold a_often
  have h0 := h.th
  have hb0 := hb.th
  rw [m_often, m_isStriver_ok, b2_some, h0.1]
  by_cases c : x < 0 ∨ (n : Int) ≤ x
  · rw [if_pos (b2i_rng.mpr c), if_pos c]
    exact ⟨_, rfl⟩
  · have hm := hb.2.1
    rw [if_neg (fun z => c (b2i_rng.mp z)), if_neg c]
    exact mto_l (N := N) (x := x) (by omega) (show n ≠ 0 by omega) N 0 _ (by omega) (Nat.zero_le _) h0 hb0
/-! sum -/
def sgn (n : Nat) (lw it : Nat → Int) (r : Nat → Nat) (s : Nat) : Nat → Int
  | 0 => 0
  | i + 1 => sgn n lw it r s i + gn n lw it (bq (r i) n) s
theorem sgn_bd (h : n ≠ 0 → LB lw ∧ IB it n) {s : Nat} (hs : s < n) : ∀ i : Nat, -108 * (i : Int) ≤ sgn n lw it r s i ∧ sgn n lw it r s i ≤ 108 * (i : Int)
  | 0 => by constructor <;> exact Int.le_refl _
  | i + 1 => by
    have h1 := sgn_bd h hs i
    have h2 := gn_bd h (bq_bd (r i) n) hs
    show -108 * ((i + 1 : Nat) : Int) ≤ sgn n lw it r s i + gn n lw it (bq (r i) n) s ∧ sgn n lw it r s i + gn n lw it (bq (r i) n) s ≤ 108 * ((i + 1 : Nat) : Int)
    omega
theorem sgn_w (h : n ≠ 0 → LB lw ∧ IB it n) {s : Nat} (hs : s < n) {i : Nat} (hi : i ≤ 40) : aw_w (sgn n lw it r s i + gn n lw it (bq (r i) n) s) = sgn n lw it r s (i + 1) := by
  have h1 := sgn_bd (r := r) h hs i
  have h2 := gn_bd h (bq_bd (r i) n) hs
  rw [ww (by omega) (by omega)]
  rfl
theorem xsu_l (hN : 10 ≤ N) {s : Nat} (hs : s < n) : ∀ (f i : Nat) (w : aw_W), m - i < f → i ≤ m → XL w n lw it → XB w m r → ∃ w', x_Book_gainsOf_4 N f s (sgn n lw it r s i) i w = some (sgn n lw it r s m, w') := by
  intro f
  induction f with
  | zero => intro i w hf; omega
  | succ f ih =>
    intro i w hf hi h hb
    have hm := hb.2.1
    rw [x_Book_gainsOf_4, hb.1]
    by_cases c : (m : Int) ≤ (i : Int)
    · have : i = m := by omega
      subst this
      rw [if_pos c]
      exact ⟨w, rfl⟩
    · obtain ⟨hk1, hk2⟩ := hb.2.2 i (by omega)
      obtain ⟨w1, e1, h1, b1, f1⟩ := X_put (N := N) hN h hk2
      obtain ⟨w2, e2, h2, b2, s3, s4, s5, s6, ss, f2⟩ := X_settle (N := N) hN h1 (by omega) b1
      rw [if_neg c, if_pos ⟨by omega, by omega⟩, Int.toNat_natCast, hk1, e1, b2_some, e2, b1_some, X_gainOf h2 (by omega) b2 (bq_bd _ _) ss hs, b2_some, sgn_w h.2.2.2.2.2 hs (by omega), ww1 (by omega)]
      exact ih (i + 1) w2 (by omega) (by omega) h2 ((hb.fr f1 rfl).fr f2 rfl)
theorem msu_l (hN : 10 ≤ N) {s : Nat} (hs : s < n) : ∀ (f i : Nat) (w : aw_W), m - i < f → i ≤ m → ML w n lw it → MB w m r → ∃ w', m_sum_49_21 N f s (sgn n lw it r s i) i w = some (sgn n lw it r s m, w') := by
  intro f
  induction f with
  | zero => intro i w hf; omega
  | succ f ih =>
    intro i w hf hi h hb
    have hm := hb.2.1
    rw [m_sum_49_21, hb.1]
    by_cases c : (m : Int) ≤ (i : Int)
    · have : i = m := by omega
      subst this
      rw [if_pos c]
      exact ⟨w, rfl⟩
    · obtain ⟨w1, e1, h1, hb1, b1, wn, fi⟩ := M_layBooked (N := N) hN h (by omega) hb (show i < m by omega)
      obtain ⟨w2, e2, h2, b2, f2⟩ := M_gainOf (N := N) hN h1 (by omega) b1 (bq_bd _ _) hs
      rw [if_neg c, e1, b1_some, e2, b2_some, sgn_w h.2.2.2.2.2 hs (by omega), ww1 (by omega)]
      exact ih (i + 1) w2 (by omega) (by omega) h2 (hb1.fr f2 rfl)
def a_sum (n : Nat) (lw it : Nat → Int) (m : Nat) (r : Nat → Nat) (x : Int) : Int := if x < 0 ∨ (n : Int) ≤ x then -1000000 else sgn n lw it r x.toNat m
theorem X_sum (hN : 100 ≤ N) (h : XL w n lw it) (hb : XB w m r) {x : Int} : ∃ w', x_sum N x w = some (a_sum n lw it m r x, w') := by
  unfold a_sum
  rw [x_sum, xl_holds, b2_some, h.1]
  by_cases c : x < 0 ∨ (n : Int) ≤ x
  · rw [if_pos (b2i_rng.mpr c), if_pos c]
    exact ⟨w, rfl⟩
  · have hm := hb.2.1
    obtain ⟨s, rfl⟩ : ∃ s : Nat, x = s := ⟨x.toNat, by omega⟩
    obtain ⟨w1, e1⟩ := xsu_l (N := N) (s := s) (by omega) (by omega) N 0 w (by omega) (Nat.zero_le _) h hb
    have e1' : x_Book_gainsOf N s w = some (sgn n lw it r s m, w1) := e1
    rw [if_neg (fun z => c (b2i_rng.mp z)), if_neg c, e1', b2_some, Int.toNat_natCast]
    exact ⟨w1, rfl⟩
theorem M_sum (hN : 100 ≤ N) (h : ML w n lw it) (hb : MB w m r) {x : Int} : ∃ w', m_sum_49 N x w = some (a_sum n lw it m r x, w') := by
  unfold a_sum
  have h0 := h.th
  have hb0 := hb.th
  rw [m_sum_49, m_isStriver_ok, b2_some, h0.1]
  by_cases c : x < 0 ∨ (n : Int) ≤ x
  · rw [if_pos (b2i_rng.mpr c), if_pos c]
    exact ⟨_, rfl⟩
  · have hm := hb.2.1
    obtain ⟨s, rfl⟩ : ∃ s : Nat, x = s := ⟨x.toNat, by omega⟩
    rw [if_neg (fun z => c (b2i_rng.mp z)), if_neg c, Int.toNat_natCast]
    exact msu_l (N := N) (s := s) (by omega) (by omega) N 0 _ (by omega) (Nat.zero_le _) h0 hb0
/-! honour, undo -/
def a_honour (n : Nat) (lw : Nat → Int) (m : Nat) (x : Int) : Int := if 40 ≤ m ∨ okr n lw x = false then -1 else ((m + 1 : Nat) : Int)
def hbm (n : Nat) (lw : Nat → Int) (m : Nat) (x : Int) : Nat := if 40 ≤ m ∨ okr n lw x = false then m else m + 1
def hbr (n : Nat) (lw : Nat → Int) (m : Nat) (r : Nat → Nat) (x : Int) : Nat → Nat := if 40 ≤ m ∨ okr n lw x = false then r else upr r m x.toNat
theorem X_honour (hN : 100 ≤ N) (h : XL w n lw it) (hb : XB w m r) {x : Int} (hx : aw_I x) : ∃ w', x_honour N x w = some (a_honour n lw m x, w') ∧ XB w' (hbm n lw m x) (hbr n lw m r x) := by
  unfold a_honour hbm hbr
  have hxx := hx
  unfold aw_I at hxx
  rw [x_honour, hb.1]
  by_cases c : 40 ≤ m
  · rw [if_pos (by omega), if_pos (Or.inl c), if_pos (Or.inl c), if_pos (Or.inl c)]
    exact ⟨w, rfl, hb⟩
  · obtain ⟨w1, e1, h1, f1, d1⟩ := X_take (N := N) (by omega) h hx
    have hb1 := hb.fr f1 rfl
    rw [if_neg (by omega), e1, b2_some]
    cases ho : okr n lw x with
    | false =>
      rw [if_pos (by rfl), if_pos (Or.inr rfl), if_pos (Or.inr rfl), if_pos (Or.inr rfl)]
      exact ⟨w1, rfl, hb1⟩
    | true =>
      have hc : ¬ (40 ≤ m ∨ true = false) := fun z => z.elim c (fun z => by cases z)
      have h0 : 0 ≤ x := by
        unfold okr at ho
        simp at ho
        exact ho.1.2
      obtain ⟨q, rfl⟩ : ∃ q : Nat, x = q := ⟨x.toNat, by omega⟩
      obtain ⟨w2, e2, hb2⟩ := X_add (N := N) hb1 (by omega) (x := q) (by omega)
      rw [if_neg (by decide), if_neg hc, if_neg hc, if_neg hc, e2, b1_some, hb2.1, Int.toNat_natCast]
      exact ⟨w2, rfl, hb2⟩
theorem M_honour (hN : 100 ≤ N) (h : ML w n lw it) (hb : MB w m r) {x : Int} (hx : aw_I x) : ∃ w', m_honour N x w = some (a_honour n lw m x, w') ∧ MB w' (hbm n lw m x) (hbr n lw m r x) := by
  unfold a_honour hbm hbr
  have h0 := h.th
  have hb0 := hb.th
  have hxx := hx
  unfold aw_I at hxx
  rw [m_honour, h.1, hb.1]
  by_cases hn : n = 0
  · subst hn
    have ho : okr 0 lw x = false := by unfold okr; simp
    rw [if_pos (by rfl), if_pos (Or.inr ho), if_pos (Or.inr ho), if_pos (Or.inr ho)]
    exact ⟨_, rfl, hb0⟩
  · rw [if_neg (by omega)]
    by_cases c : 40 ≤ m
    · have hm := hb.2.1
      rw [if_pos (by omega), if_pos (Or.inl c), if_pos (Or.inl c), if_pos (Or.inl c)]
      exact ⟨_, rfl, hb0⟩
    · obtain ⟨w1, e1, h1, f1, d1⟩ := M_lay (N := N) (by omega) h0 hn hx
      have hb1 := hb0.fr f1 rfl
      rw [if_neg (by omega), e1, b2_some]
      cases ho : okr n lw x with
      | false =>
        rw [if_pos (by rfl), if_pos (Or.inr rfl), if_pos (Or.inr rfl), if_pos (Or.inr rfl)]
        exact ⟨w1, rfl, hb1⟩
      | true =>
        have hc : ¬ (40 ≤ m ∨ true = false) := fun z => z.elim c (fun z => by cases z)
        have h0 : 0 ≤ x := by
          unfold okr at ho
          simp at ho
          exact ho.1.2
        obtain ⟨q, rfl⟩ : ∃ q : Nat, x = q := ⟨x.toNat, by omega⟩
        rw [if_neg (by decide), if_neg hc, if_neg hc, if_neg hc, hb1.1, if_pos ⟨by omega, by omega⟩, ww1 (by omega), Int.toNat_natCast, Int.toNat_natCast]
        refine ⟨_, rfl, by simp [aw_up], by omega, fun k hk => ?_⟩
        unfold upr
        by_cases e : k = m
        · subst e
          simp [aw_up]
          omega
        · simp [aw_up, e]
          exact hb1.2.2 k hk
def a_undo (m : Nat) : Int := if m = 0 then -1 else ((m - 1 : Nat) : Int)
theorem X_undo (hb : XB w m r) : ∃ w', x_undo N w = some (a_undo m, w') ∧ XB w' (m - 1) r := by
  unfold a_undo
  obtain ⟨h0, h1, h2⟩ := hb
  rw [x_undo, h0]
  by_cases c : m = 0
  · subst c
    rw [if_pos (by rfl), if_pos rfl]
    exact ⟨w, rfl, h0, by omega, h2⟩
  · rw [if_neg (by omega), if_neg c, ww (by omega) (by omega), show (m : Int) - 1 = ((m - 1 : Nat) : Int) by omega]
    exact ⟨_, rfl, by simp [aw_up], by omega, fun k hk => by simp [aw_up]; exact h2 k hk⟩
theorem M_undo (hb : MB w m r) : ∃ w', m_undo N w = some (a_undo m, w') ∧ MB w' (m - 1) r := by
  unfold a_undo
  obtain ⟨h0, h1, h2⟩ := id hb
  rw [m_undo, h0]
  by_cases c : m = 0
  · subst c
    rw [if_pos (by rfl), if_pos rfl]
    exact ⟨_, rfl, hb.th⟩
  · rw [if_neg (by omega), if_neg c, ww (by omega) (by omega), show (m : Int) - 1 = ((m - 1 : Nat) : Int) by omega]
    exact ⟨_, rfl, by simp [aw_up], by omega, fun k hk => by simp [aw_up]; exact h2 k hk⟩
end BK
