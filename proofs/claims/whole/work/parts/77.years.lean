/-! ===== pure: pairs, years ===== -/
def prk (n : Nat) (lw b : Nat → Int) : Int := if One (Fb (lw 1) b n) n = -1 ∨ hd n lw b = -1 ∨ hd n lw b = One (Fb (lw 1) b n) n then -1 else 10 * One (Fb (lw 1) b n) n + hd n lw b
def pkp (n : Nat) (lw : Nat → Int) (r : Nat → Nat) (j : Nat) : Nat → Bool := fun i => decide (prk n lw (bq (r i) n) = (j : Int))
theorem One_rng (a n : Nat) : One a n = -1 ∨ ∃ s : Nat, s < n ∧ One a n = s ∧ a = 2 ^ s := by
  unfold One
  cases e : (List.range n).find? (fun s => decide (a = 2 ^ s)) with
  | none => exact Or.inl rfl
  | some k => exact Or.inr ⟨k, List.mem_range.mp (List.mem_of_find?_eq_some e), rfl, of_decide_eq_true (List.find?_some (p := fun s => decide (a = 2 ^ s)) e)⟩
theorem hd_rng (n : Nat) (lw b : Nat → Int) : hd n lw b = -1 ∨ ∃ s : Nat, s < n ∧ hd n lw b = s := by
  rcases Hd_range (pl := lw 0) (ti := lw 1) (n := n) (al := alT) (sc := b) with h | ⟨s, h1, h2, -⟩
  · exact Or.inl h
  · exact Or.inr ⟨s, h1, h2⟩
theorem prk_rng (n : Nat) (lw b : Nat → Int) : prk n lw b = -1 ∨ ∃ a c : Nat, a < n ∧ c < n ∧ a ≠ c ∧ One (Fb (lw 1) b n) n = a ∧ hd n lw b = c ∧ Fb (lw 1) b n = 2 ^ a ∧ prk n lw b = 10 * (a : Int) + (c : Int) := by
  unfold prk
  by_cases z : One (Fb (lw 1) b n) n = -1 ∨ hd n lw b = -1 ∨ hd n lw b = One (Fb (lw 1) b n) n
  · rw [if_pos z]
    exact Or.inl rfl
  · rw [if_neg z]
    rcases One_rng (Fb (lw 1) b n) n with e | ⟨a, a1, a2, a3⟩
    · exact absurd (Or.inl e) z
    · rcases hd_rng n lw b with e | ⟨c, c1, c2⟩
      · exact absurd (Or.inr (Or.inl e)) z
      · refine Or.inr ⟨a, c, a1, c1, ?_, a2, c2, a3, by rw [a2, c2]⟩
        intro q
        exact z (Or.inr (Or.inr (by rw [a2, c2, q])))
theorem prk_iff {n : Nat} {lw b : Nat → Int} (hn : n ≤ 6) {a c : Nat} (ha : a < n) (hc : c < n) (hac : a ≠ c) : prk n lw b = ((10 * a + c : Nat) : Int) ↔ hd n lw b = (c : Int) ∧ Fb (lw 1) b n = 2 ^ a := by
  constructor
  · intro h
    rcases prk_rng n lw b with e | ⟨a', c', h1, h2, h3, h4, h5, h6, h7⟩
    · omega
    · have e1 : a' = a := by omega
      have e2 : c' = c := by omega
      rw [← e1, ← e2]
      exact ⟨h5, h6⟩
  · rintro ⟨h1, h2⟩
    have h3 := One_some ha h2
    unfold prk
    rw [h3, h1, if_neg (by omega)]
    omega
section PK
variable {N : Nat} {w v : aw_W} {n m : Nat} {lw it : Nat → Int} {r : Nat → Nat}
theorem jf43_l : ∀ (k f i : Nat) (w : aw_W), k < f → i + k = 60 → (∀ j, j < i → w 43 j = 0) → ∃ w', j_Arr_fill_Ii_43_5 N f 0 i 60 w = some w' ∧ ∀ j, j < 60 → w' 43 j = 0 := by
  intro k
  induction k with
  | zero =>
    intro f i w hf hi h
    obtain ⟨f, rfl⟩ : ∃ g, f = g + 1 := ⟨f - 1, by omega⟩
    rw [j_Arr_fill_Ii_43_5, if_pos (by omega)]
    exact ⟨w, rfl, fun j hj => h j (by omega)⟩
  | succ k ih =>
    intro f i w hf hi h
    obtain ⟨f, rfl⟩ : ∃ g, f = g + 1 := ⟨f - 1, by omega⟩
    rw [j_Arr_fill_Ii_43_5, if_neg (by omega), if_pos ⟨by omega, by omega⟩, ww1 (by omega), Int.toNat_natCast]
    refine ih f (i + 1) _ (by omega) (by omega) (fun j hj => ?_)
    by_cases e : j = i
    · subst e
      simp [aw_up]
    · simp [aw_up, e]
      exact h j (by omega)
theorem xcp_l (hN : 10 ≤ N) (hmn : m ≠ 0 → n ≠ 0) : ∀ (f i : Nat) (w : aw_W), m - i < f → i ≤ m → XL w n lw it → XB w m r → (∀ j, j < 60 → w 43 j = (ct (pkp n lw r j) i : Int)) → ∃ w', x_Book_countPairs_10 N f i w = some w' ∧ ∀ j, j < 60 → w' 43 j = (ct (pkp n lw r j) m : Int) := by
  intro f
  induction f with
  | zero => intro i w hf; omega
  | succ f ih =>
    intro i w hf hi h hb hp
    have hm := hb.2.1
    have hn6 := h.2.1
    rw [x_Book_countPairs_10, hb.1]
    by_cases c : (m : Int) ≤ (i : Int)
    · have : i = m := by omega
      subst this
      rw [if_pos c]
      exact ⟨w, rfl, hp⟩
    · obtain ⟨hk1, hk2⟩ := hb.2.2 i (by omega)
      obtain ⟨w1, e1, h1, b1, f1⟩ := X_put (N := N) hN h hk2
      obtain ⟨w2, e2, h2, b2, s3, s4, s5, s6, ss, f2⟩ := X_settle (N := N) hN h1 (hmn (by omega)) b1
      rw [if_neg c, if_pos ⟨by omega, by omega⟩, Int.toNat_natCast, hk1, e1, b2_some, e2, b1_some, s3, s6]
      have hb2 := (hb.fr f1 rfl).fr f2 rfl
      have hp2 : ∀ j, j < 60 → w2 43 j = (ct (pkp n lw r j) i : Int) := fun j hj => by rw [f2 43 j rfl, f1 43 j rfl]; exact hp j hj
      have skip : prk n lw (bq (r i) n) = -1 → ∃ w', x_Book_countPairs_105 N (x_Book_countPairs_10 N f) i w2 = some w' ∧ ∀ j, j < 60 → w' 43 j = (ct (pkp n lw r j) m : Int) := by
        intro hk
        rw [x_Book_countPairs_105, ww1 (by omega)]
        refine ih (i + 1) w2 (by omega) (by omega) h2 hb2 (fun j hj => ?_)
        have z : pkp n lw r j i = false := by
          unfold pkp
          rw [hk]
          exact decide_eq_false (by omega)
        rw [ct_s, z, hp2 j hj]
        simp
      rcases prk_rng n lw (bq (r i) n) with hk | ⟨a, g, h3, h4, h5, h6, h7, h8, h9⟩
      · by_cases z1 : One (Fb (lw 1) (bq (r i) n) n) n = -1
        · rw [if_pos z1]; exact skip hk
        · rw [if_neg z1]
          by_cases z2 : hd n lw (bq (r i) n) = -1
          · rw [if_pos z2]; exact skip hk
          · rw [if_neg z2]
            by_cases z3 : hd n lw (bq (r i) n) = One (Fb (lw 1) (bq (r i) n) n) n
            · rw [if_pos z3]; exact skip hk
            · exfalso
              unfold prk at hk
              rw [if_neg (fun q => q.elim z1 (fun q => q.elim z2 z3))] at hk
              rcases One_rng (Fb (lw 1) (bq (r i) n) n) n with e | ⟨a, a1, a2, a3⟩
              · exact z1 e
              · rcases hd_rng n lw (bq (r i) n) with e | ⟨g, c1, c2⟩
                · exact z2 e
                · rw [a2, c2] at hk
                  omega
      · rw [h6, h7, if_neg (by omega), if_neg (by omega), if_neg (by omega), ww (x := (a : Int) * 10) (by omega) (by omega), ww (x := (a : Int) * 10 + (g : Int)) (by omega) (by omega), if_pos ⟨by omega, by omega⟩, if_pos ⟨by omega, by omega⟩, show ((a : Int) * 10 + (g : Int)).toNat = 10 * a + g by omega, hp2 (10 * a + g) (by omega)]
        have hc := ct_le (pkp n lw r (10 * a + g)) i
        rw [ww1 (i := ct (pkp n lw r (10 * a + g)) i) (by omega), x_Book_countPairs_105, ww1 (by omega)]
        refine ih (i + 1) _ (by omega) (by omega) (h2.fr (S := [(43, 1000000)]) ((fr_r _ _).upA rfl) rfl) (hb2.fr (S := [(43, 1000000)]) ((fr_r _ _).upA rfl) rfl) (fun j hj => ?_)
        by_cases e : j = 10 * a + g
        · subst e
          have z : pkp n lw r (10 * a + g) i = true := by
            unfold pkp
            rw [h9]
            exact decide_eq_true (by omega)
          rw [ct_s, z]
          simp [aw_up]
        · have z : pkp n lw r j i = false := by
            unfold pkp
            rw [h9]
            exact decide_eq_false (by omega)
          rw [ct_s, z]
          simp [aw_up, e]
          exact hp2 j hj
theorem X_countPairs (hN : 100 ≤ N) (h : XL w n lw it) (hb : XB w m r) (hmn : m ≠ 0 → n ≠ 0) : ∃ w', x_Book_countPairs N w = some w' ∧ ∀ j, j < 60 → w' 43 j = (ct (pkp n lw r j) m : Int) := by
  have hm := hb.2.1
  obtain ⟨w1, e1, z1⟩ := jf43_l (N := N) 60 N 0 w (by omega) (by omega) (fun j hj => absurd hj (Nat.not_lt_zero _))
  have e1' : j_Arr_fill_Ii_43 N 0 w = some w1 := e1
  have f1 := f_j_Arr_fill_Ii_43 N _ _ _ e1'
  rw [x_Book_countPairs, e1', b1_some]
  exact xcp_l (N := N) (by omega) hmn N 0 w1 (by omega) (Nat.zero_le _) (h.fr f1 rfl) (hb.fr f1 rfl) (fun j hj => z1 j hj)
def a_made (n : Nat) (lw : Nat → Int) (m : Nat) (r : Nat → Nat) (x1 x2 : Int) : Int := if (x1 < 0 ∨ (n : Int) ≤ x1) ∨ (x2 < 0 ∨ (n : Int) ≤ x2) ∨ x1 = x2 then -1 else (ct (pkp n lw r (10 * x1.toNat + x2.toNat)) m : Int)
theorem X_made (hN : 100 ≤ N) (h : XL w n lw it) (hb : XB w m r) (hmn : m ≠ 0 → n ≠ 0) {x1 x2 : Int} : ∃ w', x_made N x1 x2 w = some (a_made n lw m r x1 x2, w') := by
  unfold a_made
  have hn6 := h.2.1
  rw [x_made, xl_holds, b2_some, h.1]
  by_cases c1 : x1 < 0 ∨ (n : Int) ≤ x1
  · rw [if_pos (b2i_rng.mpr c1), if_pos (Or.inl c1)]
    exact ⟨w, rfl⟩
  · rw [if_neg (fun z => c1 (b2i_rng.mp z)), xl_holds, b2_some, h.1]
    by_cases c2 : x2 < 0 ∨ (n : Int) ≤ x2
    · rw [if_pos (b2i_rng.mpr c2), if_pos (Or.inr (Or.inl c2))]
      exact ⟨w, rfl⟩
    · rw [if_neg (fun z => c2 (b2i_rng.mp z))]
      by_cases c3 : x1 = x2
      · rw [if_pos c3, if_pos (Or.inr (Or.inr c3))]
        exact ⟨w, rfl⟩
      · obtain ⟨a, rfl⟩ : ∃ a : Nat, x1 = a := ⟨x1.toNat, by omega⟩
        obtain ⟨g, rfl⟩ : ∃ g : Nat, x2 = g := ⟨x2.toNat, by omega⟩
        obtain ⟨w1, e1, p1⟩ := X_countPairs (N := N) hN h hb hmn
        rw [if_neg c3, if_neg (fun z => z.elim c1 (fun z => z.elim c2 c3)), e1, b1_some, x_Book_timesOfPair, ww (x := (a : Int) * 10) (by omega) (by omega), ww (x := (a : Int) * 10 + (g : Int)) (by omega) (by omega), if_pos ⟨by omega, by omega⟩, b2_some, show ((a : Int) * 10 + (g : Int)).toNat = 10 * a + g by omega, p1 _ (by omega), Int.toNat_natCast, Int.toNat_natCast]
        exact ⟨w1, rfl⟩
theorem mmb_l (hN : 10 ≤ N) {a g : Nat} (ha : a < n) (hg : g < n) (hag : a ≠ g) : ∀ (f i : Nat) (w : aw_W), m - i < f → i ≤ m → ML w n lw it → MB w m r → ∃ w', m_madeBy_5 N f a g (ct (pkp n lw r (10 * a + g)) i : Int) i w = some ((ct (pkp n lw r (10 * a + g)) m : Int), w') := by
  intro f
  induction f with
  | zero => intro i w hf; omega
  | succ f ih =>
    intro i w hf hi h hb
    have hm := hb.2.1
    have hn6 := h.2.1
    rw [m_madeBy_5, hb.1]
    by_cases c : (m : Int) ≤ (i : Int)
    · have : i = m := by omega
      subst this
      rw [if_pos c]
      exact ⟨w, rfl⟩
    · obtain ⟨w1, e1, h1, hb1, b1, wn, fi⟩ := M_layBooked (N := N) hN h (by omega) hb (show i < m by omega)
      have pi := prk_iff (n := n) (lw := lw) (b := bq (r i) n) hn6 ha hg hag
      rw [if_neg c, e1, b1_some, wn, b2_some]
      by_cases z : hd n lw (bq (r i) n) = (g : Int)
      · rw [if_pos z, fi, b2_some, bt_shl a (by omega)]
        by_cases z2 : Fb (lw 1) (bq (r i) n) n = 2 ^ a
        · rw [if_pos (by rw [z2]), m_madeBy_44, cts1 (by omega) (decide_eq_true (pi.mpr ⟨z, z2⟩)), ww1 (by omega)]
          exact ih (i + 1) w1 (by omega) (by omega) h1 hb1
        · rw [if_neg (c := ((Fb (lw 1) (bq (r i) n) n : Nat) : Int) = ((2 ^ a : Nat) : Int)) (fun q => z2 (Int.ofNat.inj q)), m_madeBy_43, m_madeBy_44, cts0 (by omega) (decide_eq_false (fun q => z2 (pi.mp q).2)), ww1 (by omega)]
          exact ih (i + 1) w1 (by omega) (by omega) h1 hb1
      · rw [if_neg z, m_madeBy_43, m_madeBy_44, cts0 (by omega) (decide_eq_false (fun q => z (pi.mp q).1)), ww1 (by omega)]
        exact ih (i + 1) w1 (by omega) (by omega) h1 hb1
theorem M_madeBy (hN : 100 ≤ N) (h : ML w n lw it) (hb : MB w m r) {a g : Nat} (ha : a < n) (hg : g < n) (hag : a ≠ g) : ∃ w', m_madeBy N a g w = some ((ct (pkp n lw r (10 * a + g)) m : Int), w') ∧ ML w' n lw it ∧ MB w' m r := by
  have hm := hb.2.1
  obtain ⟨w1, e1⟩ := mmb_l (N := N) (by omega) ha hg hag N 0 w (by omega) (Nat.zero_le _) h hb
  have e1' : m_madeBy N a g w = some ((ct (pkp n lw r (10 * a + g)) m : Int), w1) := e1
  have f1 := f_m_madeBy N _ _ _ _ _ e1'
  exact ⟨w1, e1', h.fr f1 rfl, hb.fr f1 rfl⟩
theorem M_made (hN : 100 ≤ N) (h : ML w n lw it) (hb : MB w m r) {x1 x2 : Int} : ∃ w', m_made N x1 x2 w = some (a_made n lw m r x1 x2, w') := by
  unfold a_made
  have h0 := h.th
  have hb0 := hb.th
  rw [m_made, m_isStriver_ok, b2_some, h0.1]
  by_cases c1 : x1 < 0 ∨ (n : Int) ≤ x1
  · rw [if_pos (b2i_rng.mpr c1), if_pos (Or.inl c1)]
    exact ⟨_, rfl⟩
  · rw [if_neg (fun z => c1 (b2i_rng.mp z)), m_isStriver_ok, b2_some, h0.1]
    by_cases c2 : x2 < 0 ∨ (n : Int) ≤ x2
    · rw [if_pos (b2i_rng.mpr c2), if_pos (Or.inr (Or.inl c2))]
      exact ⟨_, rfl⟩
    · rw [if_neg (fun z => c2 (b2i_rng.mp z))]
      by_cases c3 : x1 = x2
      · rw [if_pos c3, if_pos (Or.inr (Or.inr c3))]
        exact ⟨_, rfl⟩
      · obtain ⟨a, rfl⟩ : ∃ a : Nat, x1 = a := ⟨x1.toNat, by omega⟩
        obtain ⟨g, rfl⟩ : ∃ g : Nat, x2 = g := ⟨x2.toNat, by omega⟩
        obtain ⟨w1, e1, -⟩ := M_madeBy (N := N) hN h0 hb0 (a := a) (g := g) (by omega) (by omega) (by omega)
        rw [if_neg c3, if_neg (fun z => z.elim c1 (fun z => z.elim c2 c3)), e1, b2_some, Int.toNat_natCast, Int.toNat_natCast]
        exact ⟨w1, rfl⟩
/-! pair -/
def pf (c : Nat → Nat) : Nat → Int × Nat
  | 0 => (-1, 0)
  | j + 1 => if (pf c j).2 < c j then ((j : Int), c j) else pf c j
theorem pf_s (c : Nat → Nat) (j : Nat) : pf c (j + 1) = if (pf c j).2 < c j then ((j : Int), c j) else pf c j := rfl
theorem pf_lk (c : Nat → Nat) : ∀ j, (pf c j).1 = -1 ∧ (pf c j).2 = 0 ∨ ∃ k : Nat, k < j ∧ (pf c j).1 = k ∧ (pf c j).2 = c k
  | 0 => Or.inl ⟨rfl, rfl⟩
  | j + 1 => by
    rw [pf_s]
    by_cases z : (pf c j).2 < c j
    · rw [if_pos z]
      exact Or.inr ⟨j, by omega, rfl, rfl⟩
    · rw [if_neg z]
      rcases pf_lk c j with h | ⟨k, h1, h2⟩
      · exact Or.inl h
      · exact Or.inr ⟨k, by omega, h2⟩
theorem pf_no (c : Nat → Nat) {k : Nat} : ∀ d, (∀ j, k ≤ j → j < k + d → c j = 0) → pf c (k + d) = pf c k
  | 0, _ => rfl
  | d + 1, h => by
    rw [← Nat.add_assoc, pf_s, h (k + d) (by omega) (by omega), if_neg (by omega)]
    exact pf_no c d (fun j h1 h2 => h j h1 (by omega))
def pkc (n : Nat) (lw : Nat → Int) (m : Nat) (r : Nat → Nat) : Nat → Nat := fun j => ct (pkp n lw r j) m
theorem pkc_0 (hn : n ≤ 6) {a g : Nat} (hg : g < 10) (h : n ≤ a ∨ n ≤ g ∨ a = g) : pkc n lw m r (10 * a + g) = 0 := by
  unfold pkc
  refine ct_z (fun i hi => ?_)
  unfold pkp
  refine decide_eq_false (fun q => ?_)
  rcases prk_rng n lw (bq (r i) n) with e | ⟨a', c', h1, h2, h3, h4, h5, h6, h7⟩
  · omega
  · omega
theorem xmo_l (hp : ∀ j, j < 60 → w 43 j = (pkc n lw m r j : Int)) : ∀ (k f j : Nat), k < f → j + k = 60 → x_Book_mostOften_4 N f (pf (pkc n lw m r) j).1 j w = some ((pf (pkc n lw m r) 60).1, w) := by
  intro k
  induction k with
  | zero =>
    intro f j hf hj
    obtain ⟨f, rfl⟩ : ∃ g, f = g + 1 := ⟨f - 1, by omega⟩
    have : j = 60 := by omega
    subst this
    rw [x_Book_mostOften_4, if_pos (by decide)]
    rfl
  | succ k ih =>
    intro f j hf hj
    obtain ⟨f, rfl⟩ : ∃ g, f = g + 1 := ⟨f - 1, by omega⟩
    have ih' := ih f (j + 1) (by omega) (by omega)
    rw [pf_s] at ih'
    rw [x_Book_mostOften_4, if_neg (by omega), if_pos ⟨by omega, by omega⟩, Int.toNat_natCast, hp j (by omega)]
    rcases pf_lk (pkc n lw m r) j with ⟨h1, h2⟩ | ⟨q, h1, h2, h3⟩
    · rw [if_pos h1, x_Book_mostOften_34, h1]
      rw [h2] at ih'
      by_cases z : 0 < pkc n lw m r j
      · rw [if_pos z] at ih'
        rw [if_neg (by omega), x_Book_mostOften_39, ww1 (by omega)]
        exact ih'
      · rw [if_neg z, h1] at ih'
        rw [if_pos (by omega), x_Book_mostOften_39, ww1 (by omega)]
        exact ih'
    · rw [h2, if_neg (by omega), if_pos ⟨by omega, by omega⟩, Int.toNat_natCast, hp q (by omega), x_Book_mostOften_34]
      rw [h3] at ih'
      by_cases z : pkc n lw m r q < pkc n lw m r j
      · rw [if_pos z] at ih'
        rw [if_neg (by omega), x_Book_mostOften_39, ww1 (by omega)]
        exact ih'
      · rw [if_neg z, h2] at ih'
        rw [if_pos (by omega), x_Book_mostOften_39, ww1 (by omega)]
        exact ih'
def a_pair (n : Nat) (lw : Nat → Int) (m : Nat) (r : Nat → Nat) : Int := (pf (pkc n lw m r) 60).1
theorem X_pair (hN : 100 ≤ N) (h : XL w n lw it) (hb : XB w m r) (hmn : m ≠ 0 → n ≠ 0) : ∃ w', x_pair N w = some (a_pair n lw m r, w') := by
  obtain ⟨w1, e1, p1⟩ := X_countPairs (N := N) hN h hb hmn
  have e2 := xmo_l (N := N) (n := n) (lw := lw) (m := m) (r := r) p1 60 N 0 (by omega) (by omega)
  have e2' : x_Book_mostOften N w1 = some (a_pair n lw m r, w1) := e2
  rw [x_pair, e1, b1_some, e2', b2_some]
  exact ⟨w1, rfl⟩
theorem mpa_i (hN : 100 ≤ N) {k11 : Int → Int → Int → aw_W → Option (Int × aw_W)} {a : Nat} (ha : a < n) : ∀ (f g : Nat) (w : aw_W), n - g < f → g ≤ n → ML w n lw it → MB w m r → ∃ w', m_pair_22 N k11 f (pf (pkc n lw m r) (10 * a + g)).1 (pf (pkc n lw m r) (10 * a + g)).2 a g w = k11 (pf (pkc n lw m r) (10 * (a + 1))).1 (pf (pkc n lw m r) (10 * (a + 1))).2 ((a + 1 : Nat) : Int) w' ∧ ML w' n lw it ∧ MB w' m r := by
  intro f
  induction f with
  | zero => intro g w hf; omega
  | succ f ih =>
    intro g w hf hg h hb
    have hn6 := h.2.1
    rw [m_pair_22, h.1]
    by_cases c : (n : Int) ≤ (g : Int)
    · have : g = n := by omega
      subst this
      have e := pf_no (pkc g lw m r) (k := 10 * a + g) (10 - g) (fun j h1 h2 => by
        have := pkc_0 (lw := lw) (m := m) (r := r) hn6 (a := a) (g := j - 10 * a) (by omega) (by omega)
        rw [show 10 * a + (j - 10 * a) = j by omega] at this
        exact this)
      rw [show 10 * a + g + (10 - g) = 10 * (a + 1) by omega] at e
      rw [if_pos c, m_pair_73, ww1 (by omega), e]
      exact ⟨w, rfl, h, hb⟩
    · rw [if_neg c]
      have ih' : ∀ w, ML w n lw it → MB w m r → _ := fun w h hb => ih (g + 1) w (by omega) (by omega) h hb
      rw [show 10 * a + (g + 1) = 10 * a + g + 1 by omega, pf_s] at ih'
      by_cases c2 : (a : Int) = (g : Int)
      · rw [pkc_0 hn6 (by omega) (Or.inr (Or.inr (by omega))), if_neg (by omega)] at ih'
        rw [if_pos c2, m_pair_67, ww1 (by omega)]
        exact ih' w h hb
      · obtain ⟨w1, e1, h1, hb1⟩ := M_madeBy (N := N) hN h hb ha (show g < n by omega) (show a ≠ g by omega)
        rw [if_neg c2, e1, b2_some]
        by_cases z : (pf (pkc n lw m r) (10 * a + g)).2 < pkc n lw m r (10 * a + g)
        · obtain ⟨w2, e2, h2, hb2⟩ := M_madeBy (N := N) hN h1 hb1 ha (show g < n by omega) (show a ≠ g by omega)
          rw [if_pos z] at ih'
          rw [if_pos (by unfold pkc at z ⊢; omega), e2, b2_some, m_pair_67, ww1 (by omega), ww (x := 10 * (a : Int)) (by omega) (by omega), ww (x := 10 * (a : Int) + (g : Int)) (by omega) (by omega)]
          exact ih' w2 h2 hb2
        · rw [if_neg z] at ih'
          rw [if_neg (by unfold pkc at z ⊢; omega), m_pair_67, ww1 (by omega)]
          exact ih' w1 h1 hb1
theorem mpa_o (hN : 100 ≤ N) : ∀ (f a : Nat) (w : aw_W), n - a < f → a ≤ n → ML w n lw it → MB w m r → ∃ w', m_pair_11 N f (pf (pkc n lw m r) (10 * a)).1 (pf (pkc n lw m r) (10 * a)).2 a w = some (a_pair n lw m r, w') := by
  intro f
  induction f with
  | zero => intro a w hf; omega
  | succ f ih =>
    intro a w hf ha h hb
    have hn6 := h.2.1
    rw [m_pair_11, h.1]
    by_cases c : (n : Int) ≤ (a : Int)
    · have : a = n := by omega
      subst this
      have e := pf_no (pkc a lw m r) (k := 10 * a) (60 - 10 * a) (fun j h1 h2 => by
        have := pkc_0 (lw := lw) (m := m) (r := r) hn6 (a := j / 10) (g := j % 10) (by omega) (by omega)
        rw [show 10 * (j / 10) + j % 10 = j by omega] at this
        exact this)
      rw [show 10 * a + (60 - 10 * a) = 60 by omega] at e
      rw [if_pos c]
      refine ⟨w, ?_⟩
      unfold a_pair
      rw [e]
      rfl
    · obtain ⟨w1, e1, h1, hb1⟩ := mpa_i (N := N) (k11 := m_pair_11 N f) hN (show a < n by omega) N 0 w (by omega) (Nat.zero_le _) h hb
      rw [if_neg c]
      obtain ⟨w2, e2⟩ := ih (a + 1) w1 (by omega) (by omega) h1 hb1
      exact ⟨w2, by rw [← e2, ← e1]; rfl⟩
theorem M_pair (hN : 100 ≤ N) (h : ML w n lw it) (hb : MB w m r) : ∃ w', m_pair N w = some (a_pair n lw m r, w') := by
  have hn6 := h.2.1
  rw [m_pair]
  exact mpa_o (N := N) hN N 0 _ (by omega) (Nat.zero_le _) h.th hb.th
/-! years -/
def dx (x : Int) : Int := aw_wl (aw_wl (x * 6364136223846793005) + 1442695040888963407)
def dxn : Nat → Int → Int
  | 0, x => x
  | s + 1, x => dx (dxn s x)
theorem dxn_s (s : Nat) (x : Int) : dxn (s + 1) x = dx (dxn s x) := rfl
def dv (mo x : Int) : Int := aw_w (aw_wl (Int.tmod (aw_ushrL x 33) (aw_w (mo + 1))))
theorem ush_bd (x : Int) : 0 ≤ aw_ushrL x 33 ∧ aw_ushrL x 33 < 2147483648 := by
  have e := lU_ushr x (k := 33) (by decide)
  have h := lU_lt x
  rw [Nat.shiftRight_eq_div_pow] at e
  rw [show ((33 : Nat) : Int) = 33 from rfl] at e
  have h0 : -9223372036854775808 ≤ aw_ushrL x 33 ∧ aw_ushrL x 33 < 9223372036854775808 := by
    unfold aw_ushrL
    exact ⟨Int64.le_toInt _, Int64.toInt_lt _⟩
  have e2 : lU x / 2 ^ 33 < 2147483648 := by omega
  have := lU_L (x := aw_ushrL x 33) (by omega) h0.1 h0.2
  omega
theorem dv_bd {mo x : Int} (h0 : 0 ≤ mo) (h1 : mo ≤ 9) : 0 ≤ dv mo x ∧ dv mo x ≤ 9 := by
  unfold dv
  have hu := ush_bd x
  obtain ⟨u, hu'⟩ : ∃ u : Nat, aw_ushrL x 33 = u := ⟨(aw_ushrL x 33).toNat, by omega⟩
  obtain ⟨q, rfl⟩ : ∃ q : Nat, mo = q := ⟨mo.toNat, by omega⟩
  rw [hu', ww1 (by omega), show Int.tmod (u : Int) ((q + 1 : Nat) : Int) = ((u % (q + 1) : Nat) : Int) from rfl]
  have hl := Nat.mod_lt u (show 0 < q + 1 by omega)
  have e1 : aw_wl ((u % (q + 1) : Nat) : Int) = ((u % (q + 1) : Nat) : Int) := by
    unfold aw_wl
    omega
  rw [e1, ww (by omega) (by omega)]
  omega
def yrw (n : Nat) (mo x : Int) : Nat := rv (fun s => (dv mo (dxn (s + 1) x)).toNat) n
theorem yrw_lt {mo x : Int} (hn : n ≤ 6) (h0 : 0 ≤ mo) (h1 : mo ≤ 9) : yrw n mo x < 2147483648 := by
  have h6 := p10_6 hn
  have hl := rv_lt (n := n) (b := fun s => (dv mo (dxn (s + 1) x)).toNat) (fun s hs => by have := dv_bd (x := dxn (s + 1) x) h0 h1; omega)
  unfold yrw
  omega
def ybr (n : Nat) (mo : Int) : Nat → Nat → (Nat → Nat) → Int → (Nat → Nat)
  | 0, _, r, _ => r
  | k + 1, m, r, x => ybr n mo k (m + 1) (upr r m (yrw n mo x)) (dxn n x)
theorem ybr_s (n : Nat) (mo : Int) (k m : Nat) (r : Nat → Nat) (x : Int) : ybr n mo (k + 1) m r x = ybr n mo k (m + 1) (upr r m (yrw n mo x)) (dxn n x) := rfl
theorem xdr_v {mo x : Int} (h0 : 0 ≤ mo) (h1 : mo ≤ 9) : x_Book_drawOf N (aw_w (mo + 1)) x w = some (dv mo x, w) := by
  have p : ¬ aw_w (mo + 1) ≤ 0 := by rw [ww (by omega) (by omega)]; omega
  rw [x_Book_drawOf, if_neg p, if_pos (fun e => p (Int.le_of_eq e)), x_Book_drawOf_16]
  rfl
theorem xdr_i {k6 : Int → Int → Int → aw_W → Option (aw_W)} (hn : n ≠ 0) {x1 x6 x : Int} : ∀ (f s : Nat) (w : aw_W), n - s < f → s ≤ n → XL w n lw it → XB w m r → (∀ k, k < s → w 21 k = dv (lw 4) (dxn (k + 1) x)) → ∃ w', x_Book_draw_15 N k6 f x1 (dxn s x) x6 s w = x_Book_draw_71 N k6 x1 (dxn n x) x6 w' ∧ XL w' n lw it ∧ XB w' m r ∧ (∀ k, k < n → w' 21 k = dv (lw 4) (dxn (k + 1) x)) := by
  intro f
  induction f with
  | zero => intro s w hf; omega
  | succ f ih =>
    intro s w hf hs h hb hd
    have hn6 := h.2.1
    have h9 := (h.2.2.2.2.2 hn).1.2.2.2.2
    have h54 := h.2.2.2.1 4 (by decide)
    rw [x_Book_draw_15, h.1]
    by_cases c : (n : Int) ≤ (s : Int)
    · have : s = n := by omega
      subst this
      rw [if_pos c]
      exact ⟨w, rfl, h, hb, hd⟩
    · rw [if_neg c, h54, xdr_v h9.1 h9.2, b2_some, if_pos ⟨by omega, by omega⟩, Int.toNat_natCast, ww1 (by omega)]
      refine ih (s + 1) _ (by omega) (by omega) (h.fr (S := [(21, 1000000)]) ((fr_r _ _).upA rfl) rfl) (hb.fr (S := [(21, 1000000)]) ((fr_r _ _).upA rfl) rfl) (fun k hk => ?_)
      by_cases e : k = s
      · subst e
        simp [aw_up]
        rfl
      · simp [aw_up, e]
        exact hd k (by omega)
theorem xdr_o (hN : 10 ≤ N) (hn : n ≠ 0) {K : Nat} (hK : K ≤ 40) : ∀ (k f i m : Nat) (r : Nat → Nat) (x : Int) (w : aw_W), k < f → i + k = K → m + k ≤ 40 → XL w n lw it → XB w m r → ∃ w', x_Book_draw_6 N f K x i w = some w' ∧ XB w' (m + k) (ybr n (lw 4) k m r x) := by
  intro k
  induction k with
  | zero =>
    intro f i m r x w hf hi hm h hb
    obtain ⟨f, rfl⟩ : ∃ g, f = g + 1 := ⟨f - 1, by omega⟩
    rw [x_Book_draw_6, if_pos (by omega)]
    exact ⟨w, rfl, hb⟩
  | succ k ih =>
    intro f i m r x w hf hi hm h hb
    obtain ⟨f, rfl⟩ : ∃ g, f = g + 1 := ⟨f - 1, by omega⟩
    have hn6 := h.2.1
    have h9 := (h.2.2.2.2.2 hn).1.2.2.2.2
    rw [x_Book_draw_6, if_neg (by omega)]
    obtain ⟨w1, e1, h1, hb1, d1⟩ := xdr_i (N := N) (k6 := x_Book_draw_6 N f) (x1 := (K : Int)) (x6 := (i : Int)) (x := x) hn N 0 w (by omega) (Nat.zero_le _) h hb (fun k hk => absurd hk (Nat.not_lt_zero _))
    have e1' : x_Book_draw_15 N (x_Book_draw_6 N f) N (K : Int) x (i : Int) 0 w = x_Book_draw_71 N (x_Book_draw_6 N f) (K : Int) (dxn n x) (i : Int) w1 := e1
    have er := xr_row (N := N) (w := w1) (n := n) (d := fun s => (dv (lw 4) (dxn (s + 1) x)).toNat) hN h1.1 hn6 (fun s hs => by
      have := dv_bd (mo := lw 4) (x := dxn (s + 1) x) h9.1 h9.2
      rw [d1 s hs]
      constructor <;> omega)
    have er' : x_Sale_row N w1 = some ((yrw n (lw 4) x : Int), w1) := er
    obtain ⟨w2, e2, hb2⟩ := X_add (N := N) hb1 (by omega) (yrw_lt (x := x) hn6 h9.1 h9.2)
    have f2 := f_x_Book_add N _ _ _ e2
    rw [e1', x_Book_draw_71, er', b2_some, e2, b1_some, ww1 (by omega)]
    obtain ⟨w3, e3, hb3⟩ := ih f (i + 1) (m + 1) _ (dxn n x) w2 (by omega) (by omega) (by omega) (h1.fr f2 rfl) hb2
    exact ⟨w3, e3, by rw [ybr_s, show m + (k + 1) = m + 1 + k by omega]; exact hb3⟩
theorem mdr_i {k6 : Int → Int → aw_W → Option (Int × aw_W)} (hn : n ≠ 0) {x1 x6 x : Int} : ∀ (f s : Nat) (w : aw_W), n - s < f → s ≤ n → ML w n lw it → MB w m r → w 49 44 = dxn s x → (∀ k, k < s → w 64 k = dv (lw 4) (dxn (k + 1) x)) → ∃ w', m_years_54 N k6 f x1 x6 s w = m_years_110 N k6 x1 x6 w' ∧ ML w' n lw it ∧ MB w' m r ∧ w' 49 44 = dxn n x ∧ (∀ k, k < n → w' 64 k = dv (lw 4) (dxn (k + 1) x)) := by
  intro f
  induction f with
  | zero => intro s w hf; omega
  | succ f ih =>
    intro s w hf hs h hb hx hd
    have hn6 := h.2.1
    have h9 := (h.2.2.2.2.2 hn).1.2.2.2.2
    have h54 := h.2.2.2.1 4 (by decide)
    rw [m_years_54, h.1]
    by_cases c : (n : Int) ≤ (s : Int)
    · have : s = n := by omega
      subst this
      rw [if_pos c]
      exact ⟨w, rfl, h, hb, hx, hd⟩
    · have ne : ¬ aw_w (lw 4 + 1) = 0 := by rw [ww (by omega) (by omega)]; omega
      rw [if_neg c, h54, if_pos ne, if_pos ⟨by omega, by omega⟩, Int.toNat_natCast, ww1 (by omega), hx]
      refine ih (s + 1) _ (by omega) (by omega) (h.fr (S := [(49, 44), (64, 1000000)]) (((fr_r _ _).up rfl).upA rfl) rfl) (hb.fr (S := [(49, 44), (64, 1000000)]) (((fr_r _ _).up rfl).upA rfl) rfl) ?_ (fun k hk => ?_)
      · simp [aw_up]
        rfl
      · by_cases e : k = s
        · subst e
          simp [aw_up]
          rfl
        · simp [aw_up, e]
          exact hd k (by omega)
theorem mdr_o (hN : 10 ≤ N) (hn : n ≠ 0) {K : Nat} (hK : K ≤ 40) : ∀ (k f i m : Nat) (r : Nat → Nat) (x : Int) (w : aw_W), k < f → i + k = K → m + k ≤ 40 → ML w n lw it → MB w m r → w 49 44 = x → ∃ w', m_years_45 N f K i w = some (((m + k : Nat) : Int), w') ∧ MB w' (m + k) (ybr n (lw 4) k m r x) := by
  intro k
  induction k with
  | zero =>
    intro f i m r x w hf hi hm h hb hx
    obtain ⟨f, rfl⟩ : ∃ g, f = g + 1 := ⟨f - 1, by omega⟩
    rw [m_years_45, if_pos (by omega), m_years_139, hb.1]
    exact ⟨w, rfl, hb⟩
  | succ k ih =>
    intro f i m r x w hf hi hm h hb hx
    obtain ⟨f, rfl⟩ : ∃ g, f = g + 1 := ⟨f - 1, by omega⟩
    have hn6 := h.2.1
    have h9 := (h.2.2.2.2.2 hn).1.2.2.2.2
    rw [m_years_45, if_neg (by omega)]
    obtain ⟨w1, e1, h1, hb1, x1, d1⟩ := mdr_i (N := N) (k6 := m_years_45 N f) (x1 := (K : Int)) (x6 := (i : Int)) (x := x) hn N 0 w (by omega) (Nat.zero_le _) h hb hx (fun k hk => absurd hk (Nat.not_lt_zero _))
    have e1' : m_years_54 N (m_years_45 N f) N (K : Int) (i : Int) 0 w = m_years_110 N (m_years_45 N f) (K : Int) (i : Int) w1 := e1
    have er := mr_row (N := N) (w := w1) (n := n) (d := fun s => (dv (lw 4) (dxn (s + 1) x)).toNat) hN h1.1 hn6 (fun s hs => by
      have := dv_bd (mo := lw 4) (x := dxn (s + 1) x) h9.1 h9.2
      rw [d1 s hs]
      constructor <;> omega)
    have er' : m_rowOf N w1 = some ((yrw n (lw 4) x : Int), w1) := er
    rw [e1', m_years_110, er', b2_some, hb1.1, if_pos ⟨by omega, by omega⟩, ww1 (by omega), ww1 (by omega), Int.toNat_natCast]
    have hl := yrw_lt (x := x) hn6 h9.1 h9.2
    obtain ⟨w3, e3, hb3⟩ := ih f (i + 1) (m + 1) (upr r m (yrw n (lw 4) x)) (dxn n x) (aw_up (aw_up w1 69 m (yrw n (lw 4) x : Int)) 49 43 ((m + 1 : Nat) : Int)) (by omega) (by omega) (by omega) (h1.fr (S := [(69, 1000000), (49, 43)]) (((fr_r _ _).upA rfl).up rfl) rfl) ⟨by simp [aw_up], by omega, fun j hj => by
      unfold upr
      by_cases e : j = m
      · subst e
        simp [aw_up]
        exact hl
      · simp [aw_up, e]
        exact hb1.2.2 j hj⟩ (by simp [aw_up]; exact x1)
    exact ⟨w3, by rw [e3, show m + 1 + k = m + (k + 1) by omega], by rw [ybr_s, show m + (k + 1) = m + 1 + k by omega]; exact hb3⟩
def yok (n m : Nat) (x1 : Int) : Bool := decide (n ≠ 0) && decide (1 ≤ x1) && decide (x1 ≤ 40 - (m : Int))
theorem yok_iff {n m : Nat} {x1 : Int} : yok n m x1 = true ↔ n ≠ 0 ∧ 1 ≤ x1 ∧ x1 ≤ 40 - (m : Int) := by
  unfold yok
  rw [Bool.and_eq_true, Bool.and_eq_true, decide_eq_true_eq, decide_eq_true_eq, decide_eq_true_eq, and_assoc]
theorem yok_no {n m : Nat} {x1 : Int} (h : ¬ (n ≠ 0 ∧ 1 ≤ x1 ∧ x1 ≤ 40 - (m : Int))) : yok n m x1 = false := by
  rw [Bool.eq_false_iff]
  exact fun q => h (yok_iff.mp q)
def a_years (n m : Nat) (x1 : Int) : Int := if yok n m x1 then ((m + x1.toNat : Nat) : Int) else -1
def ybm (n m : Nat) (x1 : Int) : Nat := if yok n m x1 then m + x1.toNat else m
def ybx (n : Nat) (lw : Nat → Int) (m : Nat) (r : Nat → Nat) (x1 x2 : Int) : Nat → Nat := if yok n m x1 then ybr n (lw 4) x1.toNat m r x2 else r
theorem X_years (hN : 100 ≤ N) (h : XL w n lw it) (hb : XB w m r) {x1 x2 : Int} : ∃ w', x_years N x1 x2 w = some (a_years n m x1, w') ∧ XB w' (ybm n m x1) (ybx n lw m r x1 x2) := by
  unfold a_years ybm ybx
  have hm := hb.2.1
  rw [x_years, h.1, hb.1, ww (x := 40 - (m : Int)) (by omega) (by omega)]
  have no : ¬ (n ≠ 0 ∧ 1 ≤ x1 ∧ x1 ≤ 40 - (m : Int)) → ∃ w', x_years_29 N w = some ((if yok n m x1 = true then ((m + x1.toNat : Nat) : Int) else -1), w') ∧ XB w' (if yok n m x1 = true then m + x1.toNat else m) (if yok n m x1 = true then ybr n (lw 4) x1.toNat m r x2 else r) := by
    intro z
    rw [yok_no z, if_neg (by decide), if_neg (by decide), if_neg (by decide)]
    exact ⟨w, rfl, hb⟩
  by_cases c0 : n = 0
  · rw [if_pos (by omega)]
    exact no (fun z => z.1 c0)
  · rw [if_neg (by omega)]
    by_cases c1 : x1 < 1
    · rw [if_pos c1]
      exact no (fun z => by omega)
    · rw [if_neg c1]
      by_cases c2 : x1 ≤ 40 - (m : Int)
      · obtain ⟨K, rfl⟩ : ∃ K : Nat, x1 = K := ⟨x1.toNat, by omega⟩
        have hy : yok n m (K : Int) = true := yok_iff.mpr ⟨c0, by omega, c2⟩
        obtain ⟨w1, e1, hb1⟩ := xdr_o (N := N) (by omega) c0 (K := K) (by omega) K N 0 m r x2 w (by omega) (by omega) (by omega) h hb
        have e1' : x_Book_draw N (K : Int) x2 w = some w1 := e1
        rw [if_pos c2, e1', b1_some, if_pos hy, if_pos hy, if_pos hy, Int.toNat_natCast, hb1.1]
        exact ⟨w1, rfl, hb1⟩
      · rw [if_neg c2]
        exact no (fun z => c2 z.2.2)
theorem M_years (hN : 100 ≤ N) (h : ML w n lw it) (hb : MB w m r) {x1 x2 : Int} : ∃ w', m_years N x1 x2 w = some (a_years n m x1, w') ∧ MB w' (ybm n m x1) (ybx n lw m r x1 x2) := by
  unfold a_years ybm ybx
  have hm := hb.2.1
  have h0 := h.th
  have hb0 := hb.th
  have no : ¬ (n ≠ 0 ∧ 1 ≤ x1 ∧ x1 ≤ 40 - (m : Int)) → ∃ w', m_years_35 N (aw_up w 49 0 0) = some ((if yok n m x1 = true then ((m + x1.toNat : Nat) : Int) else -1), w') ∧ MB w' (if yok n m x1 = true then m + x1.toNat else m) (if yok n m x1 = true then ybr n (lw 4) x1.toNat m r x2 else r) := by
    intro z
    rw [yok_no z, if_neg (by decide), if_neg (by decide), if_neg (by decide)]
    exact ⟨_, rfl, hb0⟩
  rw [m_years, h.1]
  by_cases c0 : n = 0
  · rw [if_pos (by omega)]
    exact no (fun z => z.1 c0)
  · rw [if_neg (by omega), m_isIn_ok, b2_some]
    by_cases c1 : 1 ≤ x1 ∧ x1 ≤ 40
    · rw [if_neg (fun z => (b2i_and.mp z) c1), hb0.1, ww (x := (m : Int) + x1) (by omega) (by omega)]
      by_cases c2 : x1 ≤ 40 - (m : Int)
      · obtain ⟨K, rfl⟩ : ∃ K : Nat, x1 = K := ⟨x1.toNat, by omega⟩
        have hy : yok n m (K : Int) = true := yok_iff.mpr ⟨c0, by omega, c2⟩
        obtain ⟨w1, e1, hb1⟩ := mdr_o (N := N) (by omega) c0 (K := K) (by omega) K N 0 m r x2 (aw_up (aw_up w 49 0 0) 49 44 x2) (by omega) (by omega) (by omega) (h0.fr (S := [(49, 44)]) ((fr_r _ _).up rfl) rfl) (hb0.fr (S := [(49, 44)]) ((fr_r _ _).up rfl) rfl) (by simp [aw_up])
        rw [if_pos (by omega), if_pos hy, if_pos hy, if_pos hy, Int.toNat_natCast]
        exact ⟨w1, e1, hb1⟩
      · rw [if_neg (by omega)]
        exact no (fun z => c2 z.2.2)
    · rw [if_pos (b2i_and.mpr c1)]
      exact no (fun z => by omega)
end PK
