/-! ===== pure: together, treason ===== -/
/-- the sum of the gains of those of p below i -/
def gs (p : Nat → Bool) (n : Nat) (lw it b : Nat → Int) : Nat → Int
  | 0 => 0
  | i + 1 => gs p n lw it b i + (if p i = true then gn n lw it b i else 0)
theorem gs_s (p : Nat → Bool) (n : Nat) (lw it b : Nat → Int) (i : Nat) : gs p n lw it b (i + 1) = gs p n lw it b i + (if p i = true then gn n lw it b i else 0) := rfl
def rb (n : Nat) (b : Nat → Int) : Nat := rv (fun k => (b k).toNat) n
def pst (p : Nat → Bool) (n : Nat) (lw it : Nat → Int) (acc : Option (Int × Nat)) (b : Nat → Int) : Option (Int × Nat) := match acc with
  | none => some (gs p n lw it b n, rb n b)
  | some (g, r) => if g < gs p n lw it b n then some (gs p n lw it b n, rb n b) else some (g, r)
section PA
variable {N : Nat} {w : aw_W} {n : Nat} {lw it b : Nat → Int}
theorem gs_bd (p : Nat → Bool) (h : n ≠ 0 → LB lw ∧ IB it n) (hb : bd n b) : ∀ i, i ≤ n → -108 * (i : Int) ≤ gs p n lw it b i ∧ gs p n lw it b i ≤ 99 * (i : Int)
  | 0, _ => ⟨Int.le_refl _, Int.le_refl _⟩
  | i + 1, hi => by
    have ih := gs_bd p h hb i (by omega)
    have hg := gn_bd h hb (show i < n by omega)
    rw [gs_s]
    split <;> omega
theorem xgs_l {a : Nat} (ha : a < 64) (h : XL w n lw it) (hn : n ≠ 0) (hb : ∀ k, k < n → w 21 k = b k) (hbd : bd n b) (hs : sd w n b) : ∀ (f i : Nat), n - i < f → i ≤ n → x_Replies_gainOfSome_4 N f a (gs a.testBit n lw it b i) i w = some (gs a.testBit n lw it b n, w) := by
  intro f
  induction f with
  | zero => intro i hf; omega
  | succ f ih =>
    intro i hf hin
    have hn6 := h.2.1
    rw [x_Replies_gainOfSome_4, h.1]
    by_cases c : (n : Int) ≤ (i : Int)
    · have : i = n := by omega
      subst this
      rw [if_pos c]
      rfl
    · have hin2 : i < n := by omega
      have ih2 := ih (i + 1) (by omega) (by omega)
      rw [gs_s] at ih2
      rw [if_neg c, bt_has a ha i (by omega)]
      by_cases hp : a.testBit i = true
      · have B := gs_bd a.testBit h.2.2.2.2.2 hbd (i + 1) (by omega)
        rw [gs_s, if_pos hp] at B
        rw [if_pos hp] at ih2
        rw [if_pos hp, if_neg (by decide), X_gainOf h hn hb hbd hs hin2, b2_some, x_Replies_gainOfSome_34, ww1 (by omega), ww (x := gs a.testBit n lw it b i + gn n lw it b i) (by omega) (by omega)]
        exact ih2
      · rw [if_neg hp, Int.add_zero] at ih2
        rw [if_neg hp, if_pos rfl, x_Replies_gainOfSome_34, ww1 (by omega)]
        exact ih2
theorem bdN (h : bd n b) : ∀ k, k < n → b k = (((b k).toNat : Nat) : Int) ∧ (b k).toNat < 10 := by
  intro k hk
  have := h k hk
  omega
theorem rb_lt (h : bd n b) (hn : n ≤ 6) : rb n b < 1000000 := Nat.lt_of_lt_of_le (rv_lt (fun s hs => (bdN h s hs).2)) (p10_6 hn)
theorem X_row (hN : 10 ≤ N) (h : XL w n lw it) (hb : ∀ k, k < n → w 21 k = b k) (hbd : bd n b) : x_Sale_row N w = some ((rb n b : Int), w) :=
  xr_row hN h.1 h.2.1 (fun s hs => ⟨by rw [hb s hs]; exact (bdN hbd s hs).1, (bdN hbd s hs).2⟩)
theorem M_row (hN : 10 ≤ N) (h : ML w n lw it) (hb : ∀ k, k < n → w 64 k = b k) (hbd : bd n b) : m_rowOf N w = some ((rb n b : Int), w) :=
  mr_row hN h.1 h.2.1 (fun s hs => ⟨by rw [hb s hs]; exact (bdN hbd s hs).1, (bdN hbd s hs).2⟩)
theorem xbs_l (hN : 20 ≤ N) {a : Nat} (ha : a < 64) (hn : n ≠ 0) {rows : Nat} (hr : rows ≤ 1000000) : ∀ (m f i : Nat) (w : aw_W) (b : Nat → Int) (acc : Option (Int × Nat)), m < f → i + m = rows → XL w n lw it → bd n b → (∀ k, k < n → w 21 k = b k) → (i = 0 ↔ acc = none) → (∀ g r, acc = some (g, r) → w 22 5 = g ∧ w 22 6 = (r : Int)) → ∃ w', x_Replies_best_19 N f a rows i w = some w' ∧ XL w' n lw it ∧ (∀ g r, (its a.testBit (lw 4) n m b).foldl (pst a.testBit n lw it) acc = some (g, r) → w' 22 5 = g ∧ w' 22 6 = (r : Int)) := by
  intro m
  induction m with
  | zero =>
    intro f i w b acc hf hi h hbd hb i0 i1
    obtain ⟨f, rfl⟩ : ∃ g, f = g + 1 := ⟨f - 1, by omega⟩
    rw [x_Replies_best_19, if_pos (by omega)]
    exact ⟨w, rfl, h, i1⟩
  | succ m ih =>
    intro f i w b acc hf hi h hbd hb i0 i1
    obtain ⟨f, rfl⟩ : ∃ g, f = g + 1 := ⟨f - 1, by omega⟩
    have hn6 := h.2.1
    have h9 := (h.2.2.2.2.2 hn).1.2.2.2.2
    obtain ⟨w2, e2, h2, b2, s3, s4, s5, s6, ss, f2⟩ := X_settle (N := N) (by omega) h hn hb
    have eg : x_Replies_gainOfSome N a w2 = some (gs a.testBit n lw it b n, w2) := xgs_l (N := N) ha h2 hn b2 hbd ss N 0 (by omega) (by omega)
    have r : ∀ k, w2 22 k = w 22 k := fun k => f2 22 k rfl
    rw [x_Replies_best_19, if_neg (by omega), e2, b1_some, eg, b2_some, r 5]
    show ∃ w', _ ∧ _ ∧ (∀ g r, (its a.testBit (lw 4) n m (nx a.testBit (lw 4) n b)).foldl (pst a.testBit n lw it) (pst a.testBit n lw it acc b) = some (g, r) → _)
    have nxt : ∀ (w3 : aw_W) (acc' : Option (Int × Nat)), XL w3 n lw it → (∀ k, k < n → w3 21 k = b k) → acc' ≠ none → (∀ g r, acc' = some (g, r) → w3 22 5 = g ∧ w3 22 6 = (r : Int)) → ∃ w', x_Replies_best_68 N (x_Replies_best_19 N f) a rows i w3 = some w' ∧ XL w' n lw it ∧ (∀ g r, (its a.testBit (lw 4) n m (nx a.testBit (lw 4) n b)).foldl (pst a.testBit n lw it) acc' = some (g, r) → w' 22 5 = g ∧ w' 22 6 = (r : Int)) := by
      intro w3 acc' h3 b3 hne i3
      obtain ⟨w5, e5, h5, b5, f5⟩ := X_next (N := N) (by omega) h3 hbd b3 ha
      rw [x_Replies_best_68, e5, b1_some, ww1 (by omega)]
      refine ih f (i + 1) w5 _ acc' (by omega) (by omega) h5 (nx_bd h9 (Nat.le_refl _) hbd) b5 ⟨fun z => absurd z (by omega), fun z => absurd z hne⟩ (fun g q e => ?_)
      rw [f5 22 5 rfl, f5 22 6 rfl]
      exact i3 g q e
    have tak : ∃ w', x_Replies_best_51 N (x_Replies_best_19 N f) a rows i (gs a.testBit n lw it b n) w2 = some w' ∧ XL w' n lw it ∧ (∀ g r, (its a.testBit (lw 4) n m (nx a.testBit (lw 4) n b)).foldl (pst a.testBit n lw it) (some (gs a.testBit n lw it b n, rb n b)) = some (g, r) → w' 22 5 = g ∧ w' 22 6 = (r : Int)) := by
      have h3 : XL (aw_up w2 22 5 (gs a.testBit n lw it b n)) n lw it := h2.fr (S := [(22, 5)]) ((fr_r _ w2).up rfl) rfl
      rw [x_Replies_best_51, X_row (by omega) h3 (b := b) (fun k hk => by simp [aw_up]; exact b2 k hk) hbd, b2_some]
      refine nxt _ _ (h3.fr (S := [(22, 6)]) ((fr_r _ _).up rfl) rfl) (fun k hk => by simp [aw_up]; exact b2 k hk) (by simp) (fun g q e => ?_)
      cases e
      exact ⟨by simp [aw_up], by simp [aw_up]⟩
    cases acc with
    | none =>
      rw [if_pos (by have := i0.mpr rfl; omega)]
      exact tak
    | some q =>
      obtain ⟨g, q⟩ := q
      have hi0 : i ≠ 0 := fun z => by have := i0.mp z; cases this
      obtain ⟨j1, j2⟩ := i1 g q rfl
      rw [if_neg (by omega), j1]
      show ∃ w', _ ∧ _ ∧ (∀ g' r, (its a.testBit (lw 4) n m (nx a.testBit (lw 4) n b)).foldl (pst a.testBit n lw it) (if g < gs a.testBit n lw it b n then some (gs a.testBit n lw it b n, rb n b) else some (g, q)) = some (g', r) → _)
      by_cases c : gs a.testBit n lw it b n ≤ g
      · rw [if_pos c, if_neg (by omega)]
        refine nxt w2 _ h2 b2 (by simp) (fun g' q' e => ?_)
        cases e
        rw [r, r]
        exact ⟨j1, j2⟩
      · rw [if_neg c, if_pos (by omega)]
        exact tak
/-- the best of all rows in which some bid anew: the greatest sum, its first row -/
def pbs (a n : Nat) (lw it b : Nat → Int) : Option (Int × Nat) := (rws a.testBit (lw 4).toNat n 0 b).foldl (pst a.testBit n lw it) none
theorem X_best (hN : 10000000 ≤ N) (h : XL w n lw it) (hn : n ≠ 0) (hb : ∀ k, k < n → w 21 k = b k) (hbd : bd n b) {a : Nat} (ha : a < 2 ^ n) : ∃ w', x_Replies_best N a w = some w' ∧ XL w' n lw it ∧ (∀ g r, pbs a n lw it b = some (g, r) → w' 22 5 = g ∧ w' 22 6 = (r : Int)) := by
  have hn6 := h.2.1
  have pn := pow_n n hn6
  have h9 := (h.2.2.2.2.2 hn).1.2.2.2.2
  obtain ⟨w1, e1, h1, b1, f1⟩ := X_lowest (N := N) (b := b) (by omega) h hb (a := a) (by omega)
  have hl := lenr_le (p := a.testBit) (mo := (lw 4).toNat) (n := n) (by omega) hn6
  rw [x_Replies_best, e1, b1_some, X_rowsOf (by omega) h1 hn ha, b2_some]
  obtain ⟨w3, e3, h3, g1⟩ := xbs_l (N := N) (a := a) (by omega) (by omega) hn hl.2 _ N 0 _ _ none (by omega) (Nat.zero_add _) h1 (zr_bd hbd) b1 ⟨fun _ => rfl, fun _ => rfl⟩ (fun g r e => by cases e)
  have em : lw 4 = ((lw 4).toNat : Int) := by omega
  have ei := its_all (p := a.testBit) (mo := (lw 4).toNat) (n := n) (b := b)
  rw [← em] at ei
  rw [ei] at g1
  exact ⟨w3, e3, h3, g1⟩
theorem pst_some (p : Nat → Bool) (n : Nat) (lw it : Nat → Int) (acc : Option (Int × Nat)) (b : Nat → Int) : ∃ q, pst p n lw it acc b = some q := by
  unfold pst
  cases acc with
  | none => exact ⟨_, rfl⟩
  | some q =>
    obtain ⟨g, r⟩ := q
    by_cases z : g < gs p n lw it b n
    · exact ⟨_, if_pos z⟩
    · exact ⟨_, if_neg z⟩
/-! the reference's -/
def pac (w : aw_W) (acc : Option (Int × Nat)) : Prop := match acc with
  | none => w 49 37 = -1
  | some (g, r) => w 49 36 = g ∧ w 49 37 = (r : Int)
theorem mgs_l (hN : 20 ≤ N) (c0 : Int → Int → aw_W → Option aw_W) {a : Nat} (ha : a < 64) (hbd : bd n b) : ∀ (f i : Nat) (w : aw_W), n - i < f → i ≤ n → ML w n lw it → (∀ k, k < n → w 64 k = b k) → ∃ w', m_goPact_13 c0 N f a (gs a.testBit n lw it b i) i w = m_goPact_50 c0 N (gs a.testBit n lw it b n) w' ∧ ML w' n lw it ∧ (∀ k, k < n → w' 64 k = b k) ∧ fr_ S_m_gainOf w w' := by
  intro f
  induction f with
  | zero => intro i w hf; omega
  | succ f ih =>
    intro i w hf hin h hb
    have hn6 := h.2.1
    rw [m_goPact_13, h.1]
    by_cases c : (n : Int) ≤ (i : Int)
    · have : i = n := by omega
      subst this
      rw [if_pos c]
      exact ⟨w, rfl, h, hb, fr_r _ w⟩
    · have hin2 : i < n := by omega
      have B0 := gs_bd a.testBit h.2.2.2.2.2 hbd i (by omega)
      have B := gs_bd a.testBit h.2.2.2.2.2 hbd (i + 1) (by omega)
      rw [gs_s] at B
      rw [if_neg c, m_has_ok ha (by omega), b2_some]
      cases hp : a.testBit i with
      | false =>
        obtain ⟨w', e, r⟩ := ih (i + 1) w (by omega) (by omega) h hb
        refine ⟨w', ?_, r⟩
        rw [gs_s, hp, if_neg (by simp), Int.add_zero] at e
        rw [if_pos (by rfl), m_goPact_42, ww1 (by omega), Int.add_zero, ww (x := gs a.testBit n lw it b i) (by omega) (by omega)]
        exact e
      | true =>
        rw [hp, if_pos rfl] at B
        obtain ⟨w2, e2, h2, b2, f2⟩ := M_gainOf (N := N) (by omega) h (by omega) hb hbd hin2
        obtain ⟨w', e, r1, r2, r3⟩ := ih (i + 1) w2 (by omega) (by omega) h2 b2
        refine ⟨w', ?_, r1, r2, f2.trans r3⟩
        rw [gs_s, hp, if_pos rfl] at e
        rw [if_neg (by decide), e2, b2_some, m_goPact_42, ww1 (by omega), ww (x := gs a.testBit n lw it b i + gn n lw it b i) (by omega) (by omega)]
        exact e
theorem mgp (hN : 20 ≤ N) {a : Nat} (ha : a < 64) {mo : Nat} (hn : n ≠ 0) (hmo : lw 4 = mo) (hmo9 : mo ≤ 9) : ∀ (k s D : Nat) (w : aw_W) (b : Nat → Int) (acc : Option (Int × Nat)), s + k = n → k < D → ML w n lw it → bd n b → (∀ j, j < n → (s ≤ j → a.testBit j = false) → w 64 j = b j) → pac w acc → ∃ w', g_m_goPact N D a s w = some w' ∧ ML w' n lw it ∧ (∀ j, j < n → (s ≤ j → a.testBit j = false) → w' 64 j = b j) ∧ pac w' ((rws a.testBit mo k s b).foldl (pst a.testBit n lw it) acc) := by
  intro k
  induction k with
  | zero =>
    intro s D w b acc hs hD h hbd hb i1
    obtain ⟨D, rfl⟩ : ∃ g, D = g + 1 := ⟨D - 1, by omega⟩
    have es : s = n := by omega
    subst es
    have hn6 := h.2.1
    have hb' : ∀ j, j < s → w 64 j = b j := fun j hj => hb j hj (fun z => by omega)
    show ∃ w', m_goPact_b (g_m_goPact N D) N a s w = some w' ∧ _
    obtain ⟨w1, e1, h1, b1, f1⟩ := mgs_l (N := N) hN (g_m_goPact N D) ha hbd N 0 w (by omega) (by omega) h hb'
    have e1' : m_goPact_13 (g_m_goPact N D) N N a 0 0 w = _ := e1
    have r : ∀ k, w1 49 k = w 49 k := fun k => f1 49 k rfl
    rw [m_goPact_b, h.1, if_pos rfl, e1', m_goPact_50]
    show ∃ w', _ ∧ _ ∧ _ ∧ pac w' (pst a.testBit s lw it acc b)
    have tak : ∃ w', m_goPact_67 (g_m_goPact N D) N (gs a.testBit s lw it b s) w1 = some w' ∧ ML w' s lw it ∧ (∀ j, j < s → (s ≤ j → a.testBit j = false) → w' 64 j = b j) ∧ pac w' (some (gs a.testBit s lw it b s, rb s b)) := by
      have h3 : ML (aw_up w1 49 36 (gs a.testBit s lw it b s)) s lw it := h1.fr (S := [(49, 36)]) ((fr_r _ w1).up rfl) rfl
      rw [m_goPact_67, M_row (by omega) h3 (b := b) (fun k hk => by simp [aw_up]; exact b1 k hk) hbd, b2_some]
      exact ⟨_, rfl, h3.fr (S := [(49, 37)]) ((fr_r _ _).up rfl) rfl, fun j hj _ => by simp [aw_up]; exact b1 j hj, by simp [aw_up], by simp [aw_up]⟩
    cases acc with
    | none =>
      have i1' : w 49 37 = -1 := i1
      rw [r 37, i1', if_pos rfl]
      exact tak
    | some q =>
      obtain ⟨g, q⟩ := q
      obtain ⟨j1, j2⟩ : w 49 36 = g ∧ w 49 37 = (q : Int) := i1
      rw [r 37, r 36, j1, j2, if_neg (by omega)]
      show ∃ w', _ ∧ _ ∧ _ ∧ pac w' (if g < gs a.testBit s lw it b s then some (gs a.testBit s lw it b s, rb s b) else some (g, q))
      by_cases c : g < gs a.testBit s lw it b s
      · rw [if_pos c, if_pos c]
        exact tak
      · rw [if_neg c, if_neg c]
        exact ⟨w1, rfl, h1, fun j hj _ => b1 j hj, by rw [r]; exact j1, by rw [r]; exact j2⟩
  | succ k ih =>
    intro s D w b acc hs hD h hbd hb i1
    obtain ⟨D, rfl⟩ : ∃ g, D = g + 1 := ⟨D - 1, by omega⟩
    have hn6 := h.2.1
    show ∃ w', m_goPact_b (g_m_goPact N D) N a s w = some w' ∧ _
    rw [m_goPact_b, h.1, if_neg (by omega), rws_s, m_has_ok ha (by omega), b2_some]
    cases hp : a.testBit s with
    | false =>
      rw [if_pos (by rfl), ww1 (by omega), if_neg (by simp)]
      obtain ⟨w1, e1, h1, b1, g1⟩ := ih (s + 1) D w b acc (by omega) (by omega) h hbd (fun j hj hj2 => hb j hj (fun z => (Decidable.em (j = s)).elim (fun e => by rw [e]; exact hp) (fun e => hj2 (by omega)))) i1
      rw [e1, b1_some]
      exact ⟨w1, rfl, h1, fun j hj hj2 => b1 j hj (fun z => hj2 (by omega)), g1⟩
    | true =>
      rw [if_neg (by decide), if_pos ⟨by omega, by omega⟩, Int.toNat_natCast, if_pos rfl]
      have inner : ∀ (was : Int) (f v : Nat) (w : aw_W) (acc : Option (Int × Nat)), mo + 1 - v < f → v ≤ mo + 1 → ML w n lw it → (∀ j, j < n → (s ≤ j → a.testBit j = false) → w 64 j = b j) → pac w acc → ∃ w', m_goPact_108 (g_m_goPact N D) N f a s was v w = some w' ∧ ML w' n lw it ∧ (∀ j, j < n → (s ≤ j → a.testBit j = false) → w' 64 j = b j) ∧ pac w' (((List.range' v (mo + 1 - v)).flatMap (fun v : Nat => rws a.testBit mo k (s + 1) (upb b s (v : Int)))).foldl (pst a.testBit n lw it) acc) := by
        intro was f
        induction f with
        | zero => intro v w acc h; omega
        | succ f ihf =>
          intro v w acc hf hv h hb i1
          rw [m_goPact_108, h.2.2.2.1 4 (by decide), hmo]
          by_cases cc : (mo : Int) < (v : Int)
          · rw [if_pos cc, show mo + 1 - v = 0 by omega, m_goPact_141, if_pos ⟨by omega, by omega⟩, Int.toNat_natCast]
            refine ⟨_, rfl, h.fr (S := [(64, 1000000)]) ((fr_r _ w).upA rfl) rfl, fun j hj hj2 => ?_, ?_⟩
            · have hne : j ≠ s := fun e => by have := hj2 (by omega); rw [e, hp] at this; cases this
              simp [aw_up, hne]
              exact hb j hj hj2
            · show pac _ acc
              cases acc with
              | none => exact i1
              | some q => exact i1
          · rw [if_neg cc, if_pos ⟨by omega, by omega⟩, ww1 (by omega), Int.toNat_natCast]
            obtain ⟨w1, e1, h1, b1, g1⟩ := ih (s + 1) D (aw_up w 64 s (v : Int)) (upb b s (v : Int)) acc (by omega) (by omega) (h.fr (S := [(64, 1000000)]) ((fr_r _ w).upA rfl) rfl) (upb_bd hbd (by omega)) (fun j hj hj2 => by
              unfold upb
              by_cases e : j = s
              · rw [if_pos e]; simp [aw_up, e]
              · rw [if_neg e]; simp [aw_up, e]; exact hb j hj (fun z => hj2 (by omega))) (by
              cases acc with
              | none => exact i1
              | some q => exact i1)
            rw [e1, b1_some, ww1 (by omega)]
            obtain ⟨w2, e2, h2, b2, k1⟩ := ihf (v + 1) w1 _ (by omega) (by omega) h1 (fun j hj hj2 => by
              have hne : j ≠ s := fun e => by have := hj2 (by omega); rw [e, hp] at this; cases this
              rw [b1 j hj (fun z => hj2 (by omega))]
              unfold upb
              rw [if_neg hne]) g1
            refine ⟨w2, e2, h2, b2, ?_⟩
            rw [show mo + 1 - v = (mo + 1 - (v + 1)) + 1 by omega, List.range'_succ, List.flatMap_cons, List.foldl_append]
            exact k1
      obtain ⟨w1, e1, h1, b1, g1⟩ := inner (w 64 s) N 0 w acc (by omega) (by omega) h hb i1
      rw [Nat.sub_zero, ← List.range_eq_range'] at g1
      exact ⟨w1, e1, h1, b1, g1⟩
theorem M_goPact (hN : 20 ≤ N) (h : ML w n lw it) (hn : n ≠ 0) (hb : ∀ k, k < n → w 64 k = b k) (hbd : bd n b) {a : Nat} (ha : a < 64) : ∃ w', m_goPact N a 0 (aw_up w 49 37 (-1)) = some w' ∧ ML w' n lw it ∧ pac w' (pbs a n lw it b) := by
  have hn6 := h.2.1
  have h9 := (h.2.2.2.2.2 (by omega)).1.2.2.2.2
  obtain ⟨w1, e1, h1, b1, g1⟩ := mgp (N := N) hN ha (mo := (lw 4).toNat) hn (by omega) (by omega) n 0 60 (aw_up w 49 37 (-1)) b none (by omega) (by omega) (h.fr (S := [(49, 37)]) ((fr_r _ w).up rfl) rfl) hbd (fun j hj _ => by simp [aw_up]; exact hb j hj) (by show (aw_up w 49 37 (-1)) 49 37 = -1; simp [aw_up])
  exact ⟨w1, e1, h1, g1⟩
theorem pbs_some {a : Nat} (hbd : bd n b) (h9 : (lw 4).toNat ≤ 9) (hn : n ≤ 6) : ∃ g r, pbs a n lw it b = some (g, r) ∧ r < 1000000 ∧ ∃ c, bd n c ∧ r = rb n c ∧ ∀ j, j < n → (c j ≤ (lw 4).toNat ∨ c j = b j) := by
  have key : ∀ (l : List (Nat → Int)) (acc : Option (Int × Nat)), (∀ c ∈ l, bd n c ∧ ∀ j, j < n → (c j ≤ (lw 4).toNat ∨ c j = b j)) → (acc = none → l ≠ []) → (∀ g r, acc = some (g, r) → r < 1000000 ∧ ∃ c, bd n c ∧ r = rb n c ∧ ∀ j, j < n → (c j ≤ (lw 4).toNat ∨ c j = b j)) → ∃ g r, l.foldl (pst a.testBit n lw it) acc = some (g, r) ∧ r < 1000000 ∧ ∃ c, bd n c ∧ r = rb n c ∧ ∀ j, j < n → (c j ≤ (lw 4).toNat ∨ c j = b j) := by
    intro l
    induction l with
    | nil =>
      intro acc _ h1 h2
      cases acc with
      | none => exact absurd rfl (h1 rfl)
      | some q => exact ⟨q.1, q.2, rfl, h2 q.1 q.2 rfl⟩
    | cons c l ih =>
      intro acc h0 h1 h2
      have hc := h0 c (List.mem_cons_self ..)
      obtain ⟨q, eq⟩ := pst_some a.testBit n lw it acc c
      refine ih _ (fun d hd => h0 d (List.mem_cons_of_mem _ hd)) (fun z => by rw [eq] at z; cases z) (fun g r e => ?_)
      have new : r = rb n c → r < 1000000 ∧ ∃ c, bd n c ∧ r = rb n c ∧ ∀ j, j < n → (c j ≤ (lw 4).toNat ∨ c j = b j) := fun z => ⟨by rw [z]; exact rb_lt hc.1 hn, c, hc.1, z, hc.2⟩
      cases acc with
      | none =>
        unfold pst at e
        cases e
        exact new rfl
      | some q =>
        obtain ⟨g', r'⟩ := q
        have e' : (if g' < gs a.testBit n lw it c n then some (gs a.testBit n lw it c n, rb n c) else some (g', r')) = some (g, r) := e
        by_cases z : g' < gs a.testBit n lw it c n
        · rw [if_pos z] at e'
          cases e'
          exact new rfl
        · rw [if_neg z] at e'
          cases e'
          exact h2 _ _ rfl
  have mem : ∀ (k s : Nat) (d : Nat → Int), bd n d → (∀ j, j < n → (d j ≤ (lw 4).toNat ∨ d j = b j)) → ∀ c ∈ rws a.testBit (lw 4).toNat k s d, bd n c ∧ ∀ j, j < n → (c j ≤ (lw 4).toNat ∨ c j = b j) := by
    intro k
    induction k with
    | zero =>
      intro s d h1 h2 c hc
      unfold rws at hc
      simp at hc
      rw [hc]
      exact ⟨h1, h2⟩
    | succ k ih =>
      intro s d h1 h2 c hc
      rw [rws_s] at hc
      by_cases e : a.testBit s = true
      · rw [if_pos e, List.mem_flatMap] at hc
        obtain ⟨v, hv, hc⟩ := hc
        rw [List.mem_range] at hv
        refine ih (s + 1) _ (upb_bd h1 (by omega)) (fun j hj => ?_) c hc
        unfold upb
        by_cases ej : j = s
        · rw [if_pos ej]; left; omega
        · rw [if_neg ej]; exact h2 j hj
      · rw [if_neg e] at hc
        exact ih (s + 1) d h1 h2 c hc
  have ne : ∀ (k s : Nat) (d : Nat → Int), rws a.testBit (lw 4).toNat k s d ≠ [] := by
    intro k
    induction k with
    | zero => intro s d; unfold rws; simp
    | succ k ih =>
      intro s d
      rw [rws_s]
      by_cases e : a.testBit s = true
      · rw [if_pos e]
        intro z
        rw [List.flatMap_eq_nil_iff] at z
        exact ih (s + 1) _ (z 0 (List.mem_range.mpr (by omega)))
      · rw [if_neg e]
        exact ih (s + 1) d
  exact key _ none (fun c hc => mem n 0 b hbd (fun _ _ => Or.inr rfl) c hc) (fun _ => ne n 0 b) (fun g r e => by cases e)
/-! the two calls -/
def pop4 (x : Int) : Bool := decide (pop x.toNat ≤ 4)
def a_together (n : Nat) (lw it : Nat → Int) (x1 x2 x3 : Int) : Int := if ¬ (0 ≤ x3 ∧ x3 ≤ 1) ∨ okp n lw x1 x2 = false ∨ pop4 x2 = false then -1000000 else match pbs x2.toNat n lw it (bb x1 n) with
  | none => 0
  | some (g, r) => if x3 = 0 then g else (r : Int)
theorem X_mayPact (hN : 20 ≤ N) (h : XL w n lw it) {x1 x2 : Int} (hx : aw_I x1) : ∃ w', x_mayPact N x1 x2 w = some (b2i (okp n lw x1 x2 && pop4 x2), w') ∧ XL w' n lw it ∧ (okp n lw x1 x2 = true → pop4 x2 = true → n ≠ 0 ∧ ∀ s, s < n → w' 21 s = bb x1 n s) := by
  have pn := pow_n n h.2.1
  rw [x_mayPact, X_holdsSome h, b2_some]
  cases hp : (decide (0 < x2) && decide (x2 < ((2 ^ n : Nat) : Int))) with
  | false =>
    have : okp n lw x1 x2 = false := by unfold okp; rw [hp]; rfl
    rw [if_pos (by rfl), this]
    exact ⟨w, rfl, h, fun z => by cases z⟩
  | true =>
    have hp' := hp
    rw [Bool.and_eq_true, decide_eq_true_eq, decide_eq_true_eq] at hp'
    obtain ⟨a, rfl⟩ : ∃ a : Nat, x2 = a := ⟨x2.toNat, by omega⟩
    rw [if_neg (by decide), bc_ok N (by omega) w, b2_some]
    by_cases c : 4 < pop a
    · have : pop4 (a : Int) = false := by unfold pop4; rw [Int.toNat_natCast]; exact decide_eq_false (by omega)
      rw [if_pos c, this, Bool.and_false]
      exact ⟨w, rfl, h, fun _ z => by cases z⟩
    · have e4 : pop4 (a : Int) = true := by unfold pop4; rw [Int.toNat_natCast]; exact decide_eq_true (by omega)
      obtain ⟨w1, e1, h1, f1, d1⟩ := X_take (N := N) (by omega) h hx
      have eo : okp n lw x1 a = okr n lw x1 := by unfold okp; rw [hp]; rfl
      rw [if_neg c, e1, b2_some, e4, eo, Bool.and_true]
      cases ho : okr n lw x1 with
      | false =>
        rw [if_pos (by rfl)]
        exact ⟨w1, rfl, h1, fun z => by cases z⟩
      | true =>
        rw [if_neg (by decide)]
        exact ⟨w1, rfl, h1, fun _ _ => d1 ho⟩
theorem okp_a {x1 x2 : Int} (hn : n ≤ 6) (h : okp n lw x1 x2 = true) : ∃ a : Nat, x2 = a ∧ a < 2 ^ n ∧ a < 64 ∧ okr n lw x1 = true := by
  have pn := pow_n n hn
  unfold okp at h
  rw [Bool.and_eq_true, Bool.and_eq_true, decide_eq_true_eq, decide_eq_true_eq] at h
  exact ⟨x2.toNat, by omega, by omega, by omega, h.2⟩
theorem X_together (hN : 10000000 ≤ N) (h : XL w n lw it) {x1 x2 x3 : Int} (hx : aw_I x1) : ∃ w', x_together N x1 x2 x3 w = some (a_together n lw it x1 x2 x3, w') := by
  unfold a_together
  rw [x_together]
  by_cases c3 : 0 ≤ x3 ∧ x3 ≤ 1
  · obtain ⟨w1, e1, h1, d1⟩ := X_mayPact (N := N) (x2 := x2) (by omega) h hx
    rw [if_neg (by omega), if_neg (by omega), e1, b2_some]
    cases ho : okp n lw x1 x2 with
    | false =>
      rw [if_pos (by rfl), if_pos (Or.inr (Or.inl rfl))]
      exact ⟨w1, rfl⟩
    | true =>
      cases h4 : pop4 x2 with
      | false =>
        rw [if_pos (by rfl), if_pos (Or.inr (Or.inr rfl))]
        exact ⟨w1, rfl⟩
      | true =>
        obtain ⟨hn, hb⟩ := d1 ho h4
        have h9 := (h.2.2.2.2.2 hn).1.2.2.2.2
        obtain ⟨a, rfl, ha, ha2, -⟩ := okp_a h.2.1 ho
        obtain ⟨w2, e2, h2, g2⟩ := X_best (N := N) hN h1 hn hb (bb_bd x1 n) ha
        obtain ⟨g, r, eg, -⟩ := pbs_some (a := a) (lw := lw) (it := it) (bb_bd x1 n) (by omega) h.2.1
        obtain ⟨g1, g3⟩ := g2 g r eg
        rw [if_neg (by decide), if_neg (c := _ ∨ _ ∨ _) (fun z => z.elim (fun z => z c3) (fun z => z.elim (fun z => by cases z) (fun z => by cases z))), e2, b1_some, g1, g3, Int.toNat_natCast, eg]
        show ∃ w', _ = some ((if x3 = 0 then g else (r : Int)), w')
        by_cases z : x3 = 0
        · rw [if_pos z, if_pos z]; exact ⟨w2, rfl⟩
        · rw [if_neg z, if_neg z]; exact ⟨w2, rfl⟩
  · rw [if_pos (c := _ ∨ _) (Or.inl c3)]
    by_cases z : x3 < 0
    · rw [if_pos z]; exact ⟨w, rfl⟩
    · rw [if_neg z, if_pos (by omega)]; exact ⟨w, rfl⟩
theorem M_goesPact (hN : 20 ≤ N) (h : ML w n lw it) {x1 x2 : Int} (hx : aw_I x1) : ∃ w', m_goesPact N x1 x2 w = some (b2i (okp n lw x1 x2 && pop4 x2), w') ∧ ML w' n lw it ∧ (okp n lw x1 x2 = true → pop4 x2 = true → n ≠ 0 ∧ pac w' (pbs x2.toNat n lw it (bb x1 n))) := by
  obtain ⟨w1, e1, h1, f1, d1⟩ := M_isPact (N := N) (x2 := x2) hN h hx
  rw [m_goesPact, e1, b2_some]
  cases ho : okp n lw x1 x2 with
  | false =>
    rw [if_pos (by rfl)]
    exact ⟨w1, rfl, h1, fun z => by cases z⟩
  | true =>
    obtain ⟨hn, hb⟩ := d1 ho
    obtain ⟨a, rfl, ha, ha2, -⟩ := okp_a h.2.1 ho
    rw [if_neg (by decide), bc_ok N ha2 w1, b2_some]
    by_cases c : pop a ≤ 4
    · have e4 : pop4 (a : Int) = true := by unfold pop4; rw [Int.toNat_natCast]; exact decide_eq_true c
      obtain ⟨w2, e2, h2, g2⟩ := M_goPact (N := N) hN h1 hn hb (bb_bd x1 n) ha2
      rw [if_pos c, e2, b1_some, e4, Int.toNat_natCast]
      exact ⟨w2, rfl, h2, fun _ _ => ⟨hn, g2⟩⟩
    · have e4 : pop4 (a : Int) = false := by unfold pop4; rw [Int.toNat_natCast]; exact decide_eq_false c
      rw [if_neg c, e4]
      exact ⟨w1, rfl, h1, fun _ z => by cases z⟩
theorem M_together (hN : 20 ≤ N) (h : ML w n lw it) {x1 x2 x3 : Int} (hx : aw_I x1) : ∃ w', m_together N x1 x2 x3 w = some (a_together n lw it x1 x2 x3, w') := by
  unfold a_together
  have h0 : ML (aw_up w 49 0 0) n lw it := h.fr (S := [(49, 0)]) ((fr_r _ w).up rfl) rfl
  rw [m_together, m_isIn_ok, b2_some]
  by_cases c3 : 0 ≤ x3 ∧ x3 ≤ 1
  · obtain ⟨w1, e1, h1, d1⟩ := M_goesPact (N := N) (x2 := x2) hN h0 hx
    rw [if_neg (fun z => b2i_and.mp z c3), e1, b2_some]
    cases ho : okp n lw x1 x2 with
    | false =>
      rw [if_pos (by rfl), if_pos (Or.inr (Or.inl rfl))]
      exact ⟨w1, rfl⟩
    | true =>
      cases h4 : pop4 x2 with
      | false =>
        rw [if_pos (by rfl), if_pos (Or.inr (Or.inr rfl))]
        exact ⟨w1, rfl⟩
      | true =>
        obtain ⟨hn, hq⟩ := d1 ho h4
        have h9 := (h.2.2.2.2.2 hn).1.2.2.2.2
        obtain ⟨g, r, eg, -⟩ := pbs_some (a := x2.toNat) (lw := lw) (it := it) (bb_bd x1 n) (by omega) h.2.1
        rw [eg] at hq
        obtain ⟨g1, g3⟩ : w1 49 36 = g ∧ w1 49 37 = (r : Int) := hq
        rw [if_neg (by decide), if_neg (c := _ ∨ _ ∨ _) (fun z => z.elim (fun z => z c3) (fun z => z.elim (fun z => by cases z) (fun z => by cases z))), g1, g3, eg]
        show ∃ w', _ = some ((if x3 = 0 then g else (r : Int)), w')
        by_cases z : x3 = 0
        · rw [if_pos z, if_pos z]; exact ⟨w1, rfl⟩
        · rw [if_neg z, if_neg z]; exact ⟨w1, rfl⟩
  · rw [if_pos (b2i_and.mpr c3), if_pos (c := _ ∨ _) (Or.inl c3)]
    exact ⟨_, rfl⟩
def a_treason (n : Nat) (lw it : Nat → Int) (x1 x2 : Int) : Int := if okp n lw x1 x2 = false ∨ pop4 x2 = false then -1000000 else match pbs x2.toNat n lw it (bb x1 n) with
  | none => 0
  | some (_, r) => (btr x2.toNat.testBit n lw it (bb (r : Int) n) n).1
theorem X_treason (hN : 10000000 ≤ N) (h : XL w n lw it) {x1 x2 : Int} (hx : aw_I x1) : ∃ w', x_treason N x1 x2 w = some (a_treason n lw it x1 x2, w') := by
  unfold a_treason
  obtain ⟨w1, e1, h1, d1⟩ := X_mayPact (N := N) (x2 := x2) (by omega) h hx
  rw [x_treason, e1, b2_some]
  cases ho : okp n lw x1 x2 with
  | false =>
    rw [if_pos (by rfl), if_pos (Or.inl rfl)]
    exact ⟨w1, rfl⟩
  | true =>
    cases h4 : pop4 x2 with
    | false =>
      rw [if_pos (by rfl), if_pos (Or.inr rfl)]
      exact ⟨w1, rfl⟩
    | true =>
      obtain ⟨hn, hb⟩ := d1 ho h4
      have h9 := (h.2.2.2.2.2 hn).1.2.2.2.2
      obtain ⟨a, rfl, ha, ha2, -⟩ := okp_a h.2.1 ho
      obtain ⟨w2, e2, h2, g2⟩ := X_best (N := N) hN h1 hn hb (bb_bd x1 n) ha
      obtain ⟨g, r, eg, hr, -⟩ := pbs_some (a := a) (lw := lw) (it := it) (bb_bd x1 n) (by omega) h.2.1
      obtain ⟨g1, g3⟩ := g2 g r eg
      obtain ⟨w3, e3, b3, f3⟩ := xp_put (N := N) (by omega) h2.1 h2.2.1 r (by omega)
      obtain ⟨w4, e4, h4', b4, s1, s2, s3⟩ := X_better (N := N) (b := bb (r : Int) n) (a := a) (by omega) (h2.fr f3 rfl) (fun k hk => b3 k hk) (bb_bd _ n) ha2
      rw [if_neg (by decide), if_neg (c := _ ∨ _) (fun z => z.elim (fun z => by cases z) (fun z => by cases z)), e2, b1_some, g3, e3, b2_some, e4, b1_some, s1, Int.toNat_natCast, eg]
      exact ⟨w4, rfl⟩
theorem mtr_l (hN : 20 ≤ N) (hbd : bd n b) {a : Nat} (ha : a < 64) : ∀ (f i : Nat) (w : aw_W), n - i < f → i ≤ n → ML w n lw it → (∀ k, k < n → w 64 k = b k) → ∃ w', m_treason_36 N f a (btr a.testBit n lw it b i).1 (btr a.testBit n lw it b i).2.2 i w = some ((btr a.testBit n lw it b n).1, w') := by
  intro f
  induction f with
  | zero => intro i w h; omega
  | succ f ih =>
    intro i w hf hin h hb
    have hn6 := h.2.1
    rw [m_treason_36, h.1]
    by_cases c : (n : Int) ≤ (i : Int)
    · have : i = n := by omega
      subst this
      rw [if_pos c]
      exact ⟨w, rfl⟩
    · have hin2 : i < n := by omega
      rw [if_neg c, m_has_ok ha (by omega), b2_some]
      cases hp : a.testBit i with
      | false =>
        have eb : btr a.testBit n lw it b (i + 1) = btr a.testBit n lw it b i := by rw [btr_s, if_neg (fun z => by rw [hp] at z; cases z.1)]
        rw [if_pos (by rfl), m_treason_85, ww1 (by omega)]
        have := ih (i + 1) w (by omega) (by omega) h hb
        rw [eb] at this
        exact this
      | true =>
        obtain ⟨w1, e1, h1, b1, g1, g2, f1⟩ := M_layBest (N := N) hN h hb hbd hin2
        have h0 := btr_0 a.testBit n lw it b i
        rw [if_neg (by decide), e1, b1_some, g2]
        by_cases cc : (btr a.testBit n lw it b i).2.2 < mo2 (gw n lw it b i) (gn n lw it b i) (lw 4).toNat
        · have cc2 := (mo_lt h0).mp cc
          obtain ⟨t1, t2⟩ := mo_eq h0 cc2
          have eb : btr a.testBit n lw it b (i + 1) = ((i : Int), bB n lw it b i, bG n lw it b i - gn n lw it b i) := by rw [btr_s, if_pos ⟨hp, cc2⟩]
          rw [if_pos cc, m_treason_85, ww1 (by omega), t1]
          have := ih (i + 1) w1 (by omega) (by omega) h1 b1
          rw [eb] at this
          exact this
        · have eb : btr a.testBit n lw it b (i + 1) = btr a.testBit n lw it b i := by rw [btr_s, if_neg (fun z => cc ((mo_lt h0).mpr z.2))]
          rw [if_neg cc, m_treason_85, ww1 (by omega)]
          have := ih (i + 1) w1 (by omega) (by omega) h1 b1
          rw [eb] at this
          exact this
theorem M_treason (hN : 20 ≤ N) (h : ML w n lw it) {x1 x2 : Int} (hx : aw_I x1) : ∃ w', m_treason N x1 x2 w = some (a_treason n lw it x1 x2, w') := by
  unfold a_treason
  have h0 : ML (aw_up w 49 0 0) n lw it := h.fr (S := [(49, 0)]) ((fr_r _ w).up rfl) rfl
  obtain ⟨w1, e1, h1, d1⟩ := M_goesPact (N := N) (x2 := x2) hN h0 hx
  rw [m_treason, e1, b2_some]
  cases ho : okp n lw x1 x2 with
  | false =>
    rw [if_pos (by rfl), if_pos (Or.inl rfl)]
    exact ⟨w1, rfl⟩
  | true =>
    cases h4 : pop4 x2 with
    | false =>
      rw [if_pos (by rfl), if_pos (Or.inr rfl)]
      exact ⟨w1, rfl⟩
    | true =>
      obtain ⟨hn, hq⟩ := d1 ho h4
      have h9 := (h.2.2.2.2.2 hn).1.2.2.2.2
      have hn6 := h.2.1
      obtain ⟨a, rfl, ha, ha2, hor⟩ := okp_a h.2.1 ho
      rw [Int.toNat_natCast] at hq
      obtain ⟨g, r, eg, hr, c, hc, erc, hcl⟩ := pbs_some (a := a) (lw := lw) (it := it) (bb_bd x1 n) (by omega) h.2.1
      rw [eg] at hq
      obtain ⟨g1, g3⟩ : w1 49 36 = g ∧ w1 49 37 = (r : Int) := hq
      -- the row may be laid
      have hdg : ∀ s, s < n → dg r n s = (c s).toNat := fun s hs => by
        rw [erc]
        exact dg_rv (fun k hk => (bdN hc k hk).2) s hs
      have ok : okr n lw (r : Int) = true := by
        unfold okr
        rw [Bool.and_eq_true, Bool.and_eq_true, decide_eq_true_eq, decide_eq_true_eq, Int.toNat_natCast, vr_iff]
        refine ⟨⟨hn, by omega⟩, Nat.div_eq_of_lt ?_, fun s hs => ?_⟩
        · rw [erc]
          exact rv_lt (fun k hk => (bdN hc k hk).2)
        · rw [hdg s hs]
          have h1 := hcl s hs
          have h2 := okr_le hor hs
          omega
      obtain ⟨w2, e2, h2, f2, d2⟩ := M_lay (N := N) (by omega) h1 hn (x := (r : Int)) (by unfold aw_I; omega)
      obtain ⟨w3, e3⟩ := mtr_l (N := N) hN (bb_bd (r : Int) n) ha2 N 0 w2 (by omega) (by omega) h2 (d2 ok)
      have e3' : m_treason_36 N N a (-1) 0 0 w2 = _ := e3
      rw [if_neg (by decide), if_neg (c := _ ∨ _) (fun z => z.elim (fun z => by cases z) (fun z => by cases z)), g3, e2, b2_some, e3', Int.toNat_natCast, eg]
      exact ⟨w3, rfl⟩
end PA
