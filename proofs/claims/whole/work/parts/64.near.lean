/-! ===== pure: near, changes ===== -/
/-- has s the prize by the bid o? -/
def hz (n : Nat) (lw b : Nat → Int) (s : Nat) (o : Nat) : Bool := decide (hd n lw (upb b s (o : Int)) = (s : Int))
def nd (a b : Nat) : Nat := (a - b) + (b - a)
def nr (p : Nat → Bool) (own : Nat) : Nat → Option Nat
  | 0 => none
  | k + 1 => match nr p own k with
    | none => if p k then some k else none
    | some r => if p k ∧ nd k own < nd r own then some k else some r
def oi : Option Nat → Int
  | none => -1
  | some r => (r : Int)
def nrC (p : Nat → Bool) (own m : Nat) : Option Nat → Prop
  | none => ∀ k, k < m → p k = false
  | some r => r < m ∧ p r = true ∧ ∀ k, k < m → p k = true → nd r own < nd k own ∨ (nd r own = nd k own ∧ r ≤ k)
theorem nr_s (p : Nat → Bool) (own k : Nat) : nr p own (k + 1) = match nr p own k with
    | none => if p k then some k else none
    | some r => if p k ∧ nd k own < nd r own then some k else some r := rfl
theorem nr_c (p : Nat → Bool) (own : Nat) : ∀ m, nrC p own m (nr p own m)
  | 0 => fun k hk => absurd hk (Nat.not_lt_zero k)
  | m + 1 => by
    have ih := nr_c p own m
    rw [nr_s]
    cases e : nr p own m with
    | none =>
      rw [e] at ih
      simp only
      by_cases c : p m = true
      · rw [if_pos c]
        refine ⟨by omega, c, fun k hk hp => ?_⟩
        by_cases ek : k = m
        · subst ek; right; exact ⟨rfl, Nat.le_refl _⟩
        · have := ih k (by omega)
          rw [hp] at this
          cases this
      · rw [if_neg c]
        intro k hk
        by_cases ek : k = m
        · subst ek; simpa using c
        · exact ih k (by omega)
    | some r =>
      rw [e] at ih
      obtain ⟨i1, i2, i3⟩ := ih
      simp only
      by_cases c : p m = true ∧ nd m own < nd r own
      · rw [if_pos c]
        refine ⟨by omega, c.1, fun k hk hp => ?_⟩
        by_cases ek : k = m
        · subst ek; right; exact ⟨rfl, Nat.le_refl _⟩
        · have := i3 k (by omega) hp
          left
          omega
      · rw [if_neg c]
        refine ⟨by omega, i2, fun k hk hp => ?_⟩
        by_cases ek : k = m
        · subst ek
          have : ¬ nd k own < nd r own := fun z => c ⟨hp, z⟩
          omega
        · exact i3 k (by omega) hp
theorem nr_u {p : Nat → Bool} {own m : Nat} {x y : Option Nat} (hx : nrC p own m x) (hy : nrC p own m y) : x = y := by
  cases x with
  | none =>
    cases y with
    | none => rfl
    | some r => have := hx r hy.1; rw [hy.2.1] at this; cases this
  | some q =>
    cases y with
    | none => have := hy q hx.1; rw [hx.2.1] at this; cases this
    | some r =>
      have h1 := hx.2.2 r hy.1 hy.2.1
      have h2 := hy.2.2 q hx.1 hx.2.1
      congr 1
      omega
section NE
variable {N : Nat} {w : aw_W} {n : Nat} {lw it b : Nat → Int}
theorem ww_a {a c : Nat} (h : a + c < 100) : aw_w ((a : Int) + (c : Int)) = ((a + c : Nat) : Int) := by rw [ww (by omega) (by omega)]; omega
theorem ab_nd {a c : Nat} (ha : a ≤ 9) (hc : c ≤ 9) : aw_ab (aw_w ((a : Int) - (c : Int))) = (nd a c : Int) := by
  rw [ww (by omega) (by omega)]
  unfold aw_ab nd
  split
  · omega
  · rw [ww (by omega) (by omega)]; omega
theorem xne_l (hN : 10 ≤ N) {s : Nat} (hs : s < n) (hbd : bd n b) {mo own : Nat} (hmo : lw 4 = mo) (how : b s = own) : ∀ (f o : Nat) (w : aw_W), mo + 1 - o < f → o ≤ mo + 1 → XL w n lw it → (∀ k, k < n → k ≠ s → w 21 k = b k) → ∃ w', x_Replies_nearest_15 N f s own (oi (nr (hz n lw b s) own o)) o w = some (oi (nr (hz n lw b s) own (mo + 1)), w') ∧ XL w' n lw it ∧ (∀ k, k < n → w' 21 k = b k) := by
  intro f
  induction f with
  | zero => intro o w h; omega
  | succ f ih =>
    intro o w hf hom h hb
    obtain ⟨q0, q1, q2, q3, q4, q5⟩ := id h
    have hn : n ≠ 0 := by omega
    have h9 := (q5 hn).1.2.2.2.2
    have hown := hbd s hs
    rw [x_Replies_nearest_15, q3 4 (by decide), hmo]
    by_cases c : (mo : Int) < (o : Int)
    · have eo : o = mo + 1 := by omega
      subst eo
      rw [if_pos c, x_Replies_nearest_93, if_pos ⟨by omega, by omega⟩, Int.toNat_natCast]
      refine ⟨_, rfl, h.fr (S := [(21, 1000000)]) ((fr_r _ w).upA rfl) rfl, fun k hk => ?_⟩
      by_cases e : k = s
      · subst e; simp [aw_up]; exact how.symm
      · simp [aw_up, e]; exact hb k hk e
    · rw [if_neg c]
      have h0 : XL (aw_up w 21 s (o : Int)) n lw it := h.fr (S := [(21, 1000000)]) ((fr_r _ w).upA rfl) rfl
      have hb0 : ∀ k, k < n → (aw_up w 21 s (o : Int)) 21 k = upb b s (o : Int) k := by
        intro k hk
        unfold upb
        by_cases e : k = s
        · subst e; simp [aw_up]
        · simp [aw_up, e]; exact hb k hk e
      have hbd2 := upb_bd (s := s) (o := (o : Int)) hbd (by omega)
      obtain ⟨w2, e2, h2, b2, s3, s4, s5, s6, ss, f2⟩ := X_settle (N := N) (by omega) h0 hn hb0
      have eg : x_Sale_gainWith N s o w = some (gw n lw it b s o, w2) := by
        rw [x_Sale_gainWith, if_pos ⟨by omega, by omega⟩, Int.toNat_natCast, e2, b1_some, X_gainOf h2 hn b2 hbd2 ss hs, b2_some]
        rfl
      have hb2 : ∀ k, k < n → k ≠ s → w2 21 k = b k := by
        intro k hk hne
        rw [b2 k hk]
        unfold upb
        rw [if_neg hne]
      rw [eg, b2_some, s3]
      have nx := ih (o + 1) w2 (by omega) (by omega) h2 hb2
      rw [nr_s] at nx
      have cm : (if hd n lw (upb b s (o : Int)) = (s : Int) then x_Replies_nearest_56 N (x_Replies_nearest_15 N f) s own (oi (nr (hz n lw b s) own o)) o 1 w2 else x_Replies_nearest_56 N (x_Replies_nearest_15 N f) s own (oi (nr (hz n lw b s) own o)) o 0 w2) = x_Replies_nearest_56 N (x_Replies_nearest_15 N f) s own (oi (nr (hz n lw b s) own o)) o (b2i (hz n lw b s o)) w2 := by
        unfold hz b2i
        by_cases z : hd n lw (upb b s (o : Int)) = (s : Int)
        · rw [if_pos z, if_pos (decide_eq_true z)]
        · rw [if_neg z, if_neg (by simpa using z)]
      rw [cm]
      cases hp : hz n lw b s o with
      | false =>
        rw [hp] at nx
        rw [x_Replies_nearest_56, if_pos (by rfl), x_Replies_nearest_87, ww1 (by omega)]
        cases er : nr (hz n lw b s) own o with
        | none => rw [er] at nx; exact nx
        | some r => rw [er] at nx; simpa using nx
      | true =>
        rw [hp] at nx
        rw [x_Replies_nearest_56, if_neg (by decide)]
        have cr := nr_c (hz n lw b s) own o
        cases er : nr (hz n lw b s) own o with
        | none =>
          rw [er] at nx
          rw [if_pos (by rfl), x_Replies_nearest_84, x_Replies_nearest_87, ww1 (by omega)]
          exact nx
        | some r =>
          rw [er] at nx cr
          have hr : r < o := cr.1
          rw [if_neg (by show ¬ (r : Int) = -1; omega)]
          show ∃ w', (if aw_ab (aw_w ((r : Int) - (own : Int))) ≤ aw_ab (aw_w ((o : Int) - (own : Int))) then _ else _) = _ ∧ _
          rw [ab_nd (by omega) (by omega), ab_nd (by omega) (by omega)]
          by_cases z : nd o own < nd r own
          · have z2 : ¬ ((nd r own : Nat) : Int) ≤ (nd o own : Int) := by omega
            rw [if_neg z2, x_Replies_nearest_84, x_Replies_nearest_87, ww1 (by omega)]
            simp only [true_and] at nx
            rw [if_pos z] at nx
            exact nx
          · have z2 : ((nd r own : Nat) : Int) ≤ (nd o own : Int) := by omega
            rw [if_pos z2, x_Replies_nearest_87, ww1 (by omega)]
            simp only [true_and] at nx
            rw [if_neg z] at nx
            exact nx
def nrs (n : Nat) (lw b : Nat → Int) (s : Nat) : Option Nat := nr (hz n lw b s) (b s).toNat ((lw 4).toNat + 1)
theorem X_nearest (hN : 20 ≤ N) (h : XL w n lw it) (hb : ∀ k, k < n → w 21 k = b k) (hbd : bd n b) {s : Nat} (hs : s < n) : ∃ w', x_Replies_nearest N s w = some (oi (nrs n lw b s), w') ∧ XL w' n lw it ∧ (∀ k, k < n → w' 21 k = b k) := by
  have hn6 := h.2.1
  have h9 := (h.2.2.2.2.2 (by omega)).1.2.2.2.2
  have hbs := hbd s hs
  obtain ⟨w', e, h', b'⟩ := xne_l (N := N) (mo := (lw 4).toNat) (own := (b s).toNat) (by omega) hs hbd (by omega) (by omega) N 0 w (by omega) (by omega) h (fun k hk _ => hb k hk)
  refine ⟨w', ?_, h', b'⟩
  rw [x_Replies_nearest, if_pos ⟨by omega, by omega⟩, Int.toNat_natCast, hb s hs]
  have es : b s = ((b s).toNat : Int) := by omega
  rw [es]
  exact e
def a_near (n : Nat) (lw : Nat → Int) (x1 x2 : Int) : Int := if x2 < 0 ∨ (n : Int) ≤ x2 ∨ okr n lw x1 = false then -1 else oi (nrs n lw (bb x1 n) x2.toNat)
theorem X_near (hN : 20 ≤ N) (h : XL w n lw it) {x1 x2 : Int} (hx : aw_I x1) : ∃ w', x_near N x1 x2 w = some (a_near n lw x1 x2, w') := by
  unfold a_near
  rw [x_near, xl_holds, b2_some, h.1]
  by_cases c : 0 ≤ x2 ∧ x2 < (n : Int)
  · rw [if_neg (by simp [b2i, c.1, c.2])]
    obtain ⟨w1, e1, h1, f1, d1⟩ := X_take (N := N) (by omega) h hx
    rw [e1, b2_some]
    cases ho : okr n lw x1 with
    | false =>
      rw [if_pos (by rfl), if_pos (Or.inr (Or.inr rfl))]
      exact ⟨w1, rfl⟩
    | true =>
      obtain ⟨hn, hb⟩ := d1 ho
      obtain ⟨s, rfl⟩ : ∃ s : Nat, x2 = s := ⟨x2.toNat, by omega⟩
      rw [if_neg (by decide), if_neg (by simp; omega), Int.toNat_natCast]
      obtain ⟨w2, e2, -⟩ := X_nearest (N := N) hN h1 hb (bb_bd x1 n) (show s < n by omega)
      rw [e2, b2_some]
      exact ⟨w2, rfl⟩
  · have : b2i (decide (0 ≤ x2) && decide (x2 < (n : Int))) = 0 := by
      unfold b2i
      rw [if_neg]
      simp
      omega
    rw [if_pos this, if_pos (by omega)]
    exact ⟨w, rfl⟩
theorem M_hasBy (hN : 10 ≤ N) (h : ML w n lw it) (hb : ∀ k, k < n → w 64 k = b k) {s : Nat} (hs : s < n) (o : Nat) : ∃ w', m_hasBy N s o w = some (b2i (hz n lw b s o), w') ∧ ML w' n lw it ∧ (∀ k, k < n → w' 64 k = b k) := by
  have hn6 := h.2.1
  have h0 : ML (aw_up w 64 s (o : Int)) n lw it := h.fr (S := [(64, 1000000)]) ((fr_r _ w).upA rfl) rfl
  obtain ⟨w2, e2, h2, b2, wn, fi, pa, f2⟩ := M_judge (N := N) hN h0 (by omega) (up64 hb)
  have h3 : ML (aw_up w2 64 s (w 64 s)) n lw it := h2.fr (S := [(64, 1000000)]) ((fr_r _ w2).upA rfl) rfl
  have hb3 : ∀ k, k < n → (aw_up w2 64 s (w 64 s)) 64 k = b k := by
    intro k hk
    by_cases e : k = s
    · subst e; simp [aw_up]; exact hb k hk
    · simp [aw_up, e]
      rw [b2 k hk]
      unfold upb
      rw [if_neg e]
  refine ⟨_, ?_, h3, hb3⟩
  rw [m_hasBy, if_pos ⟨by omega, by omega⟩, if_pos ⟨by omega, by omega⟩, Int.toNat_natCast, e2, b1_some, wn, b2_some]
  unfold hz b2i
  by_cases z : hd n lw (upb b s (o : Int)) = (s : Int)
  · rw [if_pos z, if_pos (decide_eq_true z), m_hasBy_31, if_pos ⟨by omega, by omega⟩, if_pos (Or.inr rfl), Int.toNat_natCast]
  · rw [if_neg z, if_neg (by simpa using z), m_hasBy_31, if_pos ⟨by omega, by omega⟩, if_pos (Or.inl rfl), Int.toNat_natCast]
theorem mne_l (hN : 10 ≤ N) {s : Nat} (hs : s < n) {mo own : Nat} (hmo : lw 4 = mo) (hmo9 : mo ≤ 9) (how : b s = own) (hom : own ≤ mo) : ∀ (f i : Nat) (w : aw_W), mo + 1 - i < f → i ≤ mo + 1 → ML w n lw it → (∀ k, k < n → w 64 k = b k) → (∀ k, k < mo + 1 → hz n lw b s k = true → i ≤ nd k own) → ∃ w', m_near_25 N f s i w = some (oi (nr (hz n lw b s) own (mo + 1)), w') := by
  intro f
  induction f with
  | zero => intro i w h; omega
  | succ f ih =>
    intro i w hf him h hb hno
    obtain ⟨q0, q1, q2, q3, q4, q5⟩ := id h
    have cr := nr_c (hz n lw b s) own (mo + 1)
    rw [m_near_25, q3 4 (by decide), hmo]
    by_cases c : (mo : Int) < (i : Int)
    · have hnone : nrC (hz n lw b s) own (mo + 1) none := by
        intro k hk
        cases e : hz n lw b s k with
        | false => rfl
        | true =>
          have := hno k hk e
          unfold nd at this
          omega
      rw [if_pos c, nr_u cr hnone]
      exact ⟨w, rfl⟩
    · rw [if_neg c, if_pos ⟨by omega, by omega⟩, Int.toNat_natCast, hb s hs, how]
      rw [ww (x := (own : Int) - (i : Int)) (by omega) (by omega)]
      -- the upper side
      have up : ∀ w1 : aw_W, ML w1 n lw it → (∀ k, k < n → w1 64 k = b k) → (i ≤ own → hz n lw b s (own - i) = false) → ∃ w', m_near_71 N (m_near_25 N f) s i w1 = some (oi (nr (hz n lw b s) own (mo + 1)), w') := by
        intro w1 h1 b1 lowno
        have nx : ∀ w2 : aw_W, ML w2 n lw it → (∀ k, k < n → w2 64 k = b k) → (own + i ≤ mo → hz n lw b s (own + i) = false) → ∃ w', m_near_113 N (m_near_25 N f) s i w2 = some (oi (nr (hz n lw b s) own (mo + 1)), w') := by
          intro w2 h2 b2 hino
          rw [m_near_113, ww1 (by omega)]
          refine ih (i + 1) w2 (by omega) (by omega) h2 b2 (fun k hk hp => ?_)
          have := hno k hk hp
          by_cases e : nd k own = i
          · exfalso
            by_cases kl : k ≤ own
            · have ek : k = own - i := by unfold nd at e; omega
              have := lowno (by unfold nd at e; omega)
              rw [← ek, hp] at this
              cases this
            · have ek : k = own + i := by unfold nd at e; omega
              have := hino (by omega)
              rw [← ek, hp] at this
              cases this
          · omega
        rw [m_near_71, if_pos ⟨by omega, by omega⟩, Int.toNat_natCast, b1 s hs, how, h1.2.2.2.1 4 (by decide), hmo]
        rw [ww_a (show own + i < 100 by omega)]
        by_cases c2 : (mo : Int) < ((own + i : Nat) : Int)
        · rw [if_pos c2]
          exact nx w1 h1 b1 (fun z => by omega)
        · rw [if_neg c2, if_pos ⟨by omega, by omega⟩]
          obtain ⟨w2, e2, h2, b2⟩ := M_hasBy (N := N) hN h1 b1 hs (own + i)
          rw [e2, b2_some]
          cases hp : hz n lw b s (own + i) with
          | false =>
            rw [if_pos (by rfl)]
            exact nx w2 h2 b2 (fun _ => hp)
          | true =>
            rw [if_neg (by decide), m_near_104, if_pos ⟨by omega, by omega⟩, Int.toNat_natCast, b2 s hs, how, ww_a (show own + i < 100 by omega)]
            have hc : nrC (hz n lw b s) own (mo + 1) (some (own + i)) := by
              refine ⟨by omega, hp, fun k hk hpk => ?_⟩
              have := hno k hk hpk
              by_cases e : nd k own = i
              · by_cases kl : k < own
                · have ek : k = own - i := by unfold nd at e; omega
                  have := lowno (by unfold nd at e; omega)
                  rw [← ek, hpk] at this
                  cases this
                · unfold nd at e ⊢; omega
              · left; unfold nd at this e ⊢; omega
            rw [nr_u cr hc]
            exact ⟨w2, rfl⟩
      by_cases c2 : (own : Int) - (i : Int) < 0
      · rw [if_pos c2]
        exact up w h hb (fun z => by omega)
      · have ed : (own : Int) - (i : Int) = ((own - i : Nat) : Int) := by omega
        rw [if_neg c2, if_pos ⟨by omega, by omega⟩, ed]
        obtain ⟨w2, e2, h2, b2⟩ := M_hasBy (N := N) hN h hb hs (own - i)
        rw [e2, b2_some]
        cases hp : hz n lw b s (own - i) with
        | false =>
          rw [if_pos (by rfl)]
          exact up w2 h2 b2 (fun _ => hp)
        | true =>
          rw [if_neg (by decide), m_near_62, if_pos ⟨by omega, by omega⟩, Int.toNat_natCast, b2 s hs, how, ww (x := (own : Int) - (i : Int)) (by omega) (by omega), ed]
          have hc : nrC (hz n lw b s) own (mo + 1) (some (own - i)) := by
            refine ⟨by omega, hp, fun k hk hpk => ?_⟩
            have := hno k hk hpk
            unfold nd at this ⊢
            omega
          rw [nr_u cr hc]
          exact ⟨w2, rfl⟩
theorem okr_le {x : Int} (h : okr n lw x = true) {s : Nat} (hs : s < n) : bb x n s ≤ ((lw 4).toNat : Int) := by
  unfold okr at h
  simp at h
  have := (vr_iff.mp h.2).2 s hs
  unfold bb
  omega
theorem M_near (hN : 20 ≤ N) (h : ML w n lw it) {x1 x2 : Int} (hx : aw_I x1) : ∃ w', m_near N x1 x2 w = some (a_near n lw x1 x2, w') := by
  unfold a_near
  have h0 : ML (aw_up w 49 0 0) n lw it := h.fr (S := [(49, 0)]) ((fr_r _ w).up rfl) rfl
  rw [m_near, m_isStriver_ok, b2_some, h0.1]
  by_cases c : 0 ≤ x2 ∧ x2 < (n : Int)
  · have hn : n ≠ 0 := by omega
    rw [if_neg (by simp [b2i, c.1, c.2])]
    obtain ⟨w1, e1, h1, f1, d1⟩ := M_lay (N := N) (by omega) h0 hn hx
    rw [e1, b2_some]
    cases ho : okr n lw x1 with
    | false =>
      rw [if_pos (by rfl), if_pos (Or.inr (Or.inr rfl))]
      exact ⟨w1, rfl⟩
    | true =>
      obtain ⟨s, rfl⟩ : ∃ s : Nat, x2 = s := ⟨x2.toNat, by omega⟩
      have h9 := (h.2.2.2.2.2 hn).1.2.2.2.2
      have hs : s < n := by omega
      have hbs := bb_bd x1 n s hs
      have hle := okr_le ho hs
      rw [if_neg (by decide), if_neg (by simp; omega), Int.toNat_natCast]
      exact mne_l (N := N) (mo := (lw 4).toNat) (own := (bb x1 n s).toNat) (by omega) hs (by omega) (by omega) (by omega) (by omega) N 0 w1 (by omega) (by omega) h1 (d1 ho) (fun k _ _ => Nat.zero_le _)
  · have : b2i (decide (0 ≤ x2) && decide (x2 < (n : Int))) = 0 := by
      unfold b2i
      rw [if_neg]
      simp
      omega
    rw [if_pos this, if_pos (by omega)]
    exact ⟨_, rfl⟩
/-! changes -/
def cp (n : Nat) (lw b : Nat → Int) (i : Nat) : Bool := !(decide (hd n lw b = (i : Int))) && (nrs n lw b i).isSome
def a_changes (n : Nat) (lw : Nat → Int) (x1 : Int) : Int := if okr n lw x1 = false then -1 else (ct (cp n lw (bb x1 n)) n : Int)
theorem xco_l (hN : 20 ≤ N) (hbd : bd n b) : ∀ (f i : Nat) (w : aw_W), n - i < f → i ≤ n → XL w n lw it → (∀ k, k < n → w 21 k = b k) → ∃ w', x_Replies_couldHave_19 N f (hd n lw b) (ct (cp n lw b) i) i w = some ((ct (cp n lw b) n : Int), w') := by
  intro f
  induction f with
  | zero => intro i w h; omega
  | succ f ih =>
    intro i w hf hin h hb
    have hn6 := h.2.1
    rw [x_Replies_couldHave_19, h.1]
    by_cases c : (n : Int) ≤ (i : Int)
    · have : i = n := by omega
      subst this
      rw [if_pos c]
      exact ⟨w, rfl⟩
    · have hin2 : i < n := by omega
      have hct := ct_le (cp n lw b) i
      rw [if_neg c]
      by_cases e : (i : Int) = hd n lw b
      · have ep : cp n lw b i = false := by unfold cp; rw [decide_eq_true e.symm]; rfl
        have nx := ih (i + 1) w (by omega) (by omega) h hb
        rw [ct_s, ep] at nx
        rw [if_pos e, x_Replies_couldHave_47, ww1 (by omega)]
        simpa using nx
      · obtain ⟨w1, e1, h1, b1⟩ := X_nearest (N := N) hN h hb hbd hin2
        have nx := ih (i + 1) w1 (by omega) (by omega) h1 b1
        rw [if_neg e, e1, b2_some]
        have e' : ¬ hd n lw b = (i : Int) := fun z => e z.symm
        cases er : nrs n lw b i with
        | none =>
          have ep : cp n lw b i = false := by unfold cp; rw [er]; simp
          rw [ct_s, ep] at nx
          rw [if_pos (by rfl), x_Replies_couldHave_47, ww1 (by omega)]
          simpa using nx
        | some r =>
          have ep : cp n lw b i = true := by unfold cp; rw [er, decide_eq_false e']; rfl
          rw [ct_s, ep, if_pos rfl] at nx
          rw [if_neg (by show ¬ (r : Int) = -1; omega), x_Replies_couldHave_47, ww1 (by omega), ww1 (by omega)]
          exact nx
theorem X_changes (hN : 20 ≤ N) (h : XL w n lw it) {x1 : Int} (hx : aw_I x1) : ∃ w', x_changes N x1 w = some (a_changes n lw x1, w') := by
  unfold a_changes
  rw [x_changes]
  obtain ⟨w1, e1, h1, f1, d1⟩ := X_take (N := N) (by omega) h hx
  rw [e1, b2_some]
  cases ho : okr n lw x1 with
  | false =>
    rw [if_pos (by rfl), if_pos rfl]
    exact ⟨w1, rfl⟩
  | true =>
    obtain ⟨hn, hb⟩ := d1 ho
    rw [if_neg (by decide), if_neg (by simp)]
    obtain ⟨w2, e2, h2, b2, s3, s4, s5, s6, ss, f2⟩ := X_settle (N := N) (by omega) h1 hn hb
    have hn6 := h.2.1
    obtain ⟨w3, e3⟩ := xco_l (N := N) hN (bb_bd x1 n) N 0 w2 (by omega) (by omega) h2 b2
    have e3' : x_Replies_couldHave_19 N N (hd n lw (bb x1 n)) 0 0 w2 = _ := e3
    rw [x_Replies_couldHave, e2, b1_some, s3, e3', b2_some]
    exact ⟨w3, rfl⟩
theorem nrs_some {s : Nat} : (nrs n lw b s).isSome = true ↔ ∃ k, k < (lw 4).toNat + 1 ∧ hz n lw b s k = true := by
  unfold nrs
  have cr := nr_c (hz n lw b s) (b s).toNat ((lw 4).toNat + 1)
  cases e : nr (hz n lw b s) (b s).toNat ((lw 4).toNat + 1) with
  | none =>
    rw [e] at cr
    refine ⟨fun z => by simp at z, fun ⟨k, hk, hp⟩ => ?_⟩
    have := cr k hk
    rw [hp] at this
    cases this
  | some r =>
    rw [e] at cr
    exact ⟨fun _ => ⟨r, cr.1, cr.2.1⟩, fun _ => rfl⟩
theorem mch_i (hN : 20 ≤ N) {s : Nat} (hs : s < n) {mo : Nat} (hmo : lw 4 = mo) (hmo9 : mo ≤ 9) (k26 : Int → Int → aw_W → Option (Int × aw_W)) (x2 : Int) : ∀ (f o : Nat) (w : aw_W) (q : Bool), mo + 1 - o < f → o ≤ mo + 1 → ML w n lw it → (∀ k, k < n → w 64 k = b k) → (q = true ↔ ∃ k, k < o ∧ hz n lw b s k = true) → ∃ w', m_changes_57 N k26 f x2 s (b2i q) o w = m_changes_96 N k26 x2 s (b2i ((nrs n lw b s).isSome)) w' ∧ ML w' n lw it ∧ (∀ k, k < n → w' 64 k = b k) := by
  intro f
  induction f with
  | zero => intro o w q h; omega
  | succ f ih =>
    intro o w q hf hom h hb hq
    rw [m_changes_57, h.2.2.2.1 4 (by decide), hmo]
    by_cases c : (mo : Int) < (o : Int)
    · have eo : o = mo + 1 := by omega
      have eq : q = (nrs n lw b s).isSome := by
        rw [Bool.eq_iff_iff, hq, nrs_some, eo, show (lw 4).toNat = mo by omega]
      rw [if_pos c, eq]
      exact ⟨w, rfl, h, hb⟩
    · rw [if_neg c]
      cases q with
      | true =>
        rw [if_neg (by decide), m_changes_83, m_changes_88, ww1 (by omega)]
        refine ih (o + 1) w true (by omega) (by omega) h hb ⟨fun _ => ?_, fun _ => rfl⟩
        obtain ⟨k, hk, hp⟩ := hq.mp rfl
        exact ⟨k, by omega, hp⟩
      | false =>
        obtain ⟨w2, e2, h2, b2⟩ := M_hasBy (N := N) (by omega) h hb hs o
        rw [if_pos (by rfl), e2, b2_some]
        cases hp : hz n lw b s o with
        | false =>
          rw [if_pos (by rfl), m_changes_88, ww1 (by omega)]
          refine ih (o + 1) w2 false (by omega) (by omega) h2 b2 ⟨fun z => (by cases z), fun ⟨k, hk, hpk⟩ => ?_⟩
          by_cases e : k = o
          · subst e; rw [hp] at hpk; cases hpk
          · exact hq.mpr ⟨k, by omega, hpk⟩
        | true =>
          rw [if_neg (by decide), m_changes_83, m_changes_88, ww1 (by omega)]
          exact ih (o + 1) w2 true (by omega) (by omega) h2 b2 ⟨fun _ => ⟨o, by omega, hp⟩, fun _ => rfl⟩
theorem hz_own {s o : Nat} (e : b s = o) : hz n lw b s o = decide (hd n lw b = (s : Int)) := by
  unfold hz
  rw [← e, upb_self]
theorem mch_l (hN : 20 ≤ N) (hbd : bd n b) : ∀ (f i : Nat) (w : aw_W), n - i < f → i ≤ n → ML w n lw it → (∀ k, k < n → w 64 k = b k) → ∃ w', m_changes_26 N f (ct (cp n lw b) i) i w = some ((ct (cp n lw b) n : Int), w') := by
  intro f
  induction f with
  | zero => intro i w h; omega
  | succ f ih =>
    intro i w hf hin h hb
    have hn6 := h.2.1
    rw [m_changes_26, h.1]
    by_cases c : (n : Int) ≤ (i : Int)
    · have : i = n := by omega
      subst this
      rw [if_pos c]
      exact ⟨w, rfl⟩
    · have hin2 : i < n := by omega
      have hct := ct_le (cp n lw b) i
      have h9 := (h.2.2.2.2.2 (by omega)).1.2.2.2.2
      have hbi := hbd i hin2
      obtain ⟨o, eo⟩ : ∃ o : Nat, b i = o := ⟨(b i).toNat, by omega⟩
      obtain ⟨w1, e1, h1, b1⟩ := M_hasBy (N := N) (by omega) h hb hin2 o
      rw [if_neg c, if_pos ⟨by omega, by omega⟩, Int.toNat_natCast, hb i hin2, eo, e1, b2_some, hz_own eo]
      by_cases e : hd n lw b = (i : Int)
      · have ep : cp n lw b i = false := by unfold cp; rw [decide_eq_true e]; rfl
        have nx := ih (i + 1) w1 (by omega) (by omega) h1 b1
        rw [ct_s, ep] at nx
        rw [decide_eq_true e, if_neg (by decide), m_changes_109, ww1 (by omega)]
        simpa using nx
      · have ep : cp n lw b i = (nrs n lw b i).isSome := by unfold cp; rw [decide_eq_false e]; rfl
        rw [decide_eq_false e, if_pos (by rfl)]
        obtain ⟨w2, e2, h2, b2⟩ := mch_i (N := N) (mo := (lw 4).toNat) hN hin2 (by omega) (by omega) (m_changes_26 N f) (ct (cp n lw b) i) N 0 w1 false (by omega) (by omega) h1 b1 ⟨fun z => (by cases z), fun ⟨k, hk, _⟩ => absurd hk (Nat.not_lt_zero k)⟩
        have e2' : m_changes_57 N (m_changes_26 N f) N (ct (cp n lw b) i) i 0 0 w1 = _ := e2
        have nx := ih (i + 1) w2 (by omega) (by omega) h2 b2
        rw [e2', m_changes_96, ← ep]
        rw [ct_s] at nx
        cases epp : cp n lw b i with
        | false =>
          rw [epp] at nx
          rw [if_pos (by rfl), m_changes_107, m_changes_109, ww1 (by omega), Int.add_zero, ww (by omega) (by omega)]
          simpa using nx
        | true =>
          rw [epp, if_pos rfl] at nx
          rw [if_neg (by decide), m_changes_107, m_changes_109, ww1 (by omega), ww1 (by omega)]
          exact nx
theorem M_changes (hN : 20 ≤ N) (h : ML w n lw it) {x1 : Int} (hx : aw_I x1) : ∃ w', m_changes N x1 w = some (a_changes n lw x1, w') := by
  unfold a_changes
  rw [m_changes, h.1]
  by_cases hn : n = 0
  · subst hn
    rw [if_pos (by rfl), if_pos (by unfold okr; simp)]
    exact ⟨_, rfl⟩
  · have h0 : ML (aw_up w 49 0 0) n lw it := h.fr (S := [(49, 0)]) ((fr_r _ w).up rfl) rfl
    obtain ⟨w1, e1, h1, f1, d1⟩ := M_lay (N := N) (by omega) h0 hn hx
    rw [if_neg (by omega), e1, b2_some]
    cases ho : okr n lw x1 with
    | false =>
      rw [if_pos (by rfl), if_pos rfl]
      exact ⟨w1, rfl⟩
    | true =>
      have hn6 := h.2.1
      rw [if_neg (by decide), if_neg (by simp)]
      exact mch_l (N := N) hN (bb_bd x1 n) N 0 w1 (by omega) (by omega) h1 (d1 ho)
end NE
