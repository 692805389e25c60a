/-! ===== pure: rounds in which all bid anew ===== -/
def tld (lw it : Nat → Int) (s : Nat) : Int := aw_mn (it (4 * s + 3)) (lw 4)
def an (n : Nat) (lw it b : Nat → Int) (s : Nat) : Int :=
  if it (4 * s + 2) = 1 then bB n lw it b s else if it (4 * s + 2) = 2 then b (if s = 0 then n - 1 else s - 1) else if it (4 * s + 2) = 3 then lw 4 else if it (4 * s + 2) = 4 then (if b s = 0 then lw 4 else b s - 1) else tld lw it s
def rnd (n : Nat) (lw it b : Nat → Int) : Nat → Int := fun s => if s < n then an n lw it b s else 0
/-- the row behind the row r -/
def fR (n : Nat) (lw it : Nat → Int) (r : Nat) : Nat := rb n (rnd n lw it (bq r n))
section RO
variable {N : Nat} {w : aw_W} {n : Nat} {lw it b : Nat → Int}
theorem w4 {s k : Nat} (hs : s < 6) (hk : k < 4) : aw_w (aw_w (4 * (s : Int)) + (k : Int)) = ((4 * s + k : Nat) : Int) := by
  rw [ww (x := 4 * (s : Int)) (by omega) (by omega), ww (by omega) (by omega)]
  omega
theorem tld_bd (hL : LB lw) (hI : IB it n) {s : Nat} (hs : s < n) : 0 ≤ tld lw it s ∧ tld lw it s ≤ 9 := by
  have h1 := (hI s hs).2.2.2
  have h2 := hL.2.2.2.2
  unfold tld aw_mn
  split <;> omega
theorem an_bd (hL : LB lw) (hI : IB it n) (hb : bd n b) {s : Nat} (hs : s < n) : 0 ≤ an n lw it b s ∧ an n lw it b s ≤ 9 := by
  have h2 := hL.2.2.2.2
  unfold an
  split
  · unfold bB
    have := bi_le (gw n lw it b s) (lw 4).toNat
    omega
  · split
    · exact hb _ (by split <;> omega)
    · split
      · exact h2
      · split
        · have := hb s hs
          split <;> omega
        · exact tld_bd hL hI hs
theorem rnd_bd (hL : LB lw) (hI : IB it n) (hb : bd n b) : bd n (rnd n lw it b) := by
  intro s hs
  unfold rnd
  rw [if_pos hs]
  exact an_bd hL hI hb hs
theorem rnd_bq (hL : LB lw) (hI : IB it n) (r : Nat) : rnd n lw it (bq r n) = bq (fR n lw it r) n := by
  unfold fR
  rw [bq_rb (rnd_bd hL hI (bq_bd r n))]
  intro j hj
  unfold rnd
  rw [if_neg (by omega)]
theorem fR_lt (hL : LB lw) (hI : IB it n) (r : Nat) : fR n lw it r < 10 ^ n := rv_lt (fun s hs => (bdN (rnd_bd hL hI (bq_bd r n)) s hs).2)
theorem X_told (h : XL w n lw it) {s : Nat} (hs : s < n) : x_Rounds_told N s w = some (tld lw it s, w) := by
  have e : x_Land_item N (s : Int) 3 w = some (w 4 (4 * s + 3), w) := xl_item (N := N) (k := 3) h.1 h.2.1 hs (by decide)
  rw [x_Rounds_told, e, b2_some, h.2.2.2.1 4 (by decide), h.2.2.2.2.1 _ (by omega)]
  rfl
theorem M_told (h : ML w n lw it) {s : Nat} (hs : s < n) : m_told N s 3 w = some (tld lw it s, w) := by
  have hn6 := h.2.1
  have e := w4 (s := s) (k := 3) (by omega) (by decide)
  have e' : aw_w (aw_w (4 * (s : Int)) + 3) = ((4 * s + 3 : Nat) : Int) := e
  rw [m_told, if_pos rfl, e', if_pos ⟨by omega, by omega⟩, Int.toNat_natCast, h.2.2.2.1 4 (by decide), h.2.2.2.2.1 _ (by omega)]
  rfl
theorem X_bidAnew (hN : 20 ≤ N) (h : XL w n lw it) (hb : ∀ k, k < n → w 21 k = b k) (hbd : bd n b) {s : Nat} (hs : s < n) : ∃ w', x_Rounds_bidAnew N s w = some (an n lw it b s, w') ∧ XL w' n lw it ∧ (∀ k, k < n → w' 21 k = b k) := by
  have hn6 := h.2.1
  have hL := (h.2.2.2.2.2 (by omega)).1
  have e : x_Land_item N (s : Int) 2 w = some (w 4 (4 * s + 2), w) := xl_item (N := N) (k := 2) h.1 h.2.1 hs (by decide)
  have hbs := hbd s hs
  unfold an
  rw [x_Rounds_bidAnew, e, b2_some, h.2.2.2.2.1 _ (by omega)]
  by_cases c1 : it (4 * s + 2) = 1
  · obtain ⟨w2, e2, h2, b2, g2, f2⟩ := X_bestBid (N := N) hN h hb hbd hs
    rw [if_pos c1, if_pos c1, e2, b2_some]
    exact ⟨w2, rfl, h2, b2⟩
  · rw [if_neg c1, if_neg c1]
    by_cases c2 : it (4 * s + 2) = 2
    · rw [if_pos c2, if_pos c2, h.1]
      by_cases c0 : s = 0
      · rw [if_pos (by omega), if_pos c0, ww (x := (n : Int) - 1) (by omega) (by omega), x_Rounds_bidAnew_83, if_pos ⟨by omega, by omega⟩]
        have e3 : ((n : Int) - 1).toNat = n - 1 := by omega
        rw [e3, hb (n - 1) (by omega)]
        exact ⟨w, rfl, h, hb⟩
      · rw [if_neg (by omega), if_neg c0, ww (x := (s : Int) - 1) (by omega) (by omega), x_Rounds_bidAnew_83, if_pos ⟨by omega, by omega⟩]
        have e3 : ((s : Int) - 1).toNat = s - 1 := by omega
        rw [e3, hb (s - 1) (by omega)]
        exact ⟨w, rfl, h, hb⟩
    · rw [if_neg c2, if_neg c2, h.2.2.2.1 4 (by decide)]
      by_cases c3 : it (4 * s + 2) = 3
      · rw [if_pos c3, if_pos c3]
        exact ⟨w, rfl, h, hb⟩
      · rw [if_neg c3, if_neg c3]
        by_cases c4 : it (4 * s + 2) = 4
        · rw [if_pos c4, if_pos c4, if_pos ⟨by omega, by omega⟩, Int.toNat_natCast, hb s hs]
          by_cases z : b s = 0
          · rw [if_pos z, if_pos z]
            exact ⟨w, rfl, h, hb⟩
          · rw [if_neg z, if_neg z, if_pos ⟨by omega, by omega⟩, ww (x := b s - 1) (by omega) (by omega)]
            exact ⟨w, rfl, h, hb⟩
        · rw [if_neg c4, if_neg c4, X_told h hs, b2_some]
          exact ⟨w, rfl, h, hb⟩
theorem xrb_l (hN : 20 ≤ N) (hbd : bd n b) : ∀ (f i : Nat) (w : aw_W), n - i < f → i ≤ n → XL w n lw it → (∀ k, k < n → w 21 k = b k) → (∀ k, k < i → w 40 k = an n lw it b k) → ∃ w', x_Rounds_rowBehind_11 N f i w = x_Rounds_rowBehind_39 N w' ∧ XL w' n lw it ∧ (∀ k, k < n → w' 40 k = an n lw it b k) := by
  intro f
  induction f with
  | zero => intro i w hf; omega
  | succ f ih =>
    intro i w hf hin h hb hv
    have hn6 := h.2.1
    rw [x_Rounds_rowBehind_11, h.1]
    by_cases c : (n : Int) ≤ (i : Int)
    · have : i = n := by omega
      subst this
      rw [if_pos c]
      exact ⟨w, rfl, h, hv⟩
    · obtain ⟨w1, e1, h1, b1⟩ := X_bidAnew (N := N) hN h hb hbd (show i < n by omega)
      have f1 := f_x_Rounds_bidAnew N _ _ _ _ e1
      rw [if_neg c, e1, b2_some, if_pos ⟨by omega, by omega⟩, ww1 (by omega), Int.toNat_natCast]
      refine ih (i + 1) _ (by omega) (by omega) (h1.fr (S := [(40, 1000000)]) ((fr_r _ w1).upA rfl) rfl) (fun k hk => by simp [aw_up]; exact b1 k hk) (fun k hk => ?_)
      by_cases e : k = i
      · subst e; simp [aw_up]
      · simp [aw_up, e]
        rw [f1 40 k rfl]
        exact hv k (by omega)
theorem X_rowBehind (hN : 20 ≤ N) (h : XL w n lw it) (hn : n ≠ 0) {r : Nat} (hr : r < 1000000) : ∃ w', x_Rounds_rowBehind N r w = some ((fR n lw it r : Int), w') ∧ XL w' n lw it ∧ fr_ S_x_Rounds_rowBehind w w' := by
  have hn6 := h.2.1
  obtain ⟨hL, hI⟩ := h.2.2.2.2.2 hn
  obtain ⟨w1, e1, b1, f1⟩ := xp_put (N := N) (by omega) h.1 h.2.1 r (by omega)
  have h1 := h.fr f1 rfl
  have b1' : ∀ k, k < n → w1 21 k = bq r n k := fun k hk => by rw [b1 k hk]; unfold bq; rw [if_pos hk]
  obtain ⟨w2, e2, h2, v2⟩ := xrb_l (N := N) hN (bq_bd r n) N 0 w1 (by omega) (Nat.zero_le _) h1 b1' (fun k hk => absurd hk (Nat.not_lt_zero k))
  have h3 : XL (aw_cpy (w2 40) w2 21 0 0 n) n lw it := h2.fr (S := [(21, 1000000)]) ((fr_r _ w2).cpy rfl) rfl
  have b3 : ∀ k, k < n → (aw_cpy (w2 40) w2 21 0 0 n) 21 k = rnd n lw it (bq r n) k := by
    intro k hk
    unfold aw_cpy rnd
    rw [if_pos ⟨rfl, by omega, by omega⟩, if_pos hk, show 0 + (k - 0) = k by omega]
    exact v2 k hk
  have e : x_Rounds_rowBehind N r w = some ((fR n lw it r : Int), aw_cpy (w2 40) w2 21 0 0 n) := by
    have e2' : x_Rounds_rowBehind_11 N N 0 w1 = x_Rounds_rowBehind_39 N w2 := e2
    have g : (0 : Int) ≤ 0 ∧ (0 : Int) ≤ 0 ∧ (0 : Int) ≤ (n : Int) ∧ ((0 + (n : Int) : Int)) ≤ 6 ∧ ((0 + (n : Int) : Int)) ≤ 6 := by omega
    rw [x_Rounds_rowBehind, e1, b2_some, e2', x_Rounds_rowBehind_39, h2.1, if_pos g, Int.toNat_natCast, X_row (by omega) h3 b3 (rnd_bd hL hI (bq_bd r n)), b2_some]
    rfl
  exact ⟨_, e, h3, f_x_Rounds_rowBehind N _ _ _ _ e⟩
/-! the reference's -/
theorem mgf_l (hN : 20 ≤ N) {s : Nat} (hs : s < n) (hbd : bd n b) {mo : Nat} (hmo : lw 4 = mo) : ∀ (f o : Nat) (w : aw_W) (best most : Int), mo + 1 - o < f → o ≤ mo + 1 → ML w n lw it → (∀ k, k < n → k ≠ s → w 64 k = b k) → (0 < o → best = bi (gw n lw it b s) (o - 1) ∧ most = bv (gw n lw it b s) (o - 1)) → ∃ w', m_greatestFor_15 N f s (b s) best most o w = some ((bi (gw n lw it b s) mo : Int), w') ∧ ML w' n lw it ∧ (∀ k, k < n → w' 64 k = b k) := by
  intro f
  induction f with
  | zero => intro o w best most h; omega
  | succ f ih =>
    intro o w best most hf hom h hb hinv
    obtain ⟨q0, q1, q2, q3, q4, q5⟩ := id h
    have hn : n ≠ 0 := by omega
    have h9 := (q5 hn).1.2.2.2.2
    rw [m_greatestFor_15, q3 4 (by decide), hmo]
    by_cases c : (mo : Int) < (o : Int)
    · have eo : o = mo + 1 := by omega
      subst eo
      obtain ⟨i1, i2⟩ := hinv (by omega)
      rw [Nat.add_sub_cancel] at i1
      rw [if_pos c, m_greatestFor_69, if_pos ⟨by omega, by omega⟩, i1, Int.toNat_natCast]
      refine ⟨_, rfl, h.fr (S := [(64, 1000000)]) ((fr_r _ w).upA rfl) rfl, fun k hk => ?_⟩
      by_cases e : k = s
      · subst e; simp [aw_up]
      · simp [aw_up, e]; exact hb k hk e
    · have h0 : ML (aw_up w 64 s (o : Int)) n lw it := h.fr (S := [(64, 1000000)]) ((fr_r _ w).upA rfl) rfl
      have hb0 : ∀ k, k < n → (aw_up w 64 s (o : Int)) 64 k = upb b s (o : Int) k := by
        intro k hk
        unfold upb
        by_cases e : k = s
        · subst e; simp [aw_up]
        · simp [aw_up, e]; exact hb k hk e
      obtain ⟨w2, e2, h2, b2, f2⟩ := M_gainOf (N := N) (by omega) h0 hn hb0 (upb_bd (s := s) (o := (o : Int)) hbd (by omega)) hs
      have e2' : m_gainOf N s (aw_up w 64 s (o : Int)) = some (gw n lw it b s o, w2) := e2
      rw [if_neg c, if_pos ⟨by omega, by omega⟩, Int.toNat_natCast, e2', b2_some]
      have hb2 : ∀ k, k < n → k ≠ s → w2 64 k = b k := by
        intro k hk hne
        rw [b2 k hk]
        unfold upb
        rw [if_neg hne]
      have take : (o = 0 ∨ bv (gw n lw it b s) (o - 1) < gw n lw it b s o) → ∃ w', m_greatestFor_56 N (m_greatestFor_15 N f) s (b s) o (gw n lw it b s o) w2 = some ((bi (gw n lw it b s) mo : Int), w') ∧ ML w' n lw it ∧ (∀ k, k < n → w' 64 k = b k) := by
        intro hc
        rw [m_greatestFor_56, m_greatestFor_63, ww1 (by omega)]
        refine ih (o + 1) _ _ _ (by omega) (by omega) h2 hb2 (fun _ => ?_)
        rw [Nat.add_sub_cancel]
        cases o with
        | zero => exact ⟨rfl, rfl⟩
        | succ o =>
          have hc2 := hc.resolve_left (by omega)
          rw [Nat.add_sub_cancel] at hc2
          exact ⟨by rw [bi_s, if_pos hc2], by rw [bv_s, if_pos hc2]⟩
      by_cases c0 : o = 0
      · rw [if_pos (by omega)]
        exact take (Or.inl c0)
      · obtain ⟨i1, i2⟩ := hinv (by omega)
        rw [if_neg (by omega), i2]
        by_cases c1 : bv (gw n lw it b s) (o - 1) < gw n lw it b s o
        · rw [if_pos c1]
          exact take (Or.inr c1)
        · rw [if_neg c1, m_greatestFor_63, ww1 (by omega)]
          refine ih (o + 1) _ _ _ (by omega) (by omega) h2 hb2 (fun _ => ?_)
          rw [Nat.add_sub_cancel]
          obtain ⟨q, rfl⟩ : ∃ q, o = q + 1 := ⟨o - 1, by omega⟩
          rw [Nat.add_sub_cancel] at i1 c1 ⊢
          exact ⟨by rw [bi_s, if_neg c1]; exact i1, by rw [bv_s, if_neg c1]⟩
theorem M_greatestFor (hN : 20 ≤ N) (h : ML w n lw it) (hb : ∀ k, k < n → w 64 k = b k) (hbd : bd n b) {s : Nat} (hs : s < n) : ∃ w', m_greatestFor N s w = some (bB n lw it b s, w') ∧ ML w' n lw it ∧ (∀ k, k < n → w' 64 k = b k) ∧ fr_ S_m_greatestFor w w' := by
  have hn6 := h.2.1
  have h9 := (h.2.2.2.2.2 (by omega)).1.2.2.2.2
  obtain ⟨w', e, h', b'⟩ := mgf_l (N := N) (mo := (lw 4).toNat) hN hs hbd (by omega) N 0 w 0 0 (by omega) (by omega) h (fun k hk _ => hb k hk) (fun q => absurd q (Nat.lt_irrefl 0))
  have e' : m_greatestFor N s w = some (bB n lw it b s, w') := by
    rw [m_greatestFor, if_pos ⟨by omega, by omega⟩, Int.toNat_natCast, hb s hs]
    exact e
  exact ⟨w', e', h', b', f_m_greatestFor N _ _ _ _ e'⟩
theorem mro_b : ∀ (f i : Nat) (w : aw_W), n - i < f → i ≤ n → ML w n lw it → (∀ k, k < n → w 68 k = b k) → (∀ k, k < i → w 64 k = b k) → ∃ w', m_round_166 N f i w = some w' ∧ ML w' n lw it ∧ (∀ k, k < n → w' 64 k = b k) := by
  intro f
  induction f with
  | zero => intro i w hf; omega
  | succ f ih =>
    intro i w hf hin h h8 hb
    have hn6 := h.2.1
    rw [m_round_166, h.1]
    by_cases c : (n : Int) ≤ (i : Int)
    · have : i = n := by omega
      subst this
      rw [if_pos c]
      exact ⟨w, rfl, h, hb⟩
    · rw [if_neg c, if_pos ⟨by omega, by omega⟩, if_pos ⟨by omega, by omega⟩, ww1 (by omega), Int.toNat_natCast]
      refine ih (i + 1) _ (by omega) (by omega) (h.fr (S := [(64, 1000000)]) ((fr_r _ w).upA rfl) rfl) (fun k hk => by simp [aw_up]; exact h8 k hk) (fun k hk => ?_)
      by_cases e : k = i
      · subst e; simp [aw_up]; exact h8 k (by omega)
      · simp [aw_up, e]; exact hb k (by omega)
theorem mro_l (hN : 20 ≤ N) (hbd : bd n b) : ∀ (f i : Nat) (w : aw_W), n - i < f → i ≤ n → ML w n lw it → (∀ k, k < n → w 64 k = b k) → (∀ k, k < i → w 68 k = an n lw it b k) → ∃ w', m_round_2 N f i w = m_round_164 N w' ∧ ML w' n lw it ∧ (∀ k, k < n → w' 68 k = an n lw it b k) := by
  intro f
  induction f with
  | zero => intro i w hf; omega
  | succ f ih =>
    intro i w hf hin h hb hv
    have hn6 := h.2.1
    rw [m_round_2, h.1]
    by_cases c : (n : Int) ≤ (i : Int)
    · have : i = n := by omega
      subst this
      rw [if_pos c]
      exact ⟨w, rfl, h, hv⟩
    · have hin2 : i < n := by omega
      have hI := (h.2.2.2.2.2 (by omega)).2 i hin2
      have hL := (h.2.2.2.2.2 (by omega)).1
      have hbi := hbd i hin2
      have e := w4 (s := i) (k := 2) (by omega) (by decide)
      have e' : aw_w (aw_w (4 * (i : Int)) + 2) = ((4 * i + 2 : Nat) : Int) := e
      have nxt : ∀ (w1 : aw_W), ML w1 n lw it → (∀ k, k < n → w1 64 k = b k) → (∀ k, k < i → w1 68 k = an n lw it b k) → ∃ w', m_round_158 N (m_round_2 N f) i (aw_up w1 68 i (an n lw it b i)) = m_round_164 N w' ∧ ML w' n lw it ∧ (∀ k, k < n → w' 68 k = an n lw it b k) := by
        intro w1 h1 b1 v1
        rw [m_round_158, ww1 (by omega)]
        refine ih (i + 1) _ (by omega) (by omega) (h1.fr (S := [(68, 1000000)]) ((fr_r _ w1).upA rfl) rfl) (fun k hk => by simp [aw_up]; exact b1 k hk) (fun k hk => ?_)
        by_cases ek : k = i
        · subst ek; simp [aw_up]
        · simp [aw_up, ek]; exact v1 k (by omega)
      have ea : an n lw it b i = if it (4 * i + 2) = 1 then bB n lw it b i else if it (4 * i + 2) = 2 then b (if i = 0 then n - 1 else i - 1) else if it (4 * i + 2) = 3 then lw 4 else if it (4 * i + 2) = 4 then (if b i = 0 then lw 4 else b i - 1) else tld lw it i := rfl
      rw [if_neg c, e', if_pos ⟨by omega, by omega⟩, Int.toNat_natCast, h.2.2.2.2.1 _ (by omega), h.2.2.2.1 4 (by decide)]
      by_cases c0 : it (4 * i + 2) = 0
      · rw [if_neg (by omega), if_neg (by omega), if_neg (by omega), if_neg (by omega)] at ea
        rw [if_pos c0, M_told h hin2, b2_some, if_pos ⟨by omega, by omega⟩, Int.toNat_natCast, ← ea]
        exact nxt w h hb hv
      · rw [if_neg c0]
        by_cases c1 : it (4 * i + 2) = 1
        · rw [if_pos c1] at ea
          obtain ⟨w2, e2, h2, b2, f2⟩ := M_greatestFor (N := N) hN h hb hbd hin2
          rw [if_pos c1, e2, b2_some, if_pos ⟨by omega, by omega⟩, Int.toNat_natCast, ← ea]
          exact nxt w2 h2 b2 (fun k hk => by rw [f2 68 k rfl]; exact hv k hk)
        · rw [if_neg c1] at ea
          rw [if_neg c1]
          by_cases c2 : it (4 * i + 2) = 2
          · rw [if_pos c2] at ea
            rw [if_pos c2]
            by_cases z : i = 0
            · rw [if_pos z] at ea
              have e3 : ((n : Int) - 1).toNat = n - 1 := by omega
              rw [if_pos (by omega), ww (x := (n : Int) - 1) (by omega) (by omega), m_round_106, if_pos ⟨by omega, by omega⟩, if_pos ⟨by omega, by omega⟩, e3, Int.toNat_natCast, hb (n - 1) (by omega), ← ea]
              exact nxt w h hb hv
            · rw [if_neg z] at ea
              have e3 : ((i : Int) - 1).toNat = i - 1 := by omega
              rw [if_neg (by omega), ww (x := (i : Int) - 1) (by omega) (by omega), m_round_106, if_pos ⟨by omega, by omega⟩, if_pos ⟨by omega, by omega⟩, e3, Int.toNat_natCast, hb (i - 1) (by omega), ← ea]
              exact nxt w h hb hv
          · rw [if_neg c2] at ea
            rw [if_neg c2]
            by_cases c3 : it (4 * i + 2) = 3
            · rw [if_pos c3] at ea
              rw [if_pos c3, if_pos ⟨by omega, by omega⟩, Int.toNat_natCast, ← ea]
              exact nxt w h hb hv
            · rw [if_neg c3, if_pos (by omega)] at ea
              rw [if_neg c3, if_pos ⟨by omega, by omega⟩, Int.toNat_natCast, hb i hin2]
              by_cases z : b i = 0
              · rw [if_pos z] at ea
                rw [if_pos z, m_round_157, if_pos ⟨by omega, by omega⟩, Int.toNat_natCast, ← ea]
                exact nxt w h hb hv
              · rw [if_neg z] at ea
                rw [if_neg z, if_pos ⟨by omega, by omega⟩, m_round_157, if_pos ⟨by omega, by omega⟩, Int.toNat_natCast, ww (x := b i - 1) (by omega) (by omega), ← ea]
                exact nxt w h hb hv
theorem M_round (hN : 20 ≤ N) (h : ML w n lw it) (hn : n ≠ 0) {r : Nat} (hb : ∀ k, k < n → w 64 k = bq r n k) : ∃ w', m_round N w = some w' ∧ ML w' n lw it ∧ (∀ k, k < n → w' 64 k = bq (fR n lw it r) n k) := by
  have hn6 := h.2.1
  obtain ⟨hL, hI⟩ := h.2.2.2.2.2 hn
  obtain ⟨w1, e1, h1, v1⟩ := mro_l (N := N) hN (bq_bd r n) N 0 w (by omega) (Nat.zero_le _) h hb (fun k hk => absurd hk (Nat.not_lt_zero k))
  obtain ⟨w2, e2, h2, b2⟩ := mro_b (N := N) (b := bq (fR n lw it r) n) N 0 w1 (by omega) (Nat.zero_le _) h1 (fun k hk => by
    rw [v1 k hk, ← rnd_bq hL hI]
    unfold rnd
    rw [if_pos hk]) (fun k hk => absurd hk (Nat.not_lt_zero k))
  refine ⟨w2, ?_, h2, b2⟩
  have e1' : m_round N w = m_round_164 N w1 := e1
  rw [e1', m_round_164]
  exact e2
/-! from the bids told till all is still -/
def gl (F : Nat → Nat) : Nat → Nat → Nat → Int × Nat
  | 0, x, row => (if F row = row then (x : Int) else -1, row)
  | k + 1, x, row => if F row = row then ((x : Int), row) else gl F k (x + 1) (F row)
theorem gl_0 (F : Nat → Nat) (x row : Nat) : gl F 0 x row = (if F row = row then (x : Int) else -1, row) := rfl
theorem gl_s (F : Nat → Nat) (k x row : Nat) : gl F (k + 1) x row = if F row = row then ((x : Int), row) else gl F k (x + 1) (F row) := rfl
theorem gl_lt {F : Nat → Nat} {B : Nat} (hF : ∀ r, F r < B) : ∀ k x row, row < B → (gl F k x row).2 < B
  | 0, x, row, h => h
  | k + 1, x, row, h => by
    rw [gl_s]
    split
    · exact h
    · exact gl_lt hF k (x + 1) _ (hF row)
def r0 (n : Nat) (lw it : Nat → Int) : Nat := rb n (fun s => if s < n then tld lw it s else 0)
theorem r0_bd (hL : LB lw) (hI : IB it n) : bd n (fun s => if s < n then tld lw it s else 0) := by
  intro s hs
  show 0 ≤ (if s < n then tld lw it s else 0) ∧ (if s < n then tld lw it s else 0) ≤ 9
  rw [if_pos hs]
  exact tld_bd hL hI hs
theorem r0_lt (hL : LB lw) (hI : IB it n) : r0 n lw it < 10 ^ n := rv_lt (fun s hs => (bdN (r0_bd hL hI) s hs).2)
theorem r0_bq (hL : LB lw) (hI : IB it n) : bq (r0 n lw it) n = fun s => if s < n then tld lw it s else 0 := by
  unfold r0
  exact bq_rb (r0_bd hL hI) (fun j hj => if_neg (by omega))
theorem xgo_l (hN : 1000 ≤ N) (hn : n ≠ 0) : ∀ (k f x : Nat) (w : aw_W) (row : Nat), k + 1 < f → x + k = 100 → row < 10 ^ n → XL w n lw it → w 39 3 = -1 → w 39 4 = (row : Int) → ∃ w', x_Rounds_go_51 N f x w = some w' ∧ XL w' n lw it ∧ w' 39 3 = (gl (fR n lw it) k x row).1 ∧ w' 39 4 = ((gl (fR n lw it) k x row).2 : Int) := by
  intro k
  induction k with
  | zero =>
    intro f x w row hf hx hrow h i1 i2
    obtain ⟨f, rfl⟩ : ∃ g, f = g + 1 := ⟨f - 1, by omega⟩
    obtain ⟨f, rfl⟩ : ∃ g, f = g + 1 := ⟨f - 1, by omega⟩
    have hp := p10_6 h.2.1
    obtain ⟨w1, e1, h1, f1⟩ := X_rowBehind (N := N) (by omega) h hn (r := row) (by omega)
    have r : ∀ k, w1 39 k = w 39 k := fun k => f1 39 k rfl
    rw [x_Rounds_go_51, if_neg (by omega), i1, if_pos rfl, i2, e1, b2_some, r 4, i2, gl_0]
    by_cases c : fR n lw it row = row
    · rw [if_pos (by omega), if_pos c, x_Rounds_go_101, ww1 (by omega), x_Rounds_go_51, if_pos (by omega)]
      exact ⟨_, rfl, h1.fr (S := [(39, 3)]) ((fr_r _ w1).up rfl) rfl, by simp [aw_up], by simp [aw_up]; rw [r]; exact i2⟩
    · rw [if_neg (by omega), if_neg c, if_pos (by omega), x_Rounds_go_101, ww1 (by omega), x_Rounds_go_51, if_pos (by omega)]
      exact ⟨_, rfl, h1, by rw [r]; exact i1, by rw [r]; exact i2⟩
  | succ k ih =>
    intro f x w row hf hx hrow h i1 i2
    obtain ⟨f, rfl⟩ : ∃ g, f = g + 1 := ⟨f - 1, by omega⟩
    have hp := p10_6 h.2.1
    obtain ⟨hL, hI⟩ := h.2.2.2.2.2 hn
    obtain ⟨w1, e1, h1, f1⟩ := X_rowBehind (N := N) (by omega) h hn (r := row) (by omega)
    have r : ∀ k, w1 39 k = w 39 k := fun k => f1 39 k rfl
    rw [x_Rounds_go_51, if_neg (by omega), i1, if_pos rfl, i2, e1, b2_some, r 4, i2, gl_s]
    by_cases c : fR n lw it row = row
    · obtain ⟨f, rfl⟩ : ∃ g, f = g + 1 := ⟨f - 1, by omega⟩
      have hx3 : (aw_up w1 39 3 (x : Int)) 39 3 = (x : Int) := by simp [aw_up]
      rw [if_pos (by omega), if_pos c, x_Rounds_go_101, ww1 (by omega), x_Rounds_go_51, if_neg (by omega), hx3, if_neg (by omega)]
      exact ⟨_, rfl, h1.fr (S := [(39, 3)]) ((fr_r _ w1).up rfl) rfl, by simp [aw_up], by simp [aw_up]; rw [r]; exact i2⟩
    · rw [if_neg (by omega), if_neg c, if_neg (by omega), x_Rounds_go_101, ww1 (by omega)]
      exact ih f (x + 1) _ _ (by omega) (by omega) (fR_lt hL hI row) (h1.fr (S := [(39, 4)]) ((fr_r _ w1).up rfl) rfl) (by simp [aw_up]; rw [r]; exact i1) (by simp [aw_up])
theorem xgt_l : ∀ (f i : Nat) (w : aw_W), n - i < f → i ≤ n → XL w n lw it → (∀ k, k < i → w 21 k = tld lw it k) → ∃ w', x_Rounds_go_2 N f i w = x_Rounds_go_33 N w' ∧ XL w' n lw it ∧ (∀ k, k < n → w' 21 k = tld lw it k) := by
  intro f
  induction f with
  | zero => intro i w hf; omega
  | succ f ih =>
    intro i w hf hin h hv
    have hn6 := h.2.1
    rw [x_Rounds_go_2, h.1]
    by_cases c : (n : Int) ≤ (i : Int)
    · have : i = n := by omega
      subst this
      rw [if_pos c]
      exact ⟨w, rfl, h, hv⟩
    · rw [if_neg c, X_told h (show i < n by omega), b2_some, if_pos ⟨by omega, by omega⟩, ww1 (by omega), Int.toNat_natCast]
      refine ih (i + 1) _ (by omega) (by omega) (h.fr (S := [(21, 1000000)]) ((fr_r _ w).upA rfl) rfl) (fun k hk => ?_)
      by_cases e : k = i
      · subst e; simp [aw_up]
      · simp [aw_up, e]; exact hv k (by omega)
theorem X_go (hN : 1000 ≤ N) (h : XL w n lw it) (hn : n ≠ 0) : ∃ w', x_Rounds_go N w = some w' ∧ XL w' n lw it ∧ w' 39 3 = (gl (fR n lw it) 100 0 (r0 n lw it)).1 ∧ w' 39 4 = ((gl (fR n lw it) 100 0 (r0 n lw it)).2 : Int) := by
  have hn6 := h.2.1
  obtain ⟨hL, hI⟩ := h.2.2.2.2.2 hn
  obtain ⟨w1, e1, h1, v1⟩ := xgt_l (N := N) N 0 w (by omega) (Nat.zero_le _) h (fun k hk => absurd hk (Nat.not_lt_zero k))
  have e1' : x_Rounds_go N w = x_Rounds_go_33 N w1 := e1
  have er := X_row (N := N) (b := fun s => if s < n then tld lw it s else 0) (by omega) h1 (fun k hk => by rw [v1 k hk, if_pos hk]) (r0_bd hL hI)
  have er' : x_Sale_row N w1 = some ((r0 n lw it : Int), w1) := er
  rw [e1', x_Rounds_go_33, er', b2_some]
  exact xgo_l (N := N) hN hn 100 N 0 _ _ (by omega) (by omega) (r0_lt hL hI) (h1.fr (S := [(39, 3), (39, 4)]) (((fr_r _ w1).up rfl).up rfl) rfl) (by simp [aw_up]) (by simp [aw_up])
theorem mgo_l (hN : 1000 ≤ N) (hn : n ≠ 0) {x1 : Int} : ∀ (k f x : Nat) (w : aw_W) (row : Nat) (x3 : Int), k + 1 < f → x + k = 100 → row < 10 ^ n → ML w n lw it → (∀ k, k < n → w 64 k = bq row n k) → ∃ w', m_rounds_66 N f x1 (-1) x3 x w = m_rounds_104 N x1 (gl (fR n lw it) k x row).1 ((gl (fR n lw it) k x row).2 : Int) w' ∧ ML w' n lw it := by
  intro k
  induction k with
  | zero =>
    intro f x w row x3 hf hx hrow h hb
    obtain ⟨f, rfl⟩ : ∃ g, f = g + 1 := ⟨f - 1, by omega⟩
    obtain ⟨f, rfl⟩ : ∃ g, f = g + 1 := ⟨f - 1, by omega⟩
    obtain ⟨hL, hI⟩ := h.2.2.2.2.2 hn
    have e0 := M_row (N := N) (by omega) h hb (bq_bd row n)
    rw [rb_bq hrow] at e0
    obtain ⟨w1, e1, h1, b1⟩ := M_round (N := N) (by omega) h hn hb
    have e2 := M_row (N := N) (by omega) h1 b1 (bq_bd _ n)
    rw [rb_bq (fR_lt hL hI row)] at e2
    rw [m_rounds_66, if_neg (by omega), if_pos rfl, e0, b2_some, e1, b1_some, e2, b2_some, gl_0]
    by_cases c : fR n lw it row = row
    · rw [if_pos (by omega), if_pos c, m_rounds_98, ww1 (by omega), m_rounds_66, if_pos (by omega)]
      exact ⟨w1, rfl, h1⟩
    · rw [if_neg (by omega), if_neg c, m_rounds_98, ww1 (by omega), m_rounds_66, if_pos (by omega)]
      exact ⟨w1, rfl, h1⟩
  | succ k ih =>
    intro f x w row x3 hf hx hrow h hb
    obtain ⟨f, rfl⟩ : ∃ g, f = g + 1 := ⟨f - 1, by omega⟩
    obtain ⟨hL, hI⟩ := h.2.2.2.2.2 hn
    have e0 := M_row (N := N) (by omega) h hb (bq_bd row n)
    rw [rb_bq hrow] at e0
    obtain ⟨w1, e1, h1, b1⟩ := M_round (N := N) (by omega) h hn hb
    have e2 := M_row (N := N) (by omega) h1 b1 (bq_bd _ n)
    rw [rb_bq (fR_lt hL hI row)] at e2
    rw [m_rounds_66, if_neg (by omega), if_pos rfl, e0, b2_some, e1, b1_some, e2, b2_some, gl_s]
    by_cases c : fR n lw it row = row
    · obtain ⟨f, rfl⟩ : ∃ g, f = g + 1 := ⟨f - 1, by omega⟩
      rw [if_pos (by omega), if_pos c, m_rounds_98, ww1 (by omega), m_rounds_66, if_neg (by omega), if_neg (by omega)]
      exact ⟨w1, rfl, h1⟩
    · rw [if_neg (by omega), if_neg c, m_rounds_98, ww1 (by omega)]
      exact ih f (x + 1) w1 _ _ (by omega) (by omega) (fR_lt hL hI row) h1 b1
theorem mgt_l {x1 : Int} : ∀ (f i : Nat) (w : aw_W), n - i < f → i ≤ n → ML w n lw it → (∀ k, k < i → w 64 k = tld lw it k) → ∃ w', m_rounds_30 N f x1 i w = m_rounds_56 N x1 w' ∧ ML w' n lw it ∧ (∀ k, k < n → w' 64 k = tld lw it k) := by
  intro f
  induction f with
  | zero => intro i w hf; omega
  | succ f ih =>
    intro i w hf hin h hv
    have hn6 := h.2.1
    rw [m_rounds_30, h.1]
    by_cases c : (n : Int) ≤ (i : Int)
    · have : i = n := by omega
      subst this
      rw [if_pos c]
      exact ⟨w, rfl, h, hv⟩
    · rw [if_neg c, M_told h (show i < n by omega), b2_some, if_pos ⟨by omega, by omega⟩, ww1 (by omega), Int.toNat_natCast]
      refine ih (i + 1) _ (by omega) (by omega) (h.fr (S := [(64, 1000000)]) ((fr_r _ w).upA rfl) rfl) (fun k hk => ?_)
      by_cases e : k = i
      · subst e; simp [aw_up]
      · simp [aw_up, e]; exact hv k (by omega)
end RO
/-! the ring -/
def br (F : Nat → Nat) : Nat → Nat → Nat → Nat → Nat → Option Nat
  | 0, _, _, _, _ => none
  | f + 1, now, mark, gap, since => if F now = mark then some (since + 1) else if since + 1 = gap then br F f (F now) (F now) (gap * 2) 0 else br F f (F now) mark gap (since + 1)
theorem br_s (F : Nat → Nat) (f now mark gap since : Nat) : br F (f + 1) now mark gap since = if F now = mark then some (since + 1) else if since + 1 = gap then br F f (F now) (F now) (gap * 2) 0 else br F f (F now) mark gap (since + 1) := rfl
theorem br_mono {F : Nat → Nat} {a : Nat} : ∀ {f g now mark gap since : Nat}, br F f now mark gap since = some a → f ≤ g → br F g now mark gap since = some a
  | 0, g, now, mark, gap, since, h, _ => by cases h
  | f + 1, g, now, mark, gap, since, h, hg => by
    obtain ⟨g, rfl⟩ : ∃ k, g = k + 1 := ⟨g - 1, by omega⟩
    rw [br_s] at h ⊢
    by_cases c : F now = mark
    · rw [if_pos c] at h ⊢; exact h
    · rw [if_neg c] at h ⊢
      by_cases d : since + 1 = gap
      · rw [if_pos d] at h ⊢; exact br_mono h (by omega)
      · rw [if_neg d] at h ⊢; exact br_mono h (by omega)
def orb (F : Nat → Nat) (r : Nat) : Nat → Nat
  | 0 => r
  | t + 1 => F (orb F r t)
theorem orb_s (F : Nat → Nat) (r t : Nat) : orb F r (t + 1) = F (orb F r t) := rfl
theorem orb_per {F : Nat → Nat} {r i l : Nat} (h : orb F r (i + l) = orb F r i) : ∀ t, i ≤ t → orb F r (t + l) = orb F r t := by
  intro t ht
  obtain ⟨d, rfl⟩ : ∃ d, t = i + d := ⟨t - i, by omega⟩
  clear ht
  induction d with
  | zero => exact h
  | succ d ih => rw [show i + (d + 1) + l = (i + d + l) + 1 by omega, orb_s, ih, ← orb_s F r (i + d)]; rfl
theorem pigeon {o : Nat → Nat} {B : Nat} (h : ∀ t, o t < B) : ∃ i l, 1 ≤ l ∧ i + l ≤ B ∧ o (i + l) = o i := by
  refine Classical.byContradiction (fun hno => ?_)
  have inj : ∀ a b, a < b → b < B + 1 → o a ≠ o b := by
    intro a b hab hb e
    exact hno ⟨a, b - a, by omega, by omega, by rw [show a + (b - a) = b by omega]; exact e.symm⟩
  have := ct_enum (p := fun _ => true) (n := B) o (B + 1) (fun a _ => h a) inj
  have h2 := ct_le (fun k => (List.range (B + 1)).any (fun a => o a == k)) B
  omega
theorem br_1 {F : Nat → Nat} {r i l : Nat} (hper : ∀ t, i ≤ t → orb F r (t + l) = orb F r t) : ∀ (d T g s : Nat), s + d = l → 1 ≤ d → i ≤ T → l ≤ g → ∃ a, br F d (orb F r (T + s)) (orb F r T) g s = some a
  | 0, T, g, s, hs, hd, hT, hg => by omega
  | d + 1, T, g, s, hs, hd, hT, hg => by
    rw [br_s, ← orb_s F r (T + s)]
    by_cases c : orb F r (T + s + 1) = orb F r T
    · exact ⟨_, if_pos c⟩
    · rw [if_neg c]
      have hne : d ≠ 0 := by
        intro z
        subst z
        exact c (by rw [show T + s + 1 = T + l by omega]; exact hper T hT)
      rw [if_neg (by omega)]
      exact br_1 hper d T g (s + 1) (by omega) (by omega) hT hg
theorem br_2 {F : Nat → Nat} {r T g f' : Nat} (hn : ∃ a, br F f' (orb F r (T + g)) (orb F r (T + g)) (g * 2) 0 = some a) : ∀ (d s : Nat), s + d = g → 1 ≤ d → ∃ a, br F (d + f') (orb F r (T + s)) (orb F r T) g s = some a
  | 0, s, hs, hd => by omega
  | d + 1, s, hs, hd => by
    rw [show d + 1 + f' = (d + f') + 1 by omega, br_s, ← orb_s F r (T + s)]
    by_cases c : orb F r (T + s + 1) = orb F r T
    · exact ⟨_, if_pos c⟩
    · rw [if_neg c]
      by_cases e : s + 1 = g
      · have : d = 0 := by omega
        subst this
        rw [if_pos e, Nat.zero_add, show T + s + 1 = T + g by omega]
        exact hn
      · rw [if_neg e]
        exact br_2 hn d (s + 1) (by omega) (by omega)
theorem br_k {F : Nat → Nat} {r i l : Nat} (hper : ∀ t, i ≤ t → orb F r (t + l) = orb F r t) (hl : 1 ≤ l) {K : Nat} (hi : i + 1 ≤ 2 ^ K) (hK : l ≤ 2 ^ K) : ∀ (d k : Nat), k + d = K → ∃ a, br F ((2 ^ K - 2 ^ k) + l) (orb F r (2 ^ k - 1)) (orb F r (2 ^ k - 1)) (2 ^ k) 0 = some a
  | 0, k, hk => by
    have : k = K := by omega
    subst this
    obtain ⟨a, ha⟩ := br_1 hper l (2 ^ k - 1) (2 ^ k) 0 (by omega) hl (by omega) hK
    rw [Nat.add_zero] at ha
    exact ⟨a, by rw [Nat.sub_self, Nat.zero_add]; exact ha⟩
  | d + 1, k, hk => by
    have hp : 1 ≤ 2 ^ k := Nat.one_le_pow _ _ (by decide)
    have hs : 2 ^ (k + 1) = 2 ^ k * 2 := Nat.pow_succ 2 k
    have hle : 2 ^ (k + 1) ≤ 2 ^ K := Nat.pow_le_pow_right (by decide) (by omega)
    have ih := br_k hper hl hi hK d (k + 1) (by omega)
    rw [hs] at ih hle
    have h2 := br_2 (F := F) (r := r) (T := 2 ^ k - 1) (g := 2 ^ k) (f' := 2 ^ K - 2 ^ k * 2 + l) (by rw [show 2 ^ k - 1 + 2 ^ k = 2 ^ k * 2 - 1 by omega]; exact ih) (2 ^ k) 0 (by omega) hp
    obtain ⟨a, ha⟩ := h2
    rw [Nat.add_zero] at ha
    refine ⟨a, ?_⟩
    rw [show 2 ^ K - 2 ^ k + l = 2 ^ k + (2 ^ K - 2 ^ k * 2 + l) by omega]
    exact ha
theorem br_ok {F : Nat → Nat} {B r : Nat} (hB : B ≤ 1000000) (hF : ∀ t, F t < B) (hr : r < B) : ∃ a, br F 4000000 r r 1 0 = some a ∧ a ≤ 4000000 := by
  have ho : ∀ t, orb F r t < B := by
    intro t
    cases t with
    | zero => exact hr
    | succ t => exact hF _
  obtain ⟨i, l, hl, hil, he⟩ := pigeon ho
  have h20 : (2 : Nat) ^ 20 = 1048576 := by decide
  obtain ⟨a, ha⟩ := br_k (orb_per he) hl (K := 20) (by omega) (by omega) 20 0 (by omega)
  have hb : ∀ {f now mark gap since a : Nat}, br F f now mark gap since = some a → a ≤ since + f := by
    intro f
    induction f with
    | zero => intro now mark gap since a h; cases h
    | succ f ih =>
      intro now mark gap since a h
      rw [br_s] at h
      by_cases c : F now = mark
      · rw [if_pos c] at h; cases h; omega
      · rw [if_neg c] at h
        by_cases d : since + 1 = gap
        · rw [if_pos d] at h
          have := ih h
          omega
        · rw [if_neg d] at h
          have := ih h
          omega
  have hm := br_mono ha (show 2 ^ 20 - 2 ^ 0 + l ≤ 4000000 by omega)
  exact ⟨a, hm, by have := hb hm; omega⟩
section RG
variable {N : Nat} {w : aw_W} {n : Nat} {lw it b : Nat → Int}
theorem xri_l (hN : 10000000 ≤ N) (hn : n ≠ 0) {a : Nat} : ∀ (k f i : Nat) (w : aw_W) (now mark gap since : Nat), br (fR n lw it) k now mark gap since = some a → k < f → i + k = 4000000 → gap + since ≤ i + 1 → now < 10 ^ n → XL w n lw it → ∃ w', x_Rounds_ring_18 N f mark now gap since i w = some ((a : Int), w') := by
  intro k
  induction k with
  | zero => intro f i w now mark gap since h; cases h
  | succ k ih =>
    intro f i w now mark gap since hbr hf hi hg hnow h
    obtain ⟨f, rfl⟩ : ∃ g, f = g + 1 := ⟨f - 1, by omega⟩
    have hp := p10_6 h.2.1
    obtain ⟨hL, hI⟩ := h.2.2.2.2.2 hn
    obtain ⟨w1, e1, h1, f1⟩ := X_rowBehind (N := N) (by omega) h hn (r := now) (by omega)
    rw [br_s] at hbr
    rw [x_Rounds_ring_18, if_neg (by omega), e1, b2_some, ww1 (by omega)]
    by_cases c : fR n lw it now = mark
    · rw [if_pos c] at hbr
      cases hbr
      rw [if_pos (by omega)]
      exact ⟨w1, rfl⟩
    · rw [if_neg c] at hbr
      rw [if_neg (by omega)]
      by_cases d : since + 1 = gap
      · rw [if_pos d] at hbr
        have eg : aw_w ((gap : Int) * 2) = ((gap * 2 : Nat) : Int) := by rw [ww (by omega) (by omega)]; omega
        rw [if_pos (by omega), x_Rounds_ring_57, ww1 (by omega), eg]
        exact ih f (i + 1) w1 _ _ _ 0 hbr (by omega) (by omega) (by omega) (fR_lt hL hI now) h1
      · rw [if_neg d] at hbr
        rw [if_neg (by omega), x_Rounds_ring_57, ww1 (by omega)]
        exact ih f (i + 1) w1 _ _ _ (since + 1) hbr (by omega) (by omega) (by omega) (fR_lt hL hI now) h1
theorem mri_l (hN : 10000000 ≤ N) (hn : n ≠ 0) {a : Nat} : ∀ (k f i : Nat) (w : aw_W) (now mark gap since : Nat), br (fR n lw it) k now mark gap since = some a → k < f → i + k = 4000000 → gap + since ≤ i + 1 → ML w n lw it → (∀ k, k < n → w 64 k = bq (fR n lw it now) n k) → ∃ w', m_ringFrom_13 N f gap ((since + 1 : Nat) : Int) mark w = some ((a : Int), w') := by
  intro k
  induction k with
  | zero => intro f i w now mark gap since h; cases h
  | succ k ih =>
    intro f i w now mark gap since hbr hf hi hg h hb
    obtain ⟨f, rfl⟩ : ∃ g, f = g + 1 := ⟨f - 1, by omega⟩
    obtain ⟨hL, hI⟩ := h.2.2.2.2.2 hn
    have e0 := M_row (N := N) (by omega) h hb (bq_bd _ n)
    rw [rb_bq (fR_lt hL hI now)] at e0
    obtain ⟨w1, e1, h1, b1⟩ := M_round (N := N) (by omega) h hn hb
    rw [br_s] at hbr
    rw [m_ringFrom_13, e0, b2_some]
    by_cases c : fR n lw it now = mark
    · rw [if_pos c] at hbr
      cases hbr
      rw [if_pos (by omega)]
      exact ⟨w, rfl⟩
    · rw [if_neg c] at hbr
      rw [if_neg (by omega)]
      by_cases d : since + 1 = gap
      · rw [if_pos d] at hbr
        have eg : aw_w ((gap : Int) * 2) = ((gap * 2 : Nat) : Int) := by rw [ww (by omega) (by omega)]; omega
        rw [if_pos (by omega), e0, b2_some, m_ringFrom_37, e1, b1_some, eg]
        have ez : aw_w ((0 : Int) + 1) = ((0 + 1 : Nat) : Int) := by decide
        rw [ez]
        exact ih f (i + 1) w1 _ _ _ 0 hbr (by omega) (by omega) (by omega) h1 b1
      · rw [if_neg d] at hbr
        rw [if_neg (by omega), m_ringFrom_37, e1, b1_some, ww1 (by omega)]
        exact ih f (i + 1) w1 _ _ _ (since + 1) hbr (by omega) (by omega) (by omega) h1 b1
def gle (n : Nat) (lw it : Nat → Int) : Int × Nat := gl (fR n lw it) 100 0 (r0 n lw it)
def a_rounds (n : Nat) (lw it : Nat → Int) (x1 : Int) : Int := if n = 0 ∨ ¬ (0 ≤ x1 ∧ x1 ≤ 2) then -1000000 else if x1 = 0 then (gle n lw it).1 else if x1 = 1 then ((gle n lw it).2 : Int) else match br (fR n lw it) 4000000 (gle n lw it).2 (gle n lw it).2 1 0 with
  | none => -1
  | some a => (a : Int)
theorem X_rounds (hN : 10000000 ≤ N) (h : XL w n lw it) {x1 : Int} : ∃ w', x_rounds N x1 w = some (a_rounds n lw it x1, w') := by
  unfold a_rounds
  rw [x_rounds, h.1]
  by_cases hn : n = 0
  · rw [if_pos (by omega), if_pos (Or.inl hn)]; exact ⟨w, rfl⟩
  · rw [if_neg (by omega)]
    by_cases c : 0 ≤ x1 ∧ x1 ≤ 2
    · obtain ⟨w1, e1, h1, g1, g2⟩ := X_go (N := N) (by omega) h hn
      obtain ⟨hL, hI⟩ := h.2.2.2.2.2 hn
      have hlt : (gle n lw it).2 < 10 ^ n := gl_lt (fR_lt hL hI) 100 0 _ (r0_lt hL hI)
      rw [if_neg (by omega), if_pos c.2, e1, b1_some, if_neg (c := _ ∨ _) (fun z => z.elim hn (fun z => z c)), g1, g2]
      by_cases z0 : x1 = 0
      · rw [if_pos z0, if_pos z0]; exact ⟨w1, rfl⟩
      · rw [if_neg z0, if_neg z0]
        by_cases z1 : x1 = 1
        · rw [if_pos z1, if_pos z1]; exact ⟨w1, rfl⟩
        · obtain ⟨a, ha, -⟩ := br_ok (p10_6 h.2.1) (fR_lt hL hI) hlt
          obtain ⟨w2, e2⟩ := xri_l (N := N) hN hn 4000000 N 0 w1 _ _ 1 0 ha (by omega) (by omega) (by omega) hlt h1
          have e2' : x_Rounds_ring N w1 = some ((a : Int), w2) := by
            rw [x_Rounds_ring, g2]
            exact e2
          rw [if_neg z1, if_neg z1, e2', b2_some, ha]
          exact ⟨w2, rfl⟩
    · rw [if_pos (c := _ ∨ _) (Or.inr c)]
      by_cases z : x1 < 0
      · rw [if_pos z]; exact ⟨w, rfl⟩
      · rw [if_neg z, if_neg (by omega)]; exact ⟨w, rfl⟩
theorem M_rounds (hN : 10000000 ≤ N) (h : ML w n lw it) {x1 : Int} : ∃ w', m_rounds N x1 w = some (a_rounds n lw it x1, w') := by
  unfold a_rounds
  rw [m_rounds, h.1]
  by_cases hn : n = 0
  · rw [if_pos (by omega), if_pos (Or.inl hn)]; exact ⟨_, rfl⟩
  · have hn6 := h.2.1
    have h0 : ML (aw_up w 49 0 0) n lw it := h.fr (S := [(49, 0)]) ((fr_r _ w).up rfl) rfl
    rw [if_neg (by omega), m_isIn_ok, b2_some]
    by_cases c : 0 ≤ x1 ∧ x1 ≤ 2
    · obtain ⟨hL, hI⟩ := h.2.2.2.2.2 hn
      have hlt : (gle n lw it).2 < 10 ^ n := gl_lt (fR_lt hL hI) 100 0 _ (r0_lt hL hI)
      obtain ⟨w1, e1, h1, v1⟩ := mgt_l (N := N) (x1 := x1) N 0 _ (by omega) (Nat.zero_le _) h0 (fun k hk => absurd hk (Nat.not_lt_zero k))
      have e1' : m_rounds_30 N N x1 0 (aw_up w 49 0 0) = m_rounds_56 N x1 w1 := e1
      have b1 : ∀ k, k < n → w1 64 k = bq (r0 n lw it) n k := fun k hk => by rw [v1 k hk, r0_bq hL hI]; exact (if_pos hk).symm
      have er := M_row (N := N) (by omega) h1 b1 (bq_bd _ n)
      obtain ⟨w2, e2, h2⟩ := mgo_l (N := N) (x1 := x1) (by omega) hn 100 N 0 w1 (r0 n lw it) (rb n (bq (r0 n lw it) n)) (by omega) (by omega) (r0_lt hL hI) h1 b1
      have e2' : m_rounds_66 N N x1 (-1) (rb n (bq (r0 n lw it) n)) 0 w1 = m_rounds_104 N x1 (gle n lw it).1 ((gle n lw it).2 : Int) w2 := e2
      have hp := p10_6 hn6
      obtain ⟨w3, e3, f3, b3⟩ := ml_lay (N := N) (mo := (lw 4).toNat) (by omega) h2.1 hn6 (by rw [h2.2.2.2.1 4 (by decide)]; have := hL.2.2.2.2; omega) (x := ((gle n lw it).2 : Int)) (by unfold aw_I; omega)
      have h3 := h2.fr f3 rfl
      rw [if_neg (fun z => b2i_and.mp z c), e1', m_rounds_56, er, b2_some, e2', m_rounds_104, e3, b2_some, if_neg (c := _ ∨ _) (fun z => z.elim hn (fun z => z c))]
      by_cases z0 : x1 = 0
      · rw [if_pos z0, if_pos z0]; exact ⟨w3, rfl⟩
      · rw [if_neg z0, if_neg z0]
        by_cases z1 : x1 = 1
        · rw [if_pos z1, if_pos z1]; exact ⟨w3, rfl⟩
        · obtain ⟨a, ha, -⟩ := br_ok (p10_6 h.2.1) (fR_lt hL hI) hlt
          have b3' : ∀ k, k < n → w3 64 k = bq (gle n lw it).2 n k := fun k hk => by
            rw [b3 (by omega) k hk, Int.toNat_natCast]
            unfold bq
            rw [if_pos hk]
          have e4 := M_row (N := N) (by omega) h3 b3' (bq_bd _ n)
          rw [rb_bq hlt] at e4
          obtain ⟨w5, e5, h5, b5⟩ := M_round (N := N) (by omega) h3 hn b3'
          obtain ⟨w6, e6⟩ := mri_l (N := N) hN hn 4000000 N 0 w5 _ _ 1 0 ha (by omega) (by omega) (by omega) h5 b5
          have e6' : m_ringFrom_13 N N 1 1 ((gle n lw it).2 : Int) w5 = some ((a : Int), w6) := e6
          rw [if_neg z1, if_neg z1, m_ringFrom, e4, b2_some, e5, b1_some, e6', b2_some, ha]
          exact ⟨w6, rfl⟩
    · rw [if_pos (b2i_and.mpr c), if_pos (c := _ ∨ _) (Or.inr c)]
      exact ⟨_, rfl⟩
end RG
