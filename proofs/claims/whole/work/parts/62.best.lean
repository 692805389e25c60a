/-! ===== pure: the best bid of one, others as they are ===== -/
def bv (g : Nat → Int) : Nat → Int
  | 0 => g 0
  | k + 1 => if bv g k < g (k + 1) then g (k + 1) else bv g k
def bi (g : Nat → Int) : Nat → Nat
  | 0 => 0
  | k + 1 => if bv g k < g (k + 1) then k + 1 else bi g k
theorem bv_s (g : Nat → Int) (k : Nat) : bv g (k + 1) = if bv g k < g (k + 1) then g (k + 1) else bv g k := rfl
theorem bi_s (g : Nat → Int) (k : Nat) : bi g (k + 1) = if bv g k < g (k + 1) then k + 1 else bi g k := rfl
theorem bv_bd {g : Nat → Int} {lo hi : Int} : ∀ {k : Nat}, (∀ o, o ≤ k → lo ≤ g o ∧ g o ≤ hi) → lo ≤ bv g k ∧ bv g k ≤ hi
  | 0, h => h 0 (Nat.le_refl _)
  | k + 1, h => by
    have h1 := bv_bd (k := k) (fun o ho => h o (by omega))
    have h2 := h (k + 1) (Nat.le_refl _)
    rw [bv_s]
    split
    · exact h2
    · exact h1
theorem bi_le (g : Nat → Int) : ∀ k, bi g k ≤ k
  | 0 => Nat.le_refl _
  | k + 1 => by
    have := bi_le g k
    rw [bi_s]
    split <;> omega
theorem bv_ge (g : Nat → Int) : ∀ k o, o ≤ k → g o ≤ bv g k
  | 0, o, h => by rw [show o = 0 by omega]; exact Int.le_refl _
  | k + 1, o, h => by
    rw [bv_s]
    by_cases e : o = k + 1
    · subst e
      split <;> omega
    · have := bv_ge g k o (by omega)
      split <;> omega
/-- the row with another bid of s -/
def upb (b : Nat → Int) (s : Nat) (o : Int) : Nat → Int := fun k => if k = s then o else b k
theorem upb_bd {n : Nat} {b : Nat → Int} {s : Nat} {o : Int} (h : bd n b) (ho : 0 ≤ o ∧ o ≤ 9) : bd n (upb b s o) := by
  intro k hk
  unfold upb
  split
  · exact ho
  · exact h k hk
theorem upb_self (b : Nat → Int) (s : Nat) : upb b s (b s) = b := by
  funext k
  unfold upb
  split
  · next e => rw [e]
  · rfl
theorem upb_upb (b : Nat → Int) (s : Nat) (o p : Int) : upb (upb b s o) s p = upb b s p := by
  funext k
  unfold upb
  split <;> rfl
/-- the gain of s by the bid o -/
def gw (n : Nat) (lw it b : Nat → Int) (s : Nat) : Nat → Int := fun o => gn n lw it (upb b s (o : Int)) s
section BB
variable {N : Nat} {w : aw_W} {n : Nat} {lw it b : Nat → Int}
theorem gw_bd (h : n ≠ 0 → LB lw ∧ IB it n) (hb : bd n b) {s : Nat} (hs : s < n) {o : Nat} (ho : o ≤ 9) : -108 ≤ gw n lw it b s o ∧ gw n lw it b s o ≤ 99 := gn_bd h (upb_bd hb (by omega)) hs
theorem up21 {s : Nat} {o : Int} (hb : ∀ k, k < n → w 21 k = b k) : ∀ k, k < n → (aw_up w 21 s o) 21 k = upb b s o k := by
  intro k hk
  unfold upb
  by_cases e : k = s
  · subst e; simp [aw_up]
  · simp [aw_up, e]; exact hb k hk
theorem up64 {s : Nat} {o : Int} (hb : ∀ k, k < n → w 64 k = b k) : ∀ k, k < n → (aw_up w 64 s o) 64 k = upb b s o k := by
  intro k hk
  unfold upb
  by_cases e : k = s
  · subst e; simp [aw_up]
  · simp [aw_up, e]; exact hb k hk
/-- the class's gain with another bid; the row stays so -/
theorem X_gainWith (hN : 10 ≤ N) (h : XL w n lw it) (hb : ∀ k, k < n → w 21 k = b k) (hbd : bd n b) {s : Nat} (hs : s < n) {o : Nat} (ho : o ≤ 9) : ∃ w', x_Sale_gainWith N s o w = some (gw n lw it b s o, w') ∧ XL w' n lw it ∧ (∀ k, k < n → w' 21 k = upb b s (o : Int) k) ∧ w' 17 3 = hd n lw (upb b s (o : Int)) ∧ fr_ S_x_Sale_gainWith w w' := by
  have hn : n ≠ 0 := by omega
  have hn6 := h.2.1
  have h0 : XL (aw_up w 21 s (o : Int)) n lw it := h.fr (S := [(21, 1000000)]) ((fr_r _ w).upA rfl) rfl
  obtain ⟨w2, e2, h2, b2, s3, s4, s5, s6, ss, f2⟩ := X_settle (N := N) hN h0 hn (up21 hb)
  have e : x_Sale_gainWith N s o w = some (gw n lw it b s o, w2) := by
    rw [x_Sale_gainWith, if_pos ⟨by omega, by omega⟩, Int.toNat_natCast, e2, b1_some, X_gainOf h2 hn b2 (upb_bd hbd (by omega)) ss hs, b2_some]
    rfl
  exact ⟨w2, e, h2, b2, s3, f_x_Sale_gainWith N _ _ _ _ _ e⟩
theorem xb_l (hN : 20 ≤ N) {s : Nat} (hs : s < n) (hbd : bd n b) {mo : Nat} (hmo : lw 4 = mo) : ∀ (f o : Nat) (w : aw_W) (best : Int), mo + 1 - o < f → o ≤ mo + 1 → XL w n lw it → (∀ k, k < n → k ≠ s → w 21 k = b k) → (0 < o → best = bi (gw n lw it b s) (o - 1) ∧ w 17 7 = bv (gw n lw it b s) (o - 1)) → ∃ w', x_Sale_bestBid_12 N f s (b s) best o w = some ((bi (gw n lw it b s) mo : Int), w') ∧ XL w' n lw it ∧ (∀ k, k < n → w' 21 k = b k) ∧ w' 17 7 = bv (gw n lw it b s) mo := by
  intro f
  induction f with
  | zero => intro o w best h; omega
  | succ f ih =>
    intro o w best hf hom h hb hinv
    obtain ⟨q0, q1, q2, q3, q4, q5⟩ := id h
    have hn : n ≠ 0 := by omega
    have h9 := (q5 hn).1.2.2.2.2
    rw [x_Sale_bestBid_12, q3 4 (by decide), hmo]
    by_cases c : (mo : Int) < (o : Int)
    · have eo : o = mo + 1 := by omega
      subst eo
      obtain ⟨i1, i2⟩ := hinv (by omega)
      rw [Nat.add_sub_cancel] at i1 i2
      rw [if_pos c, x_Sale_bestBid_74, if_pos ⟨by omega, by omega⟩, i1, Int.toNat_natCast]
      refine ⟨_, rfl, h.fr (S := [(21, 1000000)]) ((fr_r _ w).upA rfl) rfl, fun k hk => ?_, by simp [aw_up]; exact i2⟩
      by_cases e : k = s
      · subst e; simp [aw_up]
      · simp [aw_up, e]; exact hb k hk e
    · rw [if_neg c, if_pos ⟨by omega, by omega⟩, Int.toNat_natCast]
      have h0 : XL (aw_up w 21 s (o : Int)) n lw it := h.fr (S := [(21, 1000000)]) ((fr_r _ w).upA rfl) rfl
      have hb0 : ∀ k, k < n → (aw_up w 21 s (o : Int)) 21 k = upb b s (o : Int) k := by
        intro k hk
        unfold upb
        by_cases e : k = s
        · subst e; simp [aw_up]
        · simp [aw_up, e]; exact hb k hk e
      have hbd2 := upb_bd (s := s) (o := (o : Int)) hbd (by omega)
      obtain ⟨w2, e2, h2, b2, s3, s4, s5, s6, ss, f2⟩ := X_settle (N := N) (by omega) h0 hn hb0
      rw [e2, b1_some, X_gainOf h2 hn b2 hbd2 ss hs, b2_some]
      have hb2 : ∀ k, k < n → k ≠ s → w2 21 k = b k := by
        intro k hk hne
        rw [b2 k hk]
        unfold upb
        rw [if_neg hne]
      have r7 : w2 17 7 = w 17 7 := by rw [f2 17 7 rfl]; simp [aw_up]
      change ∃ w', (if (o : Int) = 0 then x_Sale_bestBid_59 N (x_Sale_bestBid_12 N f) s (b s) o (gw n lw it b s o) w2 else if gw n lw it b s o ≤ w2 17 7 then x_Sale_bestBid_68 N (x_Sale_bestBid_12 N f) s (b s) best o w2 else x_Sale_bestBid_59 N (x_Sale_bestBid_12 N f) s (b s) o (gw n lw it b s o) w2) = _ ∧ _
      have take : (o = 0 ∨ bv (gw n lw it b s) (o - 1) < gw n lw it b s o) → ∃ w', x_Sale_bestBid_59 N (x_Sale_bestBid_12 N f) s (b s) o (gw n lw it b s o) w2 = some ((bi (gw n lw it b s) mo : Int), w') ∧ XL w' n lw it ∧ (∀ k, k < n → w' 21 k = b k) ∧ w' 17 7 = bv (gw n lw it b s) mo := by
        intro hc
        rw [x_Sale_bestBid_59, x_Sale_bestBid_68, ww1 (by omega)]
        refine ih (o + 1) _ _ (by omega) (by omega) (h2.fr (S := [(17, 7)]) ((fr_r _ w2).up rfl) rfl) (fun k hk hne => by simp [aw_up]; exact hb2 k hk hne) (fun _ => ?_)
        rw [Nat.add_sub_cancel]
        cases o with
        | zero => exact ⟨rfl, by simp [aw_up]; rfl⟩
        | succ o =>
          have hc2 := hc.resolve_left (by omega)
          rw [Nat.add_sub_cancel] at hc2
          refine ⟨?_, ?_⟩
          · rw [bi_s, if_pos hc2]
          · rw [bv_s, if_pos hc2]; simp [aw_up]
      by_cases c0 : o = 0
      · rw [if_pos (by omega)]
        exact take (Or.inl c0)
      · rw [if_neg (by omega), r7, (hinv (by omega)).2]
        by_cases c1 : gw n lw it b s o ≤ bv (gw n lw it b s) (o - 1)
        · rw [if_pos c1, x_Sale_bestBid_68, ww1 (by omega)]
          refine ih (o + 1) _ _ (by omega) (by omega) h2 hb2 (fun _ => ?_)
          rw [Nat.add_sub_cancel]
          obtain ⟨p, rfl⟩ : ∃ p, o = p + 1 := ⟨o - 1, by omega⟩
          have hi := hinv (by omega)
          rw [Nat.add_sub_cancel] at hi c1
          refine ⟨?_, ?_⟩
          · rw [bi_s, if_neg (by omega)]; exact hi.1
          · rw [bv_s, if_neg (by omega), r7]; exact hi.2
        · rw [if_neg c1]
          exact take (Or.inr (by omega))
/-- the class's best bid: the lowest of the best; the row stays -/
theorem X_bestBid (hN : 20 ≤ N) (h : XL w n lw it) (hb : ∀ k, k < n → w 21 k = b k) (hbd : bd n b) {s : Nat} (hs : s < n) : ∃ w', x_Sale_bestBid N s w = some ((bi (gw n lw it b s) (lw 4).toNat : Int), w') ∧ XL w' n lw it ∧ (∀ k, k < n → w' 21 k = b k) ∧ w' 17 7 = bv (gw n lw it b s) (lw 4).toNat ∧ fr_ S_x_Sale_bestBid w w' := by
  have hn6 := h.2.1
  have h9 := (h.2.2.2.2.2 (by omega)).1.2.2.2.2
  obtain ⟨w', e, h', b', g'⟩ := xb_l (N := N) (mo := (lw 4).toNat) hN hs hbd (by omega) N 0 w 0 (by omega) (by omega) h (fun k hk _ => hb k hk) (fun q => absurd q (Nat.lt_irrefl 0))
  have e' : x_Sale_bestBid N s w = some ((bi (gw n lw it b s) (lw 4).toNat : Int), w') := by
    rw [x_Sale_bestBid, if_pos ⟨by omega, by omega⟩, Int.toNat_natCast, hb s hs]
    exact e
  exact ⟨w', e', h', b', g', f_x_Sale_bestBid N _ _ _ _ e'⟩
/-- the reference's: how much more, by which bid -/
def mo1 (g : Nat → Int) (now : Int) (k : Nat) : Int := if now < bv g k then (bi g k : Int) else -1
def mo2 (g : Nat → Int) (now : Int) (k : Nat) : Int := if now < bv g k then bv g k - now else 0
theorem mb_l (hN : 20 ≤ N) {s : Nat} (hs : s < n) (hbd : bd n b) {mo : Nat} (hmo : lw 4 = mo) {now : Int} (hnow : -108 ≤ now ∧ now ≤ 99) : ∀ (f o : Nat) (w : aw_W), mo + 1 - o < f → o ≤ mo + 1 → ML w n lw it → (∀ k, k < n → k ≠ s → w 64 k = b k) → (o = 0 → w 49 34 = -1 ∧ w 49 35 = 0) → (0 < o → w 49 34 = mo1 (gw n lw it b s) now (o - 1) ∧ w 49 35 = mo2 (gw n lw it b s) now (o - 1)) → ∃ w', m_layBest_26 N f s (b s) now o w = some w' ∧ ML w' n lw it ∧ (∀ k, k < n → w' 64 k = b k) ∧ w' 49 34 = mo1 (gw n lw it b s) now mo ∧ w' 49 35 = mo2 (gw n lw it b s) now mo := by
  intro f
  induction f with
  | zero => intro o w h; omega
  | succ f ih =>
    intro o w hf hom h hb hi0 hinv
    obtain ⟨q0, q1, q2, q3, q4, q5⟩ := id h
    have hn : n ≠ 0 := by omega
    have h9 := (q5 hn).1.2.2.2.2
    rw [m_layBest_26, q3 4 (by decide), hmo]
    by_cases c : (mo : Int) < (o : Int)
    · have eo : o = mo + 1 := by omega
      subst eo
      obtain ⟨i1, i2⟩ := hinv (by omega)
      rw [Nat.add_sub_cancel] at i1 i2
      rw [if_pos c, m_layBest_84, if_pos ⟨by omega, by omega⟩, Int.toNat_natCast]
      refine ⟨_, rfl, h.fr (S := [(64, 1000000)]) ((fr_r _ w).upA rfl) rfl, fun k hk => ?_, by simp [aw_up]; exact i1, by simp [aw_up]; exact i2⟩
      by_cases e : k = s
      · subst e; simp [aw_up]
      · simp [aw_up, e]; exact hb k hk e
    · rw [if_neg c, if_pos ⟨by omega, by omega⟩, Int.toNat_natCast]
      have h0 : ML (aw_up w 64 s (o : Int)) n lw it := h.fr (S := [(64, 1000000)]) ((fr_r _ w).upA rfl) rfl
      have hb0 : ∀ k, k < n → (aw_up w 64 s (o : Int)) 64 k = upb b s (o : Int) k := by
        intro k hk
        unfold upb
        by_cases e : k = s
        · subst e; simp [aw_up]
        · simp [aw_up, e]; exact hb k hk e
      have hbd2 := upb_bd (s := s) (o := (o : Int)) hbd (by omega)
      obtain ⟨w2, e2, h2, b2, f2⟩ := M_gainOf (N := N) (by omega) h0 hn hb0 hbd2 hs
      have hg := gw_bd (b := b) q5 hbd hs (show o ≤ 9 by omega)
      rw [e2, b2_some]
      change ∃ w', (if w2 49 35 < aw_w (gw n lw it b s o - now) then m_layBest_78 N (m_layBest_26 N f) s (b s) now o (aw_up (aw_up w2 49 34 o) 49 35 (aw_w (gw n lw it b s o - now))) else m_layBest_78 N (m_layBest_26 N f) s (b s) now o w2) = _ ∧ _
      rw [ww (by omega) (by omega)]
      have hb2 : ∀ k, k < n → k ≠ s → w2 64 k = b k := by
        intro k hk hne
        rw [b2 k hk]
        unfold upb
        rw [if_neg hne]
      have r34 : w2 49 34 = w 49 34 := by rw [f2 49 34 rfl]; simp [aw_up]
      have r35 : w2 49 35 = w 49 35 := by rw [f2 49 35 rfl]; simp [aw_up]
      -- what the two fields are behind this bid
      have nx : ∀ w3 : aw_W, ML w3 n lw it → (∀ k, k < n → k ≠ s → w3 64 k = b k) → w3 49 34 = mo1 (gw n lw it b s) now o → w3 49 35 = mo2 (gw n lw it b s) now o → ∃ w', m_layBest_78 N (m_layBest_26 N f) s (b s) now o w3 = some w' ∧ ML w' n lw it ∧ (∀ k, k < n → w' 64 k = b k) ∧ w' 49 34 = mo1 (gw n lw it b s) now mo ∧ w' 49 35 = mo2 (gw n lw it b s) now mo := by
        intro w3 m3 b3 i1 i2
        rw [m_layBest_78, ww1 (by omega)]
        exact ih (o + 1) w3 (by omega) (by omega) m3 b3 (fun q => absurd q (by omega)) (fun _ => ⟨i1, i2⟩)
      have nxt : ∀ x y : Int, x = mo1 (gw n lw it b s) now o → y = mo2 (gw n lw it b s) now o → ∃ w', m_layBest_78 N (m_layBest_26 N f) s (b s) now o (aw_up (aw_up w2 49 34 x) 49 35 y) = some w' ∧ ML w' n lw it ∧ (∀ k, k < n → w' 64 k = b k) ∧ w' 49 34 = mo1 (gw n lw it b s) now mo ∧ w' 49 35 = mo2 (gw n lw it b s) now mo := by
        intro x y hx hy
        exact nx _ (h2.fr (S := [(49, 34), (49, 35)]) (((fr_r _ w2).up rfl).up rfl) rfl) (fun k hk hne => by simp [aw_up]; exact hb2 k hk hne) (by simp [aw_up]; exact hx) (by simp [aw_up]; exact hy)
      rw [r35]
      cases o with
      | zero =>
        obtain ⟨i1, i2⟩ := hi0 rfl
        rw [i2]
        by_cases c1 : (0 : Int) < gw n lw it b s 0 - now
        · have c2 : now < bv (gw n lw it b s) 0 := by show now < gw n lw it b s 0; omega
          rw [if_pos c1]
          exact nxt _ _ (by unfold mo1; rw [if_pos c2]; rfl) (by unfold mo2; rw [if_pos c2]; rfl)
        · have c2 : ¬ now < bv (gw n lw it b s) 0 := by show ¬ now < gw n lw it b s 0; omega
          rw [if_neg c1]
          exact nx w2 h2 hb2 (by rw [r34, i1]; unfold mo1; rw [if_neg c2]) (by rw [r35, i2]; unfold mo2; rw [if_neg c2])
      | succ p =>
        obtain ⟨i1, i2⟩ := hinv (by omega)
        rw [Nat.add_sub_cancel] at i1 i2
        rw [i2]
        unfold mo2
        by_cases cp : now < bv (gw n lw it b s) p
        · rw [if_pos cp]
          by_cases c1 : bv (gw n lw it b s) p - now < gw n lw it b s (p + 1) - now
          · have c2 : bv (gw n lw it b s) p < gw n lw it b s (p + 1) := by omega
            rw [if_pos c1]
            exact nxt _ _ (by unfold mo1; rw [bv_s, bi_s, if_pos c2, if_pos c2, if_pos (by omega)]) (by unfold mo2; rw [bv_s, if_pos c2, if_pos (by omega)])
          · have c2 : ¬ bv (gw n lw it b s) p < gw n lw it b s (p + 1) := by omega
            rw [if_neg c1]
            exact nx w2 h2 hb2 (by rw [r34, i1]; unfold mo1; rw [bv_s, bi_s, if_neg c2, if_neg c2]) (by rw [r35, i2]; unfold mo2; rw [bv_s, if_neg c2])
        · rw [if_neg cp]
          by_cases c1 : (0 : Int) < gw n lw it b s (p + 1) - now
          · have c2 : bv (gw n lw it b s) p < gw n lw it b s (p + 1) := by omega
            rw [if_pos c1]
            exact nxt _ _ (by unfold mo1; rw [bv_s, bi_s, if_pos c2, if_pos c2, if_pos (by omega)]) (by unfold mo2; rw [bv_s, if_pos c2, if_pos (by omega)])
          · rw [if_neg c1]
            have c3 : ¬ now < bv (gw n lw it b s) (p + 1) := by
              rw [bv_s]
              split <;> omega
            exact nx w2 h2 hb2 (by rw [r34, i1]; unfold mo1; rw [if_neg cp, if_neg c3]) (by rw [r35, i2]; unfold mo2; rw [if_neg cp, if_neg c3])
theorem M_layBest (hN : 20 ≤ N) (h : ML w n lw it) (hb : ∀ k, k < n → w 64 k = b k) (hbd : bd n b) {s : Nat} (hs : s < n) : ∃ w', m_layBest N s w = some w' ∧ ML w' n lw it ∧ (∀ k, k < n → w' 64 k = b k) ∧ w' 49 34 = mo1 (gw n lw it b s) (gn n lw it b s) (lw 4).toNat ∧ w' 49 35 = mo2 (gw n lw it b s) (gn n lw it b s) (lw 4).toNat ∧ fr_ S_m_layBest w w' := by
  have hn6 := h.2.1
  have hn : n ≠ 0 := by omega
  have h9 := (h.2.2.2.2.2 hn).1.2.2.2.2
  obtain ⟨w1, e1, h1, b1, f1⟩ := M_gainOf (N := N) (by omega) h hn hb hbd hs
  obtain ⟨w', e, h', b', g1, g2⟩ := mb_l (N := N) (mo := (lw 4).toNat) hN hs hbd (by omega) (gn_bd h.2.2.2.2.2 hbd hs) N 0 (aw_up (aw_up w1 49 34 (-1)) 49 35 0) (by omega) (by omega) (h1.fr (S := [(49, 34), (49, 35)]) (((fr_r _ w1).up rfl).up rfl) rfl) (fun k hk _ => by simp [aw_up]; exact b1 k hk) (fun _ => ⟨by simp [aw_up], by simp [aw_up]⟩) (fun q => absurd q (Nat.lt_irrefl 0))
  have e' : m_layBest N s w = some w' := by
    rw [m_layBest, if_pos ⟨by omega, by omega⟩, e1, b2_some, Int.toNat_natCast, hb s hs]
    exact e
  exact ⟨w', e', h', b', g1, g2, f_m_layBest N _ _ _ e'⟩
end BB
