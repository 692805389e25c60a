/-! ===== pure: a land on both sides ===== -/
def avd (S P : List (Nat × Nat)) : Bool := P.all (fun p => S.all (fun q => !(p.1 == q.1) || (!(p.2 == q.2) && !(p.2 == 1000000) && !(q.2 == 1000000))))
theorem avd_fr {S P : List (Nat × Nat)} {w v : aw_W} (h : avd S P = true) (hf : fr_ S w v) {i k : Nat} (hp : fr_in P i k = true) : v i k = w i k := by
  refine hf i k ?_
  unfold fr_in at hp ⊢
  rw [List.any_eq_true] at hp
  obtain ⟨p, hp1, hp2⟩ := hp
  rw [List.any_eq_false]
  intro q hq
  unfold avd at h
  have h1 := List.all_eq_true.mp (List.all_eq_true.mp h p hp1) q hq
  simp only [Bool.and_eq_true, Bool.or_eq_true, beq_iff_eq, Bool.not_eq_true', beq_eq_false_iff_ne] at hp2 h1 ⊢
  omega
def LB (lw : Nat → Int) : Prop := (1 ≤ lw 0 ∧ lw 0 ≤ 6) ∧ (lw 1 = 0 ∨ lw 1 = 1) ∧ (0 ≤ lw 2 ∧ lw 2 ≤ 2) ∧ (0 ≤ lw 3 ∧ lw 3 ≤ 99) ∧ (0 ≤ lw 4 ∧ lw 4 ≤ 9)
def IB (it : Nat → Int) (n : Nat) : Prop := ∀ s, s < n → (1 ≤ it (4 * s) ∧ it (4 * s) ≤ 9) ∧ (0 ≤ it (4 * s + 1) ∧ it (4 * s + 1) ≤ 99) ∧ (0 ≤ it (4 * s + 2) ∧ it (4 * s + 2) ≤ 4) ∧ (0 ≤ it (4 * s + 3) ∧ it (4 * s + 3) ≤ 9)
/-- the class's land: n strivers, the law lw, the items it -/
def XL (w : aw_W) (n : Nat) (lw it : Nat → Int) : Prop := w 3 4 = n ∧ n ≤ 6 ∧ (n = 0 ∨ 2 ≤ n) ∧ (∀ k, k < 5 → w 5 k = lw k) ∧ (∀ j, j < 4 * n → w 4 j = it j) ∧ (n ≠ 0 → LB lw ∧ IB it n)
def ML (w : aw_W) (n : Nat) (lw it : Nat → Int) : Prop := w 49 22 = n ∧ n ≤ 6 ∧ (n = 0 ∨ 2 ≤ n) ∧ (∀ k, k < 5 → w 56 k = lw k) ∧ (∀ j, j < 4 * n → w 54 j = it j) ∧ (n ≠ 0 → LB lw ∧ IB it n)
def P_XL : List (Nat × Nat) := [(3, 4), (5, 1000000), (4, 1000000)]
def P_ML : List (Nat × Nat) := [(49, 22), (56, 1000000), (54, 1000000)]
section LD
variable {N : Nat} {w v : aw_W} {n : Nat} {lw it : Nat → Int} {b : Nat → Int} {S : List (Nat × Nat)}
theorem XL.fr (h : XL w n lw it) (hf : fr_ S w v) (ha : avd S P_XL = true) : XL v n lw it := by
  obtain ⟨h0, h1, h2, h3, h4, h5⟩ := h
  exact ⟨by rw [avd_fr ha hf rfl]; exact h0, h1, h2, fun k hk => by rw [avd_fr ha hf (fr_inA rfl k)]; exact h3 k hk, fun j hj => by rw [avd_fr ha hf (fr_inA rfl j)]; exact h4 j hj, h5⟩
theorem ML.fr (h : ML w n lw it) (hf : fr_ S w v) (ha : avd S P_ML = true) : ML v n lw it := by
  obtain ⟨h0, h1, h2, h3, h4, h5⟩ := h
  exact ⟨by rw [avd_fr ha hf rfl]; exact h0, h1, h2, fun k hk => by rw [avd_fr ha hf (fr_inA rfl k)]; exact h3 k hk, fun j hj => by rw [avd_fr ha hf (fr_inA rfl j)]; exact h4 j hj, h5⟩
theorem XL.lawB (h : XL w n lw it) (hn : n ≠ 0) : lwB w 5 := by
  obtain ⟨h0, h1, h2, h3, h4, h5⟩ := h
  unfold lwB
  rw [h3 0 (by decide), h3 1 (by decide), h3 2 (by decide), h3 3 (by decide), h3 4 (by decide)]
  exact (h5 hn).1
theorem ML.lawB (h : ML w n lw it) (hn : n ≠ 0) : lwB w 56 := by
  obtain ⟨h0, h1, h2, h3, h4, h5⟩ := h
  unfold lwB
  rw [h3 0 (by decide), h3 1 (by decide), h3 2 (by decide), h3 3 (by decide), h3 4 (by decide)]
  exact (h5 hn).1
theorem XL.itmB (h : XL w n lw it) (hn : n ≠ 0) : itB w 4 n := by
  obtain ⟨h0, h1, h2, h3, h4, h5⟩ := h
  intro s hs
  rw [h4 (4 * s) (by omega), h4 (4 * s + 1) (by omega), h4 (4 * s + 2) (by omega), h4 (4 * s + 3) (by omega)]
  exact (h5 hn).2 s hs
theorem ML.itmB (h : ML w n lw it) (hn : n ≠ 0) : itB w 54 n := by
  obtain ⟨h0, h1, h2, h3, h4, h5⟩ := h
  intro s hs
  rw [h4 (4 * s) (by omega), h4 (4 * s + 1) (by omega), h4 (4 * s + 2) (by omega), h4 (4 * s + 3) (by omega)]
  exact (h5 hn).2 s hs
theorem XL.toXs (h : XL w n lw it) (hn : n ≠ 0) (hb : ∀ s, s < n → w 21 s = b s) : xs w n b := ⟨h.1, by omega, h.2.1, h.lawB hn, hb⟩
theorem ML.toMs (h : ML w n lw it) (hn : n ≠ 0) (hb : ∀ s, s < n → w 64 s = b s) : ms w n b := ⟨h.1, by omega, h.2.1, h.lawB hn, hb⟩
/-! GAIN and the rest by the land's data -/
def gn (n : Nat) (lw it b : Nat → Int) (s : Nat) : Int := Gn (lw 0) (lw 1) (lw 2) (lw 3) (it (4 * s + 1)) b n s
def hd (n : Nat) (lw b : Nat → Int) : Int := Hd (lw 0) (lw 1) alT b n
def pd (n : Nat) (lw b : Nat → Int) : Int := Pd (lw 0) (lw 1) (lw 2) b n
def tk (n : Nat) (lw b : Nat → Int) : Int := Tk (lw 0) (lw 1) (lw 2) (lw 3) b n
theorem gn_bd (h : n ≠ 0 → LB lw ∧ IB it n) (hb : bd n b) {s : Nat} (hs : s < n) : -108 ≤ gn n lw it b s ∧ gn n lw it b s ≤ 99 := by
  have h1 := h (by omega)
  exact Gn_bd hb hs (h1.2 s hs).2.1 h1.1.2.2.2.1
/-- the class settles its row -/
theorem X_settle (hN : 10 ≤ N) (h : XL w n lw it) (hn : n ≠ 0) (hb : ∀ s, s < n → w 21 s = b s) : ∃ w', x_Sale_settle N w = some w' ∧ XL w' n lw it ∧ (∀ s, s < n → w' 21 s = b s) ∧ w' 17 3 = hd n lw b ∧ w' 17 4 = pd n lw b ∧ w' 17 5 = (Fb (lw 1) b n : Int) ∧ w' 17 6 = One (Fb (lw 1) b n) n ∧ sd w' n b ∧ fr_ S_x_Sale_settle w w' := by
  obtain ⟨w', e, hx, hs, hf⟩ := st_settle (N := N) hN (h.toXs hn hb)
  have h' := h.fr hf rfl
  obtain ⟨q0, q1, q2, q3, q4, q5⟩ := id h'
  obtain ⟨s3, s4, s5, s6⟩ := id hs
  rw [q3 0 (by decide), q3 1 (by decide)] at s3
  rw [q3 0 (by decide), q3 1 (by decide), q3 2 (by decide)] at s4
  rw [q3 1 (by decide)] at s5 s6
  exact ⟨w', e, h', hx.2.2.2.2, s3, s4, s5, s6, hs, hf⟩
theorem X_gainOf (h : XL w n lw it) (hn : n ≠ 0) (hb : ∀ s, s < n → w 21 s = b s) (hbd : bd n b) (hs : sd w n b) {s : Nat} (hsn : s < n) : x_Sale_gainOf N s w = some (gn n lw it b s, w) := by
  rw [xg_gainOf (h.toXs hn hb) hs hbd (h.itmB hn) hsn]
  obtain ⟨q0, q1, q2, q3, q4, q5⟩ := h
  unfold gn
  rw [q3 0 (by decide), q3 1 (by decide), q3 2 (by decide), q3 3 (by decide), q4 _ (by omega)]
theorem X_takings (h : XL w n lw it) (hn : n ≠ 0) (hb : ∀ s, s < n → w 21 s = b s) (hbd : bd n b) (hs : sd w n b) : x_Sale_takings N w = some (tk n lw b, w) := by
  rw [xg_takings (h.toXs hn hb) hs hbd]
  obtain ⟨q0, q1, q2, q3, q4, q5⟩ := h
  unfold tk
  rw [q3 0 (by decide), q3 1 (by decide), q3 2 (by decide), q3 3 (by decide)]
theorem M_gainOf (hN : 10 ≤ N) (h : ML w n lw it) (hn : n ≠ 0) (hb : ∀ s, s < n → w 64 s = b s) (hbd : bd n b) {s : Nat} (hsn : s < n) : ∃ w', m_gainOf N s w = some (gn n lw it b s, w') ∧ ML w' n lw it ∧ (∀ s, s < n → w' 64 s = b s) ∧ fr_ S_m_gainOf w w' := by
  obtain ⟨w', e, hm, hf⟩ := mg_gainOf (N := N) hN (h.toMs hn hb) hbd (h.itmB hn) hsn
  refine ⟨w', ?_, h.fr hf rfl, hm.2.2.2.2, hf⟩
  rw [e]
  obtain ⟨q0, q1, q2, q3, q4, q5⟩ := h
  unfold gn
  rw [q3 0 (by decide), q3 1 (by decide), q3 2 (by decide), q3 3 (by decide), q4 _ (by omega)]
theorem M_allPaid (hN : 10 ≤ N) (h : ML w n lw it) (hn : n ≠ 0) (hb : ∀ s, s < n → w 64 s = b s) (hbd : bd n b) : ∃ w', m_allPaid N w = some (tk n lw b, w') ∧ ML w' n lw it ∧ (∀ s, s < n → w' 64 s = b s) ∧ fr_ S_m_allPaid w w' := by
  obtain ⟨w', e, hm, hf⟩ := mg_allPaid (N := N) hN (h.toMs hn hb) hbd
  refine ⟨w', ?_, h.fr hf rfl, hm.2.2.2.2, hf⟩
  rw [e]
  obtain ⟨q0, q1, q2, q3, q4, q5⟩ := h
  unfold tk
  rw [q3 0 (by decide), q3 1 (by decide), q3 2 (by decide), q3 3 (by decide)]
/-- the reference judges its row: then it tells who has it, who is first, who pays what -/
theorem M_judge (hN : 10 ≤ N) (h : ML w n lw it) (hn : n ≠ 0) (hb : ∀ s, s < n → w 64 s = b s) : ∃ w', m_judge N w = some w' ∧ ML w' n lw it ∧ (∀ s, s < n → w' 64 s = b s) ∧ m_winner N w' = some (hd n lw b, w') ∧ m_firsts N w' = some ((Fb (lw 1) b n : Int), w') ∧ (∀ s, s < n → m_paidBy N s w' = some (Pr (lw 2) alT b n s, w')) ∧ fr_ S_m_judge w w' := by
  obtain ⟨w', e, hm, ht, hf⟩ := mj_judge (N := N) hN (h.toMs hn hb)
  obtain ⟨m, F, he⟩ := en_ex alT b n h.2.1
  have h' := h.fr hf rfl
  obtain ⟨q0, q1, q2, q3, q4, q5⟩ := id h
  rw [q3 0 (by decide), q3 1 (by decide)] at ht
  refine ⟨w', e, h', hm.2.2.2.2, ?_, mj_firsts hN ht, fun s hs => ?_, hf⟩
  · rw [mj_winner hN ht he, hold_Hd he (q5 hn).1.2.1]
    rfl
  · rw [mj_paidBy hN hm he hs, h'.2.2.2.1 2 (by decide)]
theorem m_isIn_ok (x lo hi : Int) : m_isIn N x lo hi w = some (b2i (decide (lo ≤ x) && decide (x ≤ hi)), w) := by
  rw [m_isIn]
  unfold aw_cmpL
  by_cases c1 : x < lo
  · have a1 : ¬ lo < x := by omega
    have a2 : ¬ x = lo := by omega
    have a3 : ¬ lo ≤ x := by omega
    rw [if_neg a1, if_neg a2, if_pos (by decide)]
    simp [m_isIn_17, m_isIn_18, b2i, a3]
  · have a3 : lo ≤ x := by omega
    have a4 : ¬ (if lo < x then (1 : Int) else if x = lo then 0 else -1) < 0 := by
      split
      · decide
      · rw [if_pos (by omega)]; decide
    rw [if_neg a4]
    by_cases c2 : x ≤ hi
    · have a5 : ¬ hi < x := by omega
      have a6 : ¬ 0 < (if hi < x then (1 : Int) else if x = hi then 0 else -1) := by
        rw [if_neg a5]
        split <;> decide
      rw [if_neg a6]
      simp [m_isIn_18, b2i, a3, c2]
    · have a5 : hi < x := by omega
      have a6 : 0 < (if hi < x then (1 : Int) else if x = hi then 0 else -1) := by
        rw [if_pos a5]
        decide
      rw [if_pos a6]
      simp [m_isIn_17, m_isIn_18, b2i, c2]
theorem m_isStriver_ok (x : Int) : m_isStriver N x w = some (b2i (decide (0 ≤ x) && decide (x < w 49 22)), w) := by
  rw [m_isStriver]
  by_cases c : x < 0
  · have : ¬ 0 ≤ x := by omega
    rw [if_pos c]
    simp [m_isStriver_16, m_isStriver_17, b2i, this]
  · rw [if_neg c]
    by_cases c2 : w 49 22 ≤ x
    · have : ¬ x < w 49 22 := by omega
      rw [if_pos c2]
      simp [m_isStriver_16, m_isStriver_17, b2i, this]
    · have h1 : 0 ≤ x := by omega
      have h2 : x < w 49 22 := by omega
      rw [if_neg c2]
      simp [m_isStriver_17, b2i, h1, h2]
end LD
