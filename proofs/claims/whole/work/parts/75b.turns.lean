/-! ===== pure: waiting, the reference: a turn ===== -/
section TU
variable {N : Nat} {w : aw_W} {n : Nat} {lw it b : Nat → Int}
/-- all sets at an earlier turn -/
theorem mlg_s (hN : 100 ≤ N) (hn : n ≠ 0) {T e : Nat} (hT : T ≤ 60) (he : e < T) {fee : Int} (hfee : -99 ≤ fee ∧ fee ≤ 99) (k2 : Int → Int → Int → aw_W → Option aw_W) : ∀ (f g : Nat) (w : aw_W), 2 ^ n - g < f → g ≤ 2 ^ n → ML w n lw it → rd65 w n T lw it fee e → (∀ g', g' < g → ∀ s, s < n → w 65 (ix (T - (e + 1)) g' s) = VV n T (lw 0) (wtn n it) fee (e + 1) g' s) → (∀ g', g' < g → w 66 (64 * (T - (e + 1)) + g') = b2i (VG n T (lw 0) (wtn n it) fee e g')) → ∃ w', m_layTurns_9 N k2 f T fee ((T - (e + 1) : Nat) : Int) g w = m_layTurns_218 N k2 T fee ((T - (e + 1) : Nat) : Int) w' ∧ ML w' n lw it ∧ rd65 w' n T lw it fee (e + 1) ∧ (∀ g', g' < 2 ^ n → w' 66 (64 * (T - (e + 1)) + g') = b2i (VG n T (lw 0) (wtn n it) fee e g')) ∧ (∀ k, 64 * (T - (e + 1)) + 64 ≤ k → w' 66 k = w 66 k) := by
  intro f
  induction f with
  | zero => intro g w hf; omega
  | succ f ih =>
    intro g w hf hg h hrd hdo h66
    have hn6 := h.2.1
    have pn := pow_n n hn6
    obtain ⟨hL, hI⟩ := h.2.2.2.2.2 hn
    have hwm := wm_lt (n := n) (T := T) (by omega) e
    rw [m_layTurns_9, h.1, pn.1]
    by_cases c : ((2 ^ n : Nat) : Int) ≤ (g : Int)
    · have : g = 2 ^ n := by omega
      subst this
      rw [if_pos c]
      exact ⟨w, rfl, h, hdo, h66, fun _ _ => rfl⟩
    · have hg2 : g < 2 ^ n := by omega
      have hgo := vgo_bd (lw := lw) (T := T) (e := e) (g := g) hI hfee
      have fin : m_layTurns_108 N k2 (m_layTurns_9 N k2 f) T fee ((T - (e + 1) : Nat) : Int) g (wm n T e) (vgo n T (lw 0) (wtn n it) fee e g) (b2i (VG n T (lw 0) (wtn n it) fee e g)) w = m_layTurns_108 N k2 (m_layTurns_9 N k2 f) T fee ((T - (e + 1) : Nat) : Int) g (wm n T e) (vgo n T (lw 0) (wtn n it) fee e g) (b2i (VG n T (lw 0) (wtn n it) fee e g)) w ∧ ∃ w', m_layTurns_108 N k2 (m_layTurns_9 N k2 f) T fee ((T - (e + 1) : Nat) : Int) g (wm n T e) (vgo n T (lw 0) (wtn n it) fee e g) (b2i (VG n T (lw 0) (wtn n it) fee e g)) w = m_layTurns_218 N k2 T fee ((T - (e + 1) : Nat) : Int) w' ∧ ML w' n lw it ∧ rd65 w' n T lw it fee (e + 1) ∧ (∀ g', g' < 2 ^ n → w' 66 (64 * (T - (e + 1)) + g') = b2i (VG n T (lw 0) (wtn n it) fee e g')) ∧ (∀ k, 64 * (T - (e + 1)) + 64 ≤ k → w' 66 k = w 66 k) := by
        refine ⟨rfl, ?_⟩
        rw [m_layTurns_108, ix1 (t := T - (e + 1)) (show T - (e + 1) ≤ 60 by omega) (show g < 64 by omega), if_pos ⟨by omega, by omega⟩, if_pos (by cases VG n T (lw 0) (wtn n it) fee e g; exact Or.inl rfl; exact Or.inr rfl), Int.toNat_natCast]
        obtain ⟨w1, p1, p2, p3, p4, p5⟩ := mlt_s (N := N) hn hT he (fee := fee) hg2 k2 (m_layTurns_9 N k2 f) N 0 (aw_up w 66 (64 * (T - (e + 1)) + g) (b2i (VG n T (lw 0) (wtn n it) fee e g))) (by omega) (Nat.zero_le _) (h.fr (S := [(66, 1000000)]) ((fr_r _ w).upA rfl) rfl) (fun g' hg' s' hs' => by simp [aw_up]; exact hrd g' hg' s' hs') (fun s' hs' => absurd hs' (Nat.not_lt_zero s'))
        have p1' : m_layTurns_127 N k2 (m_layTurns_9 N k2 f) N T fee ((T - (e + 1) : Nat) : Int) g (wm n T e) (vgo n T (lw 0) (wtn n it) fee e g) (b2i (VG n T (lw 0) (wtn n it) fee e g)) 0 (aw_up w 66 (64 * (T - (e + 1)) + g) (b2i (VG n T (lw 0) (wtn n it) fee e g))) = m_layTurns_212 N k2 (m_layTurns_9 N k2 f) T fee ((T - (e + 1) : Nat) : Int) g w1 := p1
        rw [p1', m_layTurns_212, ww1 (by omega)]
        obtain ⟨w2, q1, q2, q3, q4, q5⟩ := ih (g + 1) w1 (by omega) (by omega) p2 (fun g' hg' s' hs' => by
          rw [p4 _ (by unfold ix; omega)]
          simp [aw_up]
          exact hrd g' hg' s' hs') (fun g' hg' s' hs' => by
          by_cases z : g' = g
          · subst z; exact p3 s' hs'
          · rw [p4 _ (by unfold ix; omega)]
            simp [aw_up]
            exact hdo g' (by omega) s' hs') (fun g' hg' => by
          rw [p5]
          by_cases z : g' = g
          · subst z; simp [aw_up]
          · have hne : 64 * (T - (e + 1)) + g' ≠ 64 * (T - (e + 1)) + g := by omega
            simp only [aw_up, hne, and_false, if_false]
            exact h66 g' (by omega))
        refine ⟨w2, q1, q2, q3, q4, fun k hk => ?_⟩
        rw [q5 k hk, p5]
        have hne : k ≠ 64 * (T - (e + 1)) + g := by omega
        simp [aw_up, hne]
      -- is it?
      have m69 : ∀ s0 s1 : Int, s1 = (if pp n g + 1 = lw 0 then wtn n it (wm n T e) else 0) → s0 = (if g = 0 then fee else 0) → ∃ w', m_layTurns_69 N k2 (m_layTurns_9 N k2 f) T fee ((T - (e + 1) : Nat) : Int) g (wm n T e) s0 s1 w = m_layTurns_218 N k2 T fee ((T - (e + 1) : Nat) : Int) w' ∧ ML w' n lw it ∧ rd65 w' n T lw it fee (e + 1) ∧ (∀ g', g' < 2 ^ n → w' 66 (64 * (T - (e + 1)) + g') = b2i (VG n T (lw 0) (wtn n it) fee e g')) ∧ (∀ k, 64 * (T - (e + 1)) + 64 ≤ k → w' 66 k = w 66 k) := by
        intro s0 s1 q1 q0
        have eg : s1 - s0 = vgo n T (lw 0) (wtn n it) fee e g := by unfold vgo; rw [q1, q0]
        rw [m_layTurns_69, if_neg (by omega), eg, ww (x := vgo n T (lw 0) (wtn n it) fee e g) (by omega) (by omega), m_has_ok (by omega) (by omega), b2_some]
        have eV : VG n T (lw 0) (wtn n it) fee e g = (!(g.testBit (wm n T e)) && decide (VV n T (lw 0) (wtn n it) fee e g (wm n T e) < vgo n T (lw 0) (wtn n it) fee e g)) := rfl
        cases hb : g.testBit (wm n T e) with
        | true =>
          have eq : VG n T (lw 0) (wtn n it) fee e g = false := by rw [eV, hb]; rfl
          rw [eq] at fin
          rw [if_neg (by decide), m_layTurns_107]
          exact fin.2
        | false =>
          rw [if_pos (by rfl), tp1 he hT, M_hasAt (by omega) (by omega) (by omega), b2_some, hrd g hg2 _ hwm]
          by_cases cc : vgo n T (lw 0) (wtn n it) fee e g ≤ VV n T (lw 0) (wtn n it) fee e g (wm n T e)
          · have eq : VG n T (lw 0) (wtn n it) fee e g = false := by rw [eV, hb, decide_eq_false (by omega)]; rfl
            rw [eq] at fin
            rw [if_pos cc, m_layTurns_107]
            exact fin.2
          · have eq : VG n T (lw 0) (wtn n it) fee e g = true := by rw [eV, hb, decide_eq_true (by omega)]; rfl
            rw [eq] at fin
            rw [if_neg cc]
            exact fin.2
      have m59 : ∀ s0 : Int, s0 = (if pp n g + 1 = lw 0 then wtn n it (wm n T e) else 0) → ∃ w', m_layTurns_59 N k2 (m_layTurns_9 N k2 f) T fee ((T - (e + 1) : Nat) : Int) g (wm n T e) s0 w = m_layTurns_218 N k2 T fee ((T - (e + 1) : Nat) : Int) w' ∧ ML w' n lw it ∧ rd65 w' n T lw it fee (e + 1) ∧ (∀ g', g' < 2 ^ n → w' 66 (64 * (T - (e + 1)) + g') = b2i (VG n T (lw 0) (wtn n it) fee e g')) ∧ (∀ k, 64 * (T - (e + 1)) + 64 ≤ k → w' 66 k = w 66 k) := by
        intro s0 q0
        rw [m_layTurns_59]
        by_cases z : g = 0
        · rw [if_pos (by omega)]; exact m69 _ _ q0 (by rw [if_pos z])
        · rw [if_neg (by omega)]; exact m69 _ _ q0 (by rw [if_neg z])
      have hpp : 0 ≤ pp n g ∧ pp n g ≤ 6 := by unfold pp; have := ct_le g.testBit n; omega
      rw [if_neg c, if_pos (by omega), bc_ok N (by omega) w, b2_some, pop_pp hn6 hg2, wmw hT he (by omega) hn6, w41 (show wm n T e < 6 by omega), h.2.2.2.1 0 (by decide), ww (x := pp n g + 1) (by omega) (by omega)]
      by_cases z : pp n g + 1 = lw 0
      · rw [if_pos z, if_pos ⟨by omega, by omega⟩, Int.toNat_natCast, h.2.2.2.2.1 _ (by omega)]
        exact m59 _ (by rw [if_pos z]; unfold wtn; rw [if_pos hwm])
      · rw [if_neg z]
        exact m59 _ (by rw [if_neg z])
theorem mlo_l (hN : 100 ≤ N) (hn : n ≠ 0) {T : Nat} (hT : T ≤ 60) {fee : Int} (hfee : -99 ≤ fee ∧ fee ≤ 99) : ∀ (m f e : Nat) (w : aw_W), m < f → e + m = T → ML w n lw it → rd65 w n T lw it fee e → (∀ d, d < e → ∀ g, g < 2 ^ n → w 66 (64 * (T - (d + 1)) + g) = b2i (VG n T (lw 0) (wtn n it) fee d g)) → ∃ w', m_layTurns_2 N f T fee ((T : Int) - ((e + 1 : Nat) : Int)) w = m_layTurns_224 N T w' ∧ ML w' n lw it ∧ (∀ d, d < T → ∀ g, g < 2 ^ n → w' 66 (64 * (T - (d + 1)) + g) = b2i (VG n T (lw 0) (wtn n it) fee d g)) := by
  intro m
  induction m with
  | zero =>
    intro f e w hf he h hrd h66
    obtain ⟨f, rfl⟩ : ∃ g, f = g + 1 := ⟨f - 1, by omega⟩
    have : e = T := by omega
    subst this
    rw [m_layTurns_2, if_pos (by omega)]
    exact ⟨w, rfl, h, h66⟩
  | succ m ih =>
    intro f e w hf he h hrd h66
    obtain ⟨f, rfl⟩ : ∃ g, f = g + 1 := ⟨f - 1, by omega⟩
    have pn := pow_n n h.2.1
    have et : (T : Int) - ((e + 1 : Nat) : Int) = ((T - (e + 1) : Nat) : Int) := by omega
    obtain ⟨w1, e1, h1, r1, k1, k2⟩ := mlg_s (N := N) hN hn hT (show e < T by omega) hfee (m_layTurns_2 N f) N 0 w (by omega) (Nat.zero_le _) h hrd (fun g hg => absurd hg (Nat.not_lt_zero g)) (fun g hg => absurd hg (Nat.not_lt_zero g))
    have e1' : m_layTurns_9 N (m_layTurns_2 N f) N T fee ((T - (e + 1) : Nat) : Int) 0 w = m_layTurns_218 N (m_layTurns_2 N f) T fee ((T - (e + 1) : Nat) : Int) w1 := e1
    rw [et, m_layTurns_2, if_neg (by omega), e1', m_layTurns_218, edw (show e < T by omega) hT]
    refine ih f (e + 1) w1 (by omega) (by omega) h1 r1 (fun d hd g hg => ?_)
    by_cases z : d = e
    · subst z; exact k1 g hg
    · rw [k2 _ (by omega)]
      exact h66 d (by omega) g hg
end TU
