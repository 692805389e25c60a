/-! ===== pure: waiting, the reference's ===== -/
def ix (t g s : Nat) : Nat := 6 * (64 * t + g) + s
section TU
variable {N : Nat} {w : aw_W} {n : Nat} {lw it b : Nat → Int}
theorem ix1 {t g : Nat} (ht : t ≤ 60) (hg : g < 64) : aw_w (aw_w (64 * (t : Int)) + (g : Int)) = ((64 * t + g : Nat) : Int) := by
  rw [ww (x := 64 * (t : Int)) (by omega) (by omega), ww (by omega) (by omega)]
  omega
theorem ix2 {t g s : Nat} (ht : t ≤ 60) (hg : g < 64) (hs : s < 6) : aw_w (aw_w (6 * aw_w (aw_w (64 * (t : Int)) + (g : Int))) + (s : Int)) = ((ix t g s : Nat) : Int) := by
  rw [ix1 ht hg, ww (x := 6 * ((64 * t + g : Nat) : Int)) (by omega) (by omega), ww (by omega) (by omega)]
  unfold ix
  omega
theorem ix_lt {t g s : Nat} (ht : t ≤ 60) (hg : g < 64) (hs : s < 6) : ix t g s < 23424 := by unfold ix; omega
theorem M_hasAt {t g s : Nat} (ht : t ≤ 60) (hg : g < 64) (hs : s < 6) : m_hasAt N t g s w = some (w 65 (ix t g s), w) := by
  have := ix_lt ht hg hs
  rw [m_hasAt, ix2 ht hg hs, if_pos ⟨by omega, by omega⟩, Int.toNat_natCast]
def rd65 (w : aw_W) (n T : Nat) (lw it : Nat → Int) (fee : Int) (e : Nat) : Prop := ∀ g, g < 2 ^ n → ∀ s, s < n → w 65 (ix (T - e) g s) = VV n T (lw 0) (wtn n it) fee e g s
/-- the values of a set at a turn -/
theorem mlt_s (hn : n ≠ 0) {T e : Nat} (hT : T ≤ 60) (he : e < T) {fee : Int} {g : Nat} (hg : g < 2 ^ n) (k2 : Int → Int → Int → aw_W → Option aw_W) (k9 : Int → Int → Int → Int → aw_W → Option aw_W) : ∀ (f s : Nat) (w : aw_W), n - s < f → s ≤ n → ML w n lw it → rd65 w n T lw it fee e → (∀ s', s' < s → w 65 (ix (T - (e + 1)) g s') = VV n T (lw 0) (wtn n it) fee (e + 1) g s') → ∃ w', m_layTurns_127 N k2 k9 f T fee ((T - (e + 1) : Nat) : Int) g (wm n T e) (vgo n T (lw 0) (wtn n it) fee e g) (b2i (VG n T (lw 0) (wtn n it) fee e g)) s w = m_layTurns_212 N k2 k9 T fee ((T - (e + 1) : Nat) : Int) g w' ∧ ML w' n lw it ∧ (∀ s', s' < n → w' 65 (ix (T - (e + 1)) g s') = VV n T (lw 0) (wtn n it) fee (e + 1) g s') ∧ (∀ k, (k < ix (T - (e + 1)) g 0 ∨ ix (T - (e + 1)) g 6 ≤ k) → w' 65 k = w 65 k) ∧ (∀ k, w' 66 k = w 66 k) := by
  intro f
  induction f with
  | zero => intro s w hf; omega
  | succ f ih =>
    intro s w hf hs h hrd hdo
    have hn6 := h.2.1
    have pn := pow_n n hn6
    have hwm := wm_lt (n := n) (T := T) (by omega) e
    obtain ⟨o1, o2⟩ := bt_orn hn6 hg hwm
    have eT : T - e = T - (e + 1) + 1 := by omega
    rw [m_layTurns_127, h.1]
    by_cases c : (n : Int) ≤ (s : Int)
    · have : s = n := by omega
      subst this
      rw [if_pos c]
      exact ⟨w, rfl, h, hdo, fun _ _ => rfl, fun _ => rfl⟩
    · have hsn : s < n := by omega
      have hil := ix_lt (t := T - (e + 1)) (g := g) (s := s) (by omega) (by omega) (by omega)
      rw [if_neg c, if_neg (by omega), ix2 (t := T - (e + 1)) (by omega) (by omega) (by omega)]
      -- writing the value
      have put : ∀ v : Int, v = VV n T (lw 0) (wtn n it) fee (e + 1) g s → ∃ w', m_layTurns_205 N k2 k9 (m_layTurns_127 N k2 k9 f) T fee ((T - (e + 1) : Nat) : Int) g (wm n T e) (vgo n T (lw 0) (wtn n it) fee e g) (b2i (VG n T (lw 0) (wtn n it) fee e g)) s v ((ix (T - (e + 1)) g s : Nat) : Int) w = m_layTurns_212 N k2 k9 T fee ((T - (e + 1) : Nat) : Int) g w' ∧ ML w' n lw it ∧ (∀ s', s' < n → w' 65 (ix (T - (e + 1)) g s') = VV n T (lw 0) (wtn n it) fee (e + 1) g s') ∧ (∀ k, (k < ix (T - (e + 1)) g 0 ∨ ix (T - (e + 1)) g 6 ≤ k) → w' 65 k = w 65 k) ∧ (∀ k, w' 66 k = w 66 k) := by
        intro v hv
        rw [m_layTurns_205, if_pos ⟨by omega, by omega⟩, Int.toNat_natCast, ww1 (by omega)]
        obtain ⟨w', p1, p2, p3, p4, p5⟩ := ih (s + 1) (aw_up w 65 (ix (T - (e + 1)) g s) v) (by omega) (by omega) (h.fr (S := [(65, 1000000)]) ((fr_r _ w).upA rfl) rfl) (fun g' hg' s' hs' => by
          have hne : ix (T - e) g' s' ≠ ix (T - (e + 1)) g s := by unfold ix; omega
          simp [aw_up, hne]
          exact hrd g' hg' s' hs') (fun s' hs' => by
          by_cases z : s' = s
          · subst z; simp [aw_up]; exact hv
          · have hne : ix (T - (e + 1)) g s' ≠ ix (T - (e + 1)) g s := by unfold ix; omega
            simp [aw_up, hne]
            exact hdo s' (by omega))
        refine ⟨w', p1, p2, p3, fun k hk => ?_, fun k => by rw [p5]; simp [aw_up]⟩
        rw [p4 k hk]
        have hne : k ≠ ix (T - (e + 1)) g s := by unfold ix at hk ⊢; omega
        simp [aw_up, hne]
      have e1 : aw_w (((T - (e + 1) : Nat) : Int) + 1) = ((T - e : Nat) : Int) := by rw [ww (by omega) (by omega)]; omega
      cases hq : VG n T (lw 0) (wtn n it) fee e g with
      | false =>
        rw [hq] at put
        have ev : VV n T (lw 0) (wtn n it) fee (e + 1) g s = VV n T (lw 0) (wtn n it) fee e g s := by rw [VV_s, hq, if_neg (by simp)]
        rw [if_pos (by rfl), m_layTurns_179, if_pos (by rfl), m_layTurns_200, e1, M_hasAt (by omega) (by omega) (by omega), b2_some]
        exact put _ (by rw [ev]; exact hrd g hg s hsn)
      | true =>
        rw [hq] at put
        rw [if_neg (by decide)]
        by_cases em : s = wm n T e
        · have ev : VV n T (lw 0) (wtn n it) fee (e + 1) g s = vgo n T (lw 0) (wtn n it) fee e g := by rw [VV_s, hq, if_pos rfl, if_pos em]
          rw [if_pos (by omega)]
          exact put _ ev.symm
        · have ev : VV n T (lw 0) (wtn n it) fee (e + 1) g s = VV n T (lw 0) (wtn n it) fee e (g ||| 2 ^ wm n T e) s := by rw [VV_s, hq, if_pos rfl, if_neg em]
          rw [if_neg (by omega), m_layTurns_179, if_neg (by decide), m_layTurns_200, e1, o1, M_hasAt (by omega) (by omega) (by omega), b2_some]
          exact put _ (by rw [ev]; exact hrd _ o2 s hsn)
theorem mlt_0 {T : Nat} (hT : T ≤ 60) {fee x5 x6 x7 : Int} {g : Nat} (hg : g < 64) (k2 : Int → Int → Int → aw_W → Option aw_W) (k9 : Int → Int → Int → Int → aw_W → Option aw_W) : ∀ (f s : Nat) (w : aw_W), n - s < f → s ≤ n → ML w n lw it → (∀ s', s' < s → w 65 (ix T g s') = 0) → ∃ w', m_layTurns_127 N k2 k9 f T fee T g x5 x6 x7 s w = m_layTurns_212 N k2 k9 T fee T g w' ∧ ML w' n lw it ∧ (∀ s', s' < n → w' 65 (ix T g s') = 0) ∧ (∀ k, (k < ix T g 0 ∨ ix T g 6 ≤ k) → w' 65 k = w 65 k) := by
  intro f
  induction f with
  | zero => intro s w hf; omega
  | succ f ih =>
    intro s w hf hs h hdo
    have hn6 := h.2.1
    rw [m_layTurns_127, h.1]
    by_cases c : (n : Int) ≤ (s : Int)
    · have : s = n := by omega
      subst this
      rw [if_pos c]
      exact ⟨w, rfl, h, hdo, fun _ _ => rfl⟩
    · have hil := ix_lt (t := T) (g := g) (s := s) (by omega) (by omega) (by omega)
      rw [if_neg c, if_pos rfl, ix2 (t := T) (by omega) (by omega) (by omega), m_layTurns_205, if_pos ⟨by omega, by omega⟩, Int.toNat_natCast, ww1 (by omega)]
      obtain ⟨w', p1, p2, p3, p4⟩ := ih (s + 1) (aw_up w 65 (ix T g s) 0) (by omega) (by omega) (h.fr (S := [(65, 1000000)]) ((fr_r _ w).upA rfl) rfl) (fun s' hs' => by
        by_cases z : s' = s
        · subst z; simp [aw_up]
        · have hne : ix T g s' ≠ ix T g s := by unfold ix; omega
          simp [aw_up, hne]
          exact hdo s' (by omega))
      refine ⟨w', p1, p2, p3, fun k hk => ?_⟩
      rw [p4 k hk]
      have hne : k ≠ ix T g s := by unfold ix at hk ⊢; omega
      simp [aw_up, hne]
theorem vgo_bd (hI : IB it n) {T e g : Nat} {fee : Int} (hfee : -99 ≤ fee ∧ fee ≤ 99) : -99 ≤ vgo n T (lw 0) (wtn n it) fee e g ∧ vgo n T (lw 0) (wtn n it) fee e g ≤ 198 := by
  unfold vgo
  have h0 := wtn_0 hI (wm n T e)
  have h9 := wtn_9 hI (wm n T e)
  split <;> split <;> omega
/-- all sets at the last turn -/
theorem mlg_0 (hN : 100 ≤ N) (hn : n ≠ 0) {T : Nat} (hT : T ≤ 60) {fee : Int} (hfee : -99 ≤ fee ∧ fee ≤ 99) (k2 : Int → Int → Int → aw_W → Option aw_W) : ∀ (f g : Nat) (w : aw_W), 2 ^ n - g < f → g ≤ 2 ^ n → ML w n lw it → (∀ g', g' < g → ∀ s, s < n → w 65 (ix T g' s) = 0) → ∃ w', m_layTurns_9 N k2 f T fee T g w = m_layTurns_218 N k2 T fee T w' ∧ ML w' n lw it ∧ (∀ g', g' < 2 ^ n → ∀ s, s < n → w' 65 (ix T g' s) = 0) := by
  intro f
  induction f with
  | zero => intro g w hf; omega
  | succ f ih =>
    intro g w hf hg h hdo
    have hn6 := h.2.1
    have pn := pow_n n hn6
    rw [m_layTurns_9, h.1, pn.1]
    by_cases c : ((2 ^ n : Nat) : Int) ≤ (g : Int)
    · have : g = 2 ^ n := by omega
      subst this
      rw [if_pos c]
      exact ⟨w, rfl, h, hdo⟩
    · have hg2 : g < 2 ^ n := by omega
      -- whatever go is
      have core : ∀ x5 s0 s1 : Int, ∃ w', m_layTurns_69 N k2 (m_layTurns_9 N k2 f) T fee T g x5 s0 s1 w = m_layTurns_218 N k2 T fee T w' ∧ ML w' n lw it ∧ (∀ g', g' < 2 ^ n → ∀ s, s < n → w' 65 (ix T g' s) = 0) := by
        intro x5 s0 s1
        have e66 : aw_w (aw_w (64 * (T : Int)) + (g : Int)) = ((64 * T + g : Nat) : Int) := ix1 hT (by omega)
        rw [m_layTurns_69, if_pos (Int.le_refl _), m_layTurns_107, m_layTurns_108, e66, if_pos ⟨by omega, by omega⟩, if_pos (Or.inl rfl), Int.toNat_natCast]
        obtain ⟨w1, e1, h1, d1, o1⟩ := mlt_0 (N := N) (fee := fee) (x5 := x5) (x6 := aw_w (s1 - s0)) (x7 := 0) hT (show g < 64 by omega) k2 (m_layTurns_9 N k2 f) N 0 (aw_up w 66 (64 * T + g) 0) (by omega) (Nat.zero_le _) (h.fr (S := [(66, 1000000)]) ((fr_r _ w).upA rfl) rfl) (fun s' hs' => absurd hs' (Nat.not_lt_zero s'))
        have e1' : m_layTurns_127 N k2 (m_layTurns_9 N k2 f) N T fee T g x5 (aw_w (s1 - s0)) 0 0 (aw_up w 66 (64 * T + g) 0) = m_layTurns_212 N k2 (m_layTurns_9 N k2 f) T fee T g w1 := e1
        rw [e1', m_layTurns_212, ww1 (by omega)]
        refine ih (g + 1) w1 (by omega) (by omega) h1 (fun g' hg' s hs => ?_)
        by_cases z : g' = g
        · subst z; exact d1 s hs
        · rw [o1 _ (by unfold ix; omega)]
          simp [aw_up]
          exact hdo g' (by omega) s hs
      have m59 : ∀ x5 s0 : Int, ∃ w', m_layTurns_59 N k2 (m_layTurns_9 N k2 f) T fee T g x5 s0 w = m_layTurns_218 N k2 T fee T w' ∧ ML w' n lw it ∧ (∀ g', g' < 2 ^ n → ∀ s, s < n → w' 65 (ix T g' s) = 0) := by
        intro x5 s0
        rw [m_layTurns_59]
        by_cases z : (g : Int) = 0
        · rw [if_pos z]; exact core _ _ _
        · rw [if_neg z]; exact core _ _ _
      rw [if_neg c, if_pos (by omega), bc_ok N (by omega) w, b2_some]
      have htm : aw_w (Int.tmod (T : Int) (n : Int)) = ((T % n : Nat) : Int) := by
        rw [tmn]
        have := Nat.mod_lt T (show 0 < n by omega)
        exact ww (by omega) (by omega)
      have hml := Nat.mod_lt T (show 0 < n by omega)
      have hw4 : aw_w (aw_w (4 * ((T % n : Nat) : Int)) + 1) = ((4 * (T % n) + 1 : Nat) : Int) := w4 (k := 1) (by omega) (by decide)
      rw [htm, hw4]
      by_cases z : aw_w (pop g + 1) = w 56 0
      · rw [if_pos z, if_pos ⟨by omega, by omega⟩]; exact m59 _ _
      · rw [if_neg z]; exact m59 _ _
/-- all sets at an earlier turn -/
theorem mlg_s (hN : 100 ≤ N) (hn : n ≠ 0) {T e : Nat} (hT : T ≤ 60) (he : e < T) {fee : Int} (hfee : -99 ≤ fee ∧ fee ≤ 99) (k2 : Int → Int → Int → aw_W → Option aw_W) : ∀ (f g : Nat) (w : aw_W), 2 ^ n - g < f → g ≤ 2 ^ n → ML w n lw it → rd65 w n T lw it fee e → (∀ g', g' < g → ∀ s, s < n → w 65 (ix (T - (e + 1)) g' s) = VV n T (lw 0) (wtn n it) fee (e + 1) g' s) → (∀ g', g' < g → w 66 (64 * (T - (e + 1)) + g') = b2i (VG n T (lw 0) (wtn n it) fee e g')) → ∃ w', m_layTurns_9 N k2 f T fee ((T - (e + 1) : Nat) : Int) g w = m_layTurns_218 N k2 T fee ((T - (e + 1) : Nat) : Int) w' ∧ ML w' n lw it ∧ rd65 w' n T lw it fee (e + 1) ∧ (∀ g', g' < 2 ^ n → w' 66 (64 * (T - (e + 1)) + g') = b2i (VG n T (lw 0) (wtn n it) fee e g')) ∧ (∀ k, 64 * (T - (e + 1)) + 64 ≤ k → w' 66 k = w 66 k) := by
  intro f
  induction f with
  | zero => intro g w hf; omega
  | succ f ih =>
    intro g w hf hg h hrd hdo h66
    have hn6 := h.2.1
    have pn := pow_n n hn6
    obtain ⟨hL, hI⟩ := h.2.2.2.2.2 hn
    have hwm := wm_lt (n := n) (T := T) (by omega) e
    rw [m_layTurns_9, h.1, pn.1]
    by_cases c : ((2 ^ n : Nat) : Int) ≤ (g : Int)
    · have : g = 2 ^ n := by omega
      subst this
      rw [if_pos c]
      exact ⟨w, rfl, h, hdo, h66, fun _ _ => rfl⟩
    · have hg2 : g < 2 ^ n := by omega
      have hgo := vgo_bd (lw := lw) (T := T) (e := e) (g := g) hI hfee
      have e1 : aw_w (((T - (e + 1) : Nat) : Int) + 1) = ((T - e : Nat) : Int) := by rw [ww (by omega) (by omega)]; omega
      have e66 : aw_w (aw_w (64 * ((T - (e + 1) : Nat) : Int)) + (g : Int)) = ((64 * (T - (e + 1)) + g : Nat) : Int) := ix1 (by omega) (by omega)
      have fin : m_layTurns_108 N k2 (m_layTurns_9 N k2 f) T fee ((T - (e + 1) : Nat) : Int) g (wm n T e) (vgo n T (lw 0) (wtn n it) fee e g) (b2i (VG n T (lw 0) (wtn n it) fee e g)) w = m_layTurns_108 N k2 (m_layTurns_9 N k2 f) T fee ((T - (e + 1) : Nat) : Int) g (wm n T e) (vgo n T (lw 0) (wtn n it) fee e g) (b2i (VG n T (lw 0) (wtn n it) fee e g)) w ∧ ∃ w', m_layTurns_108 N k2 (m_layTurns_9 N k2 f) T fee ((T - (e + 1) : Nat) : Int) g (wm n T e) (vgo n T (lw 0) (wtn n it) fee e g) (b2i (VG n T (lw 0) (wtn n it) fee e g)) w = m_layTurns_218 N k2 T fee ((T - (e + 1) : Nat) : Int) w' ∧ ML w' n lw it ∧ rd65 w' n T lw it fee (e + 1) ∧ (∀ g', g' < 2 ^ n → w' 66 (64 * (T - (e + 1)) + g') = b2i (VG n T (lw 0) (wtn n it) fee e g')) ∧ (∀ k, 64 * (T - (e + 1)) + 64 ≤ k → w' 66 k = w 66 k) := by
        refine ⟨rfl, ?_⟩
        rw [m_layTurns_108, e66, if_pos ⟨by omega, by omega⟩, if_pos (by cases VG n T (lw 0) (wtn n it) fee e g; exact Or.inl rfl; exact Or.inr rfl), Int.toNat_natCast]
        obtain ⟨w1, p1, p2, p3, p4, p5⟩ := mlt_s (N := N) hn hT he (fee := fee) hg2 k2 (m_layTurns_9 N k2 f) N 0 (aw_up w 66 (64 * (T - (e + 1)) + g) (b2i (VG n T (lw 0) (wtn n it) fee e g))) (by omega) (Nat.zero_le _) (h.fr (S := [(66, 1000000)]) ((fr_r _ w).upA rfl) rfl) (fun g' hg' s' hs' => by simp [aw_up]; exact hrd g' hg' s' hs') (fun s' hs' => absurd hs' (Nat.not_lt_zero s'))
        have p1' : m_layTurns_127 N k2 (m_layTurns_9 N k2 f) N T fee ((T - (e + 1) : Nat) : Int) g (wm n T e) (vgo n T (lw 0) (wtn n it) fee e g) (b2i (VG n T (lw 0) (wtn n it) fee e g)) 0 (aw_up w 66 (64 * (T - (e + 1)) + g) (b2i (VG n T (lw 0) (wtn n it) fee e g))) = m_layTurns_212 N k2 (m_layTurns_9 N k2 f) T fee ((T - (e + 1) : Nat) : Int) g w1 := p1
        rw [p1', m_layTurns_212, ww1 (by omega)]
        obtain ⟨w2, q1, q2, q3, q4, q5⟩ := ih (g + 1) w1 (by omega) (by omega) p2 (fun g' hg' s' hs' => by
          rw [p4 _ (by unfold ix; omega)]
          simp [aw_up]
          exact hrd g' hg' s' hs') (fun g' hg' s' hs' => by
          by_cases z : g' = g
          · subst z; exact p3 s' hs'
          · rw [p4 _ (by unfold ix; omega)]
            simp [aw_up]
            exact hdo g' (by omega) s' hs') (fun g' hg' => by
          rw [p5]
          by_cases z : g' = g
          · subst z; simp [aw_up]
          · have hne : 64 * (T - (e + 1)) + g' ≠ 64 * (T - (e + 1)) + g := by omega
            simp only [aw_up, hne, and_false, if_false]
            exact h66 g' (by omega))
        refine ⟨w2, q1, q2, q3, q4, fun k hk => ?_⟩
        rw [q5 k hk, p5]
        have hne : k ≠ 64 * (T - (e + 1)) + g := by omega
        simp [aw_up, hne]
      -- is it?
      have m69 : ∀ s0 s1 : Int, s1 = (if pp n g + 1 = lw 0 then wtn n it (wm n T e) else 0) → s0 = (if g = 0 then fee else 0) → ∃ w', m_layTurns_69 N k2 (m_layTurns_9 N k2 f) T fee ((T - (e + 1) : Nat) : Int) g (wm n T e) s0 s1 w = m_layTurns_218 N k2 T fee ((T - (e + 1) : Nat) : Int) w' ∧ ML w' n lw it ∧ rd65 w' n T lw it fee (e + 1) ∧ (∀ g', g' < 2 ^ n → w' 66 (64 * (T - (e + 1)) + g') = b2i (VG n T (lw 0) (wtn n it) fee e g')) ∧ (∀ k, 64 * (T - (e + 1)) + 64 ≤ k → w' 66 k = w 66 k) := by
        intro s0 s1 q1 q0
        have eg : s1 - s0 = vgo n T (lw 0) (wtn n it) fee e g := by unfold vgo; rw [q1, q0]
        rw [m_layTurns_69, if_neg (by omega), eg, ww (x := vgo n T (lw 0) (wtn n it) fee e g) (by omega) (by omega), m_has_ok (by omega) (by omega), b2_some]
        have eV : VG n T (lw 0) (wtn n it) fee e g = (!(g.testBit (wm n T e)) && decide (VV n T (lw 0) (wtn n it) fee e g (wm n T e) < vgo n T (lw 0) (wtn n it) fee e g)) := rfl
        cases hb : g.testBit (wm n T e) with
        | true =>
          have eq : VG n T (lw 0) (wtn n it) fee e g = false := by rw [eV, hb]; rfl
          rw [eq] at fin
          rw [if_neg (by decide), m_layTurns_107]
          exact fin.2
        | false =>
          rw [if_pos (by rfl), e1, M_hasAt (by omega) (by omega) (by omega), b2_some, hrd g hg2 _ hwm]
          by_cases cc : vgo n T (lw 0) (wtn n it) fee e g ≤ VV n T (lw 0) (wtn n it) fee e g (wm n T e)
          · have eq : VG n T (lw 0) (wtn n it) fee e g = false := by rw [eV, hb, decide_eq_false (by omega)]; rfl
            rw [eq] at fin
            rw [if_pos cc, m_layTurns_107]
            exact fin.2
          · have eq : VG n T (lw 0) (wtn n it) fee e g = true := by rw [eV, hb, decide_eq_true (by omega)]; rfl
            rw [eq] at fin
            rw [if_neg cc]
            exact fin.2
      have m59 : ∀ s0 : Int, s0 = (if pp n g + 1 = lw 0 then wtn n it (wm n T e) else 0) → ∃ w', m_layTurns_59 N k2 (m_layTurns_9 N k2 f) T fee ((T - (e + 1) : Nat) : Int) g (wm n T e) s0 w = m_layTurns_218 N k2 T fee ((T - (e + 1) : Nat) : Int) w' ∧ ML w' n lw it ∧ rd65 w' n T lw it fee (e + 1) ∧ (∀ g', g' < 2 ^ n → w' 66 (64 * (T - (e + 1)) + g') = b2i (VG n T (lw 0) (wtn n it) fee e g')) ∧ (∀ k, 64 * (T - (e + 1)) + 64 ≤ k → w' 66 k = w 66 k) := by
        intro s0 q0
        rw [m_layTurns_59]
        by_cases z : g = 0
        · rw [if_pos (by omega)]; exact m69 _ _ q0 (by rw [if_pos z])
        · rw [if_neg (by omega)]; exact m69 _ _ q0 (by rw [if_neg z])
      have hw4 : aw_w (aw_w (4 * ((wm n T e : Nat) : Int)) + 1) = ((4 * (wm n T e) + 1 : Nat) : Int) := w4 (k := 1) (by omega) (by decide)
      have hpp : 0 ≤ pp n g ∧ pp n g ≤ 6 := by unfold pp; have := ct_le g.testBit n; omega
      rw [if_neg c, if_pos (by omega), bc_ok N (by omega) w, b2_some, pop_pp hn6 hg2, wmw hT he (by omega) hn6, hw4, h.2.2.2.1 0 (by decide), ww (x := pp n g + 1) (by omega) (by omega)]
      by_cases z : pp n g + 1 = lw 0
      · rw [if_pos z, if_pos ⟨by omega, by omega⟩, Int.toNat_natCast, h.2.2.2.2.1 _ (by omega)]
        exact m59 _ (by rw [if_pos z]; unfold wtn; rw [if_pos hwm])
      · rw [if_neg z]
        exact m59 _ (by rw [if_neg z])
theorem mlo_l (hN : 100 ≤ N) (hn : n ≠ 0) {T : Nat} (hT : T ≤ 60) {fee : Int} (hfee : -99 ≤ fee ∧ fee ≤ 99) : ∀ (m f e : Nat) (w : aw_W), m < f → e + m = T → ML w n lw it → rd65 w n T lw it fee e → (∀ d, d < e → ∀ g, g < 2 ^ n → w 66 (64 * (T - (d + 1)) + g) = b2i (VG n T (lw 0) (wtn n it) fee d g)) → ∃ w', m_layTurns_2 N f T fee ((T : Int) - ((e + 1 : Nat) : Int)) w = m_layTurns_224 N T w' ∧ ML w' n lw it ∧ (∀ d, d < T → ∀ g, g < 2 ^ n → w' 66 (64 * (T - (d + 1)) + g) = b2i (VG n T (lw 0) (wtn n it) fee d g)) := by
  intro m
  induction m with
  | zero =>
    intro f e w hf he h hrd h66
    obtain ⟨f, rfl⟩ : ∃ g, f = g + 1 := ⟨f - 1, by omega⟩
    have : e = T := by omega
    subst this
    rw [m_layTurns_2, if_pos (by omega)]
    exact ⟨w, rfl, h, h66⟩
  | succ m ih =>
    intro f e w hf he h hrd h66
    obtain ⟨f, rfl⟩ : ∃ g, f = g + 1 := ⟨f - 1, by omega⟩
    have pn := pow_n n h.2.1
    have et : (T : Int) - ((e + 1 : Nat) : Int) = ((T - (e + 1) : Nat) : Int) := by omega
    obtain ⟨w1, e1, h1, r1, k1, k2⟩ := mlg_s (N := N) hN hn hT (show e < T by omega) hfee (m_layTurns_2 N f) N 0 w (by omega) (Nat.zero_le _) h hrd (fun g hg => absurd hg (Nat.not_lt_zero g)) (fun g hg => absurd hg (Nat.not_lt_zero g))
    have e1' : m_layTurns_9 N (m_layTurns_2 N f) N T fee ((T - (e + 1) : Nat) : Int) 0 w = m_layTurns_218 N (m_layTurns_2 N f) T fee ((T - (e + 1) : Nat) : Int) w1 := e1
    have ed : aw_w (((T - (e + 1) : Nat) : Int) + (-1)) = (T : Int) - ((e + 1 + 1 : Nat) : Int) := by rw [ww (by omega) (by omega)]; omega
    rw [et, m_layTurns_2, if_neg (by omega), e1', m_layTurns_218, ed]
    refine ih f (e + 1) w1 (by omega) (by omega) h1 r1 (fun d hd g hg => ?_)
    by_cases z : d = e
    · subst z; exact k1 g hg
    · rw [k2 _ (by omega)]
      exact h66 d (by omega) g hg
theorem m229_l {T : Int} : ∀ (m f i : Nat) (w : aw_W), m < f → i + m = 6 → ML w n lw it → (∀ s, s < i → w 67 s = -1) → ∃ w', m_layTurns_229 N f T 0 i w = m_layTurns_250 N T 0 w' ∧ ML w' n lw it ∧ (∀ s, s < 6 → w' 67 s = -1) ∧ (∀ k, w' 66 k = w 66 k) := by
  intro m
  induction m with
  | zero =>
    intro f i w hf hi h hz
    obtain ⟨f, rfl⟩ : ∃ g, f = g + 1 := ⟨f - 1, by omega⟩
    rw [m_layTurns_229, if_pos (by omega)]
    exact ⟨w, rfl, h, fun k hk => hz k (by omega), fun _ => rfl⟩
  | succ m ih =>
    intro f i w hf hi h hz
    obtain ⟨f, rfl⟩ : ∃ g, f = g + 1 := ⟨f - 1, by omega⟩
    rw [m_layTurns_229, if_neg (by omega), if_pos ⟨by omega, by omega⟩, ww1 (by omega), Int.toNat_natCast]
    obtain ⟨w', p1, p2, p3, p4⟩ := ih f (i + 1) (aw_up w 67 i (-1)) (by omega) (by omega) (h.fr (S := [(67, 1000000)]) ((fr_r _ w).upA rfl) rfl) (fun k hk => by
      by_cases e : k = i
      · subst e; simp [aw_up]
      · simp [aw_up, e]; exact hz k (by omega))
    exact ⟨w', p1, p2, p3, fun k => by rw [p4]; simp [aw_up]⟩
theorem m253_l (hn : n ≠ 0) {T : Nat} (hT : T ≤ 60) {fee : Int} : ∀ (k f g : Nat) (w : aw_W), k < f → k ≤ T → g < 2 ^ n → ML w n lw it → (∀ d, d < T → ∀ g, g < 2 ^ n → w 66 (64 * (T - (d + 1)) + g) = b2i (VG n T (lw 0) (wtn n it) fee d g)) → (∀ s, s < n → g.testBit s = false → w 67 s = -1) → ∃ w', m_layTurns_253 N f T g ((T - k : Nat) : Int) w = some w' ∧ ML w' n lw it ∧ (∀ s, s < n → w' 67 s = if g.testBit s = true then w 67 s else fw n T (lw 0) (wtn n it) fee s k g) := by
  intro k
  induction k with
  | zero =>
    intro f g w hf hk hg h h66 h67
    obtain ⟨f, rfl⟩ : ∃ g, f = g + 1 := ⟨f - 1, by omega⟩
    rw [m_layTurns_253, if_pos (by omega)]
    refine ⟨w, rfl, h, fun s hs => ?_⟩
    by_cases c : g.testBit s = true
    · rw [if_pos c]
    · rw [if_neg c]
      exact h67 s hs (by simpa using c)
  | succ k ih =>
    intro f g w hf hk hg h h66 h67
    obtain ⟨f, rfl⟩ : ∃ g, f = g + 1 := ⟨f - 1, by omega⟩
    have hn6 := h.2.1
    have pn := pow_n n hn6
    obtain ⟨hL, hI⟩ := h.2.2.2.2.2 hn
    have hwm := wm_lt (n := n) (T := T) (by omega) k
    obtain ⟨o1, o2⟩ := bt_orn hn6 hg hwm
    have e1 : aw_w (((T - (k + 1) : Nat) : Int) + 1) = ((T - k : Nat) : Int) := by rw [ww (by omega) (by omega)]; omega
    have e66 : aw_w (aw_w (64 * ((T - (k + 1) : Nat) : Int)) + (g : Int)) = ((64 * (T - (k + 1)) + g : Nat) : Int) := ix1 (by omega) (by omega)
    rw [m_layTurns_253, if_neg (by omega), e66, if_pos ⟨by omega, by omega⟩, Int.toNat_natCast, h66 k (by omega) g hg, VG_GG (by omega) (wtn_0 hI) hL.1.1]
    cases hq : GG n T (lw 0) (wtn n it) fee k g with
    | false =>
      rw [if_pos (by rfl), m_layTurns_303, e1]
      obtain ⟨w', p1, p2, p3⟩ := ih f g w (by omega) (by omega) hg h h66 h67
      refine ⟨w', p1, p2, fun s hs => ?_⟩
      rw [p3 s hs, fw_s, hq, if_neg (c := false = true) (by simp)]
    | true =>
      have hnot := GG_not (wtn_0 hI) hq
      rw [if_neg (by decide), h.1, if_pos (by omega), wmw hT (by omega) (by omega) hn6, if_pos ⟨by omega, by omega⟩, if_pos (by omega), m_layTurns_303, e1, Int.toNat_natCast, o1]
      obtain ⟨w', p1, p2, p3⟩ := ih f (g ||| 2 ^ wm n T k) (aw_up w 67 (wm n T k) ((T - (k + 1) : Nat) : Int)) (by omega) (by omega) o2 (h.fr (S := [(67, 1000000)]) ((fr_r _ w).upA rfl) rfl) (fun d hd g hg => by simp [aw_up]; exact h66 d hd g hg) (fun s hs hb => by
        rw [or_bit, Bool.or_eq_false_iff] at hb
        have hne : s ≠ wm n T k := by simpa using hb.2
        simp [aw_up, hne]
        exact h67 s hs hb.1)
      refine ⟨w', p1, p2, fun s hs => ?_⟩
      rw [p3 s hs, or_bit, fw_s, hq, if_pos (c := true = true) rfl]
      by_cases e : s = wm n T k
      · subst e
        rw [hnot]
        simp [aw_up]
      · have z : (s == wm n T k) = false := by simpa using e
        rw [z, Bool.or_false, if_neg (c := wm n T k = s) (fun q => e q.symm)]
        simp [aw_up, e]
theorem M_layTurns (hN : 1000 ≤ N) (h : ML w n lw it) (hn : n ≠ 0) {T : Nat} (hT1 : 1 ≤ T) (hT : T ≤ 60) {fee : Int} (hfee : -99 ≤ fee ∧ fee ≤ 99) : ∃ w', m_layTurns N T fee w = some w' ∧ ML w' n lw it ∧ (∀ s, s < n → w' 67 s = fw n T (lw 0) (wtn n it) fee s T 0) := by
  have pn := pow_n n h.2.1
  obtain ⟨f, rfl⟩ : ∃ g, N = g + 1 := ⟨N - 1, by omega⟩
  obtain ⟨w1, e1, h1, d1⟩ := mlg_0 (N := f + 1) (by omega) hn hT hfee (m_layTurns_2 (f + 1) f) (f + 1) 0 w (by omega) (Nat.zero_le _) h (fun g hg => absurd hg (Nat.not_lt_zero g))
  have e1' : m_layTurns_9 (f + 1) (m_layTurns_2 (f + 1) f) (f + 1) T fee T 0 w = m_layTurns_218 (f + 1) (m_layTurns_2 (f + 1) f) T fee T w1 := e1
  have ed : aw_w ((T : Int) + (-1)) = (T : Int) - ((0 + 1 : Nat) : Int) := by rw [ww (by omega) (by omega)]; omega
  obtain ⟨w2, e2, h2, k2⟩ := mlo_l (N := f + 1) (by omega) hn hT hfee T f 0 w1 (by omega) (by omega) h1 (fun g hg s hs => by rw [Nat.sub_zero, d1 g hg s hs]; rfl) (fun d hd => absurd hd (Nat.not_lt_zero d))
  obtain ⟨w3, e3, h3, z3, k3⟩ := m229_l (N := f + 1) (T := (T : Int)) 6 (f + 1) 0 w2 (by omega) (by omega) h2 (fun s hs => absurd hs (Nat.not_lt_zero s))
  have e3' : m_layTurns_229 (f + 1) (f + 1) T 0 0 w2 = m_layTurns_250 (f + 1) T 0 w3 := e3
  obtain ⟨w4, e4, h4, k4⟩ := m253_l (N := f + 1) hn hT (fee := fee) T (f + 1) 0 w3 (by omega) (Nat.le_refl _) (by omega) h3 (fun d hd g hg => by rw [k3]; exact k2 d hd g hg) (fun s hs _ => z3 s (by have := h.2.1; omega))
  rw [Nat.sub_self] at e4
  have e4' : m_layTurns_253 (f + 1) (f + 1) T 0 0 w3 = some w4 := e4
  refine ⟨w4, ?_, h4, fun s hs => ?_⟩
  · rw [m_layTurns, m_layTurns_2, if_neg (by omega), e1', m_layTurns_218, ed, e2, m_layTurns_224, e3', m_layTurns_250, e4']
  · rw [k4 s hs, Nat.zero_testBit, if_neg (by simp)]
theorem M_areTurns (h : ML w n lw it) {x1 : Int} : m_areTurns N x1 w = some (b2i (decide (n ≠ 0) && (decide (1 ≤ x1) && decide (x1 ≤ 60))), w) := by
  rw [m_areTurns, h.1]
  by_cases hn : n = 0
  · subst hn; rfl
  · rw [if_neg (by omega), m_isIn_ok, b2_some, decide_eq_true hn]
    cases (decide (1 ≤ x1) && decide (x1 ≤ 60)) with
    | false => rfl
    | true => rfl
theorem M_waits (hN : 1000 ≤ N) (h : ML w n lw it) {x1 x2 : Int} : ∃ w', m_waits N x1 x2 w = some (a_waits n lw it x1 x2, w') := by
  unfold a_waits
  have h0 : ML (aw_up w 49 0 0) n lw it := h.fr (S := [(49, 0)]) ((fr_r _ w).up rfl) rfl
  rw [m_waits, M_areTurns h0, b2_some]
  by_cases c1 : 1 ≤ x1 ∧ x1 ≤ 60
  · by_cases c : 0 ≤ x2 ∧ x2 < (n : Int)
    · have hn : n ≠ 0 := by omega
      have hn6 := h.2.1
      obtain ⟨T, rfl⟩ : ∃ s : Nat, x1 = s := ⟨x1.toNat, by omega⟩
      obtain ⟨s, rfl⟩ : ∃ s : Nat, x2 = s := ⟨x2.toNat, by omega⟩
      have hL := (h.2.2.2.2.2 hn).1
      obtain ⟨w1, e1, h1, k1⟩ := M_layTurns (N := N) hN h0 hn (T := T) (by omega) (by omega) (fee := lw 3) (by have := hL.2.2.2.1; omega)
      rw [decide_eq_true hn, decide_eq_true c1.1, decide_eq_true c1.2, if_neg (by decide), m_isStriver_ok, b2_some, h0.1, if_neg (fun z => b2i_and.mp z c), if_neg (c := _ ∨ _) (fun z => z.elim (fun z => z c) (fun z => z c1)), h0.2.2.2.1 3 (by decide), e1, b1_some, if_pos ⟨by omega, by omega⟩, Int.toNat_natCast, Int.toNat_natCast, k1 s (by omega)]
      exact ⟨w1, rfl⟩
    · rw [if_pos (c := ¬ (0 ≤ x2 ∧ x2 < (n : Int)) ∨ _) (Or.inl c)]
      by_cases hn : n = 0
      · rw [decide_eq_false (by simpa using hn), if_pos (by rfl)]
        exact ⟨_, rfl⟩
      · rw [decide_eq_true hn, decide_eq_true c1.1, decide_eq_true c1.2, if_neg (by decide), m_isStriver_ok, b2_some, h0.1, if_pos (b2i_and.mpr c)]
        exact ⟨_, rfl⟩
  · have z : b2i (decide (n ≠ 0) && (decide (1 ≤ x1) && decide (x1 ≤ 60))) = 0 := by
      rw [b2i_0]
      have : (decide (1 ≤ x1) && decide (x1 ≤ 60)) = false := b2i_0.mp (b2i_and.mpr c1)
      rw [this, Bool.and_false]
    rw [if_pos z, if_pos (c := ¬ (0 ≤ x2 ∧ x2 < (n : Int)) ∨ _) (Or.inr c1)]
    exact ⟨_, rfl⟩
theorem msc_l (k20 : Int → Int → aw_W → Option (Int × aw_W)) {x1 x2 : Int} (h : ML w n lw it) {q : Nat → Bool} (hq : ∀ s, s < n → (w 67 s = -1 ↔ q s = false)) : ∀ (f i : Nat), n - i < f → i ≤ n → m_spur_37 N k20 f x1 x2 (ct q i) i w = m_spur_71 N k20 x1 x2 (ct q n) w := by
  intro f
  induction f with
  | zero => intro i hf; omega
  | succ f ih =>
    intro i hf hi
    have hn6 := h.2.1
    have hcl := ct_le q i
    rw [m_spur_37, h.1]
    by_cases c : (n : Int) ≤ (i : Int)
    · have : i = n := by omega
      subst this
      rw [if_pos c]
    · have nx := ih (i + 1) (by omega) (by omega)
      rw [ct_s] at nx
      rw [if_neg c, if_pos ⟨by omega, by omega⟩, Int.toNat_natCast]
      cases e : q i with
      | false =>
        rw [e] at nx
        rw [if_pos ((hq i (by omega)).mpr e), m_spur_63, ww1 (by omega), Int.add_zero, ww (x := (ct q i : Int)) (by omega) (by omega)]
        simpa using nx
      | true =>
        rw [e, if_pos rfl] at nx
        rw [if_neg (fun z => by have := (hq i (by omega)).mp z; rw [e] at this; cases this), m_spur_63, ww1 (by omega), ww1 (by omega)]
        exact nx
theorem msp_l (hN : 1000 ≤ N) (hn : n ≠ 0) {T : Nat} (hT1 : 1 ≤ T) (hT : T ≤ 60) : ∀ (k f : Nat) (w : aw_W), k < f → k ≤ 199 → ML w n lw it → ∃ w', m_spur_20 N f T ((k : Int) - 100) w = some (spr n T (lw 0) (wtn n it) k, w') := by
  intro k
  induction k with
  | zero =>
    intro f w hf hk h
    obtain ⟨f, rfl⟩ : ∃ g, f = g + 1 := ⟨f - 1, by omega⟩
    rw [m_spur_20, if_pos (by omega)]
    exact ⟨w, rfl⟩
  | succ k ih =>
    intro f w hf hk h
    obtain ⟨f, rfl⟩ : ∃ g, f = g + 1 := ⟨f - 1, by omega⟩
    have hn6 := h.2.1
    obtain ⟨hL, hI⟩ := h.2.2.2.2.2 hn
    have ek : ((k + 1 : Nat) : Int) - 100 = (k : Int) - 99 := by omega
    obtain ⟨w1, e1, h1, k1⟩ := M_layTurns (N := N) hN h hn hT1 hT (fee := (k : Int) - 99) (by omega)
    have hz := zf_FF (n := n) (T := T) (fee := (k : Int) - 99) (by omega) (wtn_0 hI) hL.1.1 T
    have e2 := msc_l (N := N) (x1 := (T : Int)) (x2 := (k : Int) - 99) (m_spur_20 N f) h1 (q := (zf n T (lw 0) (wtn n it) ((k : Int) - 99) T 0).testBit) (fun s hs => by
      have := fw_zf (n := n) (T := T) (pl := lw 0) (wt := wtn n it) (fee := (k : Int) - 99) T 0 s (Nat.zero_testBit s)
      rw [k1 s hs]
      constructor
      · intro z
        cases e : (zf n T (lw 0) (wtn n it) ((k : Int) - 99) T 0).testBit s with
        | false => rfl
        | true => exact absurd z (this.mpr e)
      · intro z
        refine Classical.byContradiction (fun y => ?_)
        have := this.mp y
        rw [z] at this
        cases this) N 0 (by omega) (Nat.zero_le _)
    have e2' : m_spur_37 N (m_spur_20 N f) N T ((k : Int) - 99) 0 0 w1 = m_spur_71 N (m_spur_20 N f) T ((k : Int) - 99) (pp n (zf n T (lw 0) (wtn n it) ((k : Int) - 99) T 0)) w1 := e2
    rw [ek, m_spur_20, if_neg (by omega), e1, b1_some, e2', m_spur_71, h1.2.2.2.1 0 (by decide), spr_s]
    by_cases c : (FF n T (lw 0) (wtn n it) ((k : Int) - 99) T).2 = -1
    · have : ¬ lw 0 ≤ pp n (zf n T (lw 0) (wtn n it) ((k : Int) - 99) T 0) := fun z => hz.mp z c
      rw [if_pos (by omega), if_neg (by simpa using c), ww (x := (k : Int) - 99 + -1) (by omega) (by omega), show (k : Int) - 99 + -1 = (k : Int) - 100 by omega]
      exact ih f w1 (by omega) (by omega) h1
    · have := hz.mpr c
      rw [if_neg (by omega), if_pos c]
      exact ⟨w1, rfl⟩
theorem M_spur (hN : 1000 ≤ N) (h : ML w n lw it) {x1 : Int} : ∃ w', m_spur N x1 w = some (a_spur n lw it x1, w') := by
  unfold a_spur
  have h0 : ML (aw_up w 49 0 0) n lw it := h.fr (S := [(49, 0)]) ((fr_r _ w).up rfl) rfl
  rw [m_spur, M_areTurns h0, b2_some]
  by_cases hn : n = 0
  · rw [decide_eq_false (by simpa using hn), if_pos (by rfl), if_pos (Or.inl hn)]
    exact ⟨_, rfl⟩
  · by_cases c1 : 1 ≤ x1 ∧ x1 ≤ 60
    · obtain ⟨T, rfl⟩ : ∃ s : Nat, x1 = s := ⟨x1.toNat, by omega⟩
      rw [decide_eq_true hn, decide_eq_true c1.1, decide_eq_true c1.2, if_neg (by decide), if_neg (c := _ ∨ _) (fun z => z.elim hn (fun z => z c1)), Int.toNat_natCast]
      exact msp_l (N := N) hN hn (show 1 ≤ T by omega) (show T ≤ 60 by omega) 199 N _ (by omega) (Nat.le_refl _) h0
    · have z : b2i (decide (n ≠ 0) && (decide (1 ≤ x1) && decide (x1 ≤ 60))) = 0 := by
        rw [b2i_0]
        have : (decide (1 ≤ x1) && decide (x1 ≤ 60)) = false := b2i_0.mp (b2i_and.mpr c1)
        rw [this, Bool.and_false]
      rw [if_pos z, if_pos (c := _ ∨ _) (Or.inr c1)]
      exact ⟨_, rfl⟩
end TU
