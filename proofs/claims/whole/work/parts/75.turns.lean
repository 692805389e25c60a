/-! ===== pure: waiting, the reference's ===== -/
def ix (t g s : Nat) : Nat := 6 * (64 * t + g) + s
section TU
variable {N : Nat} {w : aw_W} {n : Nat} {lw it b : Nat → Int}
theorem tp1 {T e : Nat} (he : e < T) (hT : T ≤ 60) : aw_w (((T - (e + 1) : Nat) : Int) + 1) = ((T - e : Nat) : Int) := by
  rw [ww (by omega) (by omega)]
  omega
theorem w41 {a : Nat} (ha : a < 6) : aw_w (aw_w (4 * (a : Int)) + 1) = ((4 * a + 1 : Nat) : Int) := w4 (k := 1) ha (by decide)
theorem tmw {T n : Nat} (hn : 0 < n) (hT : T ≤ 60) : aw_w (Int.tmod (T : Int) (n : Int)) = ((T % n : Nat) : Int) := by
  rw [tmn]
  have := Nat.mod_le T n
  exact ww (by omega) (by omega)
theorem edw {T e : Nat} (he : e < T) (hT : T ≤ 60) : aw_w (((T - (e + 1) : Nat) : Int) + (-1)) = (T : Int) - ((e + 1 + 1 : Nat) : Int) := by
  rw [ww (by omega) (by omega)]
  omega
theorem edw0 {T : Nat} (hT : T ≤ 60) : aw_w ((T : Int) + (-1)) = (T : Int) - ((0 + 1 : Nat) : Int) := by
  rw [ww (by omega) (by omega)]
  omega
theorem ix1 {t g : Nat} (ht : t ≤ 60) (hg : g < 64) : aw_w (aw_w (64 * (t : Int)) + (g : Int)) = ((64 * t + g : Nat) : Int) := by
  rw [ww (x := 64 * (t : Int)) (by omega) (by omega), ww (by omega) (by omega)]
  omega
theorem ix2 {t g s : Nat} (ht : t ≤ 60) (hg : g < 64) (hs : s < 6) : aw_w (aw_w (6 * aw_w (aw_w (64 * (t : Int)) + (g : Int))) + (s : Int)) = ((ix t g s : Nat) : Int) := by
  rw [ix1 ht hg, ww (x := 6 * ((64 * t + g : Nat) : Int)) (by omega) (by omega), ww (by omega) (by omega)]
  unfold ix
  omega
theorem ix_lt {t g s : Nat} (ht : t ≤ 60) (hg : g < 64) (hs : s < 6) : ix t g s < 23424 := by unfold ix; omega
theorem M_hasAt {t g s : Nat} (ht : t ≤ 60) (hg : g < 64) (hs : s < 6) : m_hasAt N t g s w = some (w 65 (ix t g s), w) := by
  have := ix_lt ht hg hs
  rw [m_hasAt, ix2 ht hg hs, if_pos ⟨by omega, by omega⟩, Int.toNat_natCast]
def rd65 (w : aw_W) (n T : Nat) (lw it : Nat → Int) (fee : Int) (e : Nat) : Prop := ∀ g, g < 2 ^ n → ∀ s, s < n → w 65 (ix (T - e) g s) = VV n T (lw 0) (wtn n it) fee e g s
/-- the values of a set at a turn -/
theorem mlt_s (hn : n ≠ 0) {T e : Nat} (hT : T ≤ 60) (he : e < T) {fee : Int} {g : Nat} (hg : g < 2 ^ n) (k2 : Int → Int → Int → aw_W → Option aw_W) (k9 : Int → Int → Int → Int → aw_W → Option aw_W) : ∀ (f s : Nat) (w : aw_W), n - s < f → s ≤ n → ML w n lw it → rd65 w n T lw it fee e → (∀ s', s' < s → w 65 (ix (T - (e + 1)) g s') = VV n T (lw 0) (wtn n it) fee (e + 1) g s') → ∃ w', m_layTurns_127 N k2 k9 f T fee ((T - (e + 1) : Nat) : Int) g (wm n T e) (vgo n T (lw 0) (wtn n it) fee e g) (b2i (VG n T (lw 0) (wtn n it) fee e g)) s w = m_layTurns_212 N k2 k9 T fee ((T - (e + 1) : Nat) : Int) g w' ∧ ML w' n lw it ∧ (∀ s', s' < n → w' 65 (ix (T - (e + 1)) g s') = VV n T (lw 0) (wtn n it) fee (e + 1) g s') ∧ (∀ k, (k < ix (T - (e + 1)) g 0 ∨ ix (T - (e + 1)) g 6 ≤ k) → w' 65 k = w 65 k) ∧ (∀ k, w' 66 k = w 66 k) := by
  intro f
  induction f with
  | zero => intro s w hf; omega
  | succ f ih =>
    intro s w hf hs h hrd hdo
    have hn6 := h.2.1
    have pn := pow_n n hn6
    have hwm := wm_lt (n := n) (T := T) (by omega) e
    obtain ⟨o1, o2⟩ := bt_orn hn6 hg hwm
    have eT : T - e = T - (e + 1) + 1 := by omega
    rw [m_layTurns_127, h.1]
    by_cases c : (n : Int) ≤ (s : Int)
    · have : s = n := by omega
      subst this
      rw [if_pos c]
      exact ⟨w, rfl, h, hdo, fun _ _ => rfl, fun _ => rfl⟩
    · have hsn : s < n := by omega
      have hil := ix_lt (t := T - (e + 1)) (g := g) (s := s) (by omega) (by omega) (by omega)
      rw [if_neg c, if_neg (by omega), ix2 (t := T - (e + 1)) (by omega) (by omega) (by omega)]
      -- writing the value
      have put : ∀ v : Int, v = VV n T (lw 0) (wtn n it) fee (e + 1) g s → ∃ w', m_layTurns_205 N k2 k9 (m_layTurns_127 N k2 k9 f) T fee ((T - (e + 1) : Nat) : Int) g (wm n T e) (vgo n T (lw 0) (wtn n it) fee e g) (b2i (VG n T (lw 0) (wtn n it) fee e g)) s v ((ix (T - (e + 1)) g s : Nat) : Int) w = m_layTurns_212 N k2 k9 T fee ((T - (e + 1) : Nat) : Int) g w' ∧ ML w' n lw it ∧ (∀ s', s' < n → w' 65 (ix (T - (e + 1)) g s') = VV n T (lw 0) (wtn n it) fee (e + 1) g s') ∧ (∀ k, (k < ix (T - (e + 1)) g 0 ∨ ix (T - (e + 1)) g 6 ≤ k) → w' 65 k = w 65 k) ∧ (∀ k, w' 66 k = w 66 k) := by
        intro v hv
        rw [m_layTurns_205, if_pos ⟨by omega, by omega⟩, Int.toNat_natCast, ww1 (by omega)]
        obtain ⟨w', p1, p2, p3, p4, p5⟩ := ih (s + 1) (aw_up w 65 (ix (T - (e + 1)) g s) v) (by omega) (by omega) (h.fr (S := [(65, 1000000)]) ((fr_r _ w).upA rfl) rfl) (fun g' hg' s' hs' => by
          have hne : ix (T - e) g' s' ≠ ix (T - (e + 1)) g s := by unfold ix; omega
          simp [aw_up, hne]
          exact hrd g' hg' s' hs') (fun s' hs' => by
          by_cases z : s' = s
          · subst z; simp [aw_up]; exact hv
          · have hne : ix (T - (e + 1)) g s' ≠ ix (T - (e + 1)) g s := by unfold ix; omega
            simp [aw_up, hne]
            exact hdo s' (by omega))
        refine ⟨w', p1, p2, p3, fun k hk => ?_, fun k => by rw [p5]; simp [aw_up]⟩
        rw [p4 k hk]
        have hne : k ≠ ix (T - (e + 1)) g s := by unfold ix at hk ⊢; omega
        simp [aw_up, hne]
      cases hq : VG n T (lw 0) (wtn n it) fee e g with
      | false =>
        rw [hq] at put
        have ev : VV n T (lw 0) (wtn n it) fee (e + 1) g s = VV n T (lw 0) (wtn n it) fee e g s := by rw [VV_s, hq, if_neg (by simp)]
        rw [if_pos (by rfl), m_layTurns_179, if_pos (by rfl), m_layTurns_200, tp1 he hT, M_hasAt (by omega) (by omega) (by omega), b2_some]
        exact put _ (by rw [ev]; exact hrd g hg s hsn)
      | true =>
        rw [hq] at put
        rw [if_neg (by decide)]
        by_cases em : s = wm n T e
        · have ev : VV n T (lw 0) (wtn n it) fee (e + 1) g s = vgo n T (lw 0) (wtn n it) fee e g := by rw [VV_s, hq, if_pos rfl, if_pos em]
          rw [if_pos (by omega)]
          exact put _ ev.symm
        · have ev : VV n T (lw 0) (wtn n it) fee (e + 1) g s = VV n T (lw 0) (wtn n it) fee e (g ||| 2 ^ wm n T e) s := by rw [VV_s, hq, if_pos rfl, if_neg em]
          rw [if_neg (by omega), m_layTurns_179, if_neg (by decide), m_layTurns_200, tp1 he hT, o1, M_hasAt (by omega) (by omega) (by omega), b2_some]
          exact put _ (by rw [ev]; exact hrd _ o2 s hsn)
theorem mlt_0 {T : Nat} (hT : T ≤ 60) {fee x5 x6 x7 : Int} {g : Nat} (hg : g < 64) (k2 : Int → Int → Int → aw_W → Option aw_W) (k9 : Int → Int → Int → Int → aw_W → Option aw_W) : ∀ (f s : Nat) (w : aw_W), n - s < f → s ≤ n → ML w n lw it → (∀ s', s' < s → w 65 (ix T g s') = 0) → ∃ w', m_layTurns_127 N k2 k9 f T fee T g x5 x6 x7 s w = m_layTurns_212 N k2 k9 T fee T g w' ∧ ML w' n lw it ∧ (∀ s', s' < n → w' 65 (ix T g s') = 0) ∧ (∀ k, (k < ix T g 0 ∨ ix T g 6 ≤ k) → w' 65 k = w 65 k) := by
  intro f
  induction f with
  | zero => intro s w hf; omega
  | succ f ih =>
    intro s w hf hs h hdo
    have hn6 := h.2.1
    rw [m_layTurns_127, h.1]
    by_cases c : (n : Int) ≤ (s : Int)
    · have : s = n := by omega
      subst this
      rw [if_pos c]
      exact ⟨w, rfl, h, hdo, fun _ _ => rfl⟩
    · have hil := ix_lt (t := T) (g := g) (s := s) (by omega) (by omega) (by omega)
      rw [if_neg c, if_pos rfl, ix2 (t := T) (by omega) (by omega) (by omega), m_layTurns_205, if_pos ⟨by omega, by omega⟩, Int.toNat_natCast, ww1 (by omega)]
      obtain ⟨w', p1, p2, p3, p4⟩ := ih (s + 1) (aw_up w 65 (ix T g s) 0) (by omega) (by omega) (h.fr (S := [(65, 1000000)]) ((fr_r _ w).upA rfl) rfl) (fun s' hs' => by
        by_cases z : s' = s
        · subst z; simp [aw_up]
        · have hne : ix T g s' ≠ ix T g s := by unfold ix; omega
          simp [aw_up, hne]
          exact hdo s' (by omega))
      refine ⟨w', p1, p2, p3, fun k hk => ?_⟩
      rw [p4 k hk]
      have hne : k ≠ ix T g s := by unfold ix at hk ⊢; omega
      simp [aw_up, hne]
theorem vgo_bd (hI : IB it n) {T e g : Nat} {fee : Int} (hfee : -99 ≤ fee ∧ fee ≤ 99) : -99 ≤ vgo n T (lw 0) (wtn n it) fee e g ∧ vgo n T (lw 0) (wtn n it) fee e g ≤ 198 := by
  unfold vgo
  have h0 := wtn_0 hI (wm n T e)
  have h9 := wtn_9 hI (wm n T e)
  split <;> split <;> omega
/-- all sets at the last turn -/
theorem mlg_0 (hN : 100 ≤ N) (hn : n ≠ 0) {T : Nat} (hT : T ≤ 60) {fee : Int} (hfee : -99 ≤ fee ∧ fee ≤ 99) (k2 : Int → Int → Int → aw_W → Option aw_W) : ∀ (f g : Nat) (w : aw_W), 2 ^ n - g < f → g ≤ 2 ^ n → ML w n lw it → (∀ g', g' < g → ∀ s, s < n → w 65 (ix T g' s) = 0) → ∃ w', m_layTurns_9 N k2 f T fee T g w = m_layTurns_218 N k2 T fee T w' ∧ ML w' n lw it ∧ (∀ g', g' < 2 ^ n → ∀ s, s < n → w' 65 (ix T g' s) = 0) := by
  intro f
  induction f with
  | zero => intro g w hf; omega
  | succ f ih =>
    intro g w hf hg h hdo
    have hn6 := h.2.1
    have pn := pow_n n hn6
    rw [m_layTurns_9, h.1, pn.1]
    by_cases c : ((2 ^ n : Nat) : Int) ≤ (g : Int)
    · have : g = 2 ^ n := by omega
      subst this
      rw [if_pos c]
      exact ⟨w, rfl, h, hdo⟩
    · have hg2 : g < 2 ^ n := by omega
      -- whatever go is
      have core : ∀ x5 s0 s1 : Int, ∃ w', m_layTurns_69 N k2 (m_layTurns_9 N k2 f) T fee T g x5 s0 s1 w = m_layTurns_218 N k2 T fee T w' ∧ ML w' n lw it ∧ (∀ g', g' < 2 ^ n → ∀ s, s < n → w' 65 (ix T g' s) = 0) := by
        intro x5 s0 s1
        rw [m_layTurns_69, if_pos (Int.le_refl _), m_layTurns_107, m_layTurns_108, ix1 hT (show g < 64 by omega), if_pos ⟨by omega, by omega⟩, if_pos (Or.inl rfl), Int.toNat_natCast]
        obtain ⟨w1, e1, h1, d1, o1⟩ := mlt_0 (N := N) (fee := fee) (x5 := x5) (x6 := aw_w (s1 - s0)) (x7 := 0) hT (show g < 64 by omega) k2 (m_layTurns_9 N k2 f) N 0 (aw_up w 66 (64 * T + g) 0) (by omega) (Nat.zero_le _) (h.fr (S := [(66, 1000000)]) ((fr_r _ w).upA rfl) rfl) (fun s' hs' => absurd hs' (Nat.not_lt_zero s'))
        have e1' : m_layTurns_127 N k2 (m_layTurns_9 N k2 f) N T fee T g x5 (aw_w (s1 - s0)) 0 0 (aw_up w 66 (64 * T + g) 0) = m_layTurns_212 N k2 (m_layTurns_9 N k2 f) T fee T g w1 := e1
        rw [e1', m_layTurns_212, ww1 (by omega)]
        refine ih (g + 1) w1 (by omega) (by omega) h1 (fun g' hg' s hs => ?_)
        by_cases z : g' = g
        · subst z; exact d1 s hs
        · rw [o1 _ (by unfold ix; omega)]
          simp [aw_up]
          exact hdo g' (by omega) s hs
      have m59 : ∀ x5 s0 : Int, ∃ w', m_layTurns_59 N k2 (m_layTurns_9 N k2 f) T fee T g x5 s0 w = m_layTurns_218 N k2 T fee T w' ∧ ML w' n lw it ∧ (∀ g', g' < 2 ^ n → ∀ s, s < n → w' 65 (ix T g' s) = 0) := by
        intro x5 s0
        rw [m_layTurns_59]
        by_cases z : (g : Int) = 0
        · rw [if_pos z]; exact core _ _ _
        · rw [if_neg z]; exact core _ _ _
      rw [if_neg c, if_pos (by omega), bc_ok N (by omega) w, b2_some]
      have hml := Nat.mod_lt T (show 0 < n by omega)
      rw [tmw (by omega) hT, w41 (show T % n < 6 by omega)]
      generalize aw_w (pop g + 1) = q0
      by_cases z : q0 = w 56 0
      · rw [if_pos z, if_pos ⟨by omega, by omega⟩]; exact m59 _ _
      · rw [if_neg z]; exact m59 _ _
end TU
