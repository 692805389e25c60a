/-! ===== pure: races, in the reference ===== -/
section RB
variable {N : Nat} {w v : aw_W} {n k : Nat} {lw it ru g c : Nat → Int} {ev : Nat → (Nat → Int) → Int} {tr du : Int}
theorem M_goneBy {s t : Nat} (hs : s < 6) (ht : t ≤ 99) : m_goneBy N s t w = some (w 61 (6 * t + s), w) := by
  rw [m_goneBy, ww (x := 6 * (t : Int)) (by omega) (by omega), ww (x := 6 * (t : Int) + (s : Int)) (by omega) (by omega), if_pos ⟨by omega, by omega⟩, show (6 * (t : Int) + (s : Int)).toNat = 6 * t + s by omega]
theorem mso_l (h : ML w n lw it) {s t : Nat} (hs : s < n) (ht : t ≤ 99) (hg : ∀ s, s < n → w 61 (6 * t + s) = g s) (hc : ∀ s, s < n → w 62 s = c s) {x2 x3 : Int} : ∀ (f i : Nat), n - i < f → i ≤ n → m_stepOf_32 N f s x2 x3 t (ct (fun k => decide (g s < g k)) i : Int) (ct (fun k => decide (g k < g s)) i : Int) (ct (fun k => decide (c k ≠ -1)) i : Int) i w = m_stepOf_124 N s x2 x3 t (ct (fun k => decide (g s < g k)) n : Int) (ct (fun k => decide (g k < g s)) n : Int) (ct (fun k => decide (c k ≠ -1)) n : Int) w := by
  intro f
  induction f with
  | zero => intro i hf; omega
  | succ f ih =>
    intro i hf hi
    have hn6 := h.2.1
    rw [m_stepOf_32, h.1]
    by_cases cc : (n : Int) ≤ (i : Int)
    · have : i = n := by omega
      subst this
      rw [if_pos cc]
    · have ih' := ih (i + 1) (by omega) (by omega)
      have hin : i < n := by omega
      have p87 : ∀ A I : Int, I = (ct (fun k => decide (c k ≠ -1)) (i + 1) : Int) → A = (ct (fun k => decide (g s < g k)) (i + 1) : Int) → (if g s ≤ g i then m_stepOf_115 N (m_stepOf_32 N f) s x2 x3 t A I i 0 (ct (fun k => decide (g k < g s)) i : Int) w else m_stepOf_115 N (m_stepOf_32 N f) s x2 x3 t A I i 1 (ct (fun k => decide (g k < g s)) i : Int) w) = m_stepOf_124 N s x2 x3 t (ct (fun k => decide (g s < g k)) n : Int) (ct (fun k => decide (g k < g s)) n : Int) (ct (fun k => decide (c k ≠ -1)) n : Int) w := by
        intro A I hI hA
        by_cases z : g s ≤ g i
        · rw [if_pos z, m_stepOf_115, cts0 (p := fun k => decide (g k < g s)) (by omega) (decide_eq_false (by omega)), ww1 (by omega), hI, hA]
          exact ih'
        · rw [if_neg z, m_stepOf_115, cts1 (p := fun k => decide (g k < g s)) (by omega) (decide_eq_true (by omega)), ww1 (by omega), hI, hA]
          exact ih'
      have p59 : ∀ I : Int, I = (ct (fun k => decide (c k ≠ -1)) (i + 1) : Int) → (if g i ≤ g s then m_stepOf_87 N (m_stepOf_32 N f) s x2 x3 t (ct (fun k => decide (g k < g s)) i : Int) I i 0 (ct (fun k => decide (g s < g k)) i : Int) w else m_stepOf_87 N (m_stepOf_32 N f) s x2 x3 t (ct (fun k => decide (g k < g s)) i : Int) I i 1 (ct (fun k => decide (g s < g k)) i : Int) w) = m_stepOf_124 N s x2 x3 t (ct (fun k => decide (g s < g k)) n : Int) (ct (fun k => decide (g k < g s)) n : Int) (ct (fun k => decide (c k ≠ -1)) n : Int) w := by
        intro I hI
        by_cases z : g i ≤ g s
        · rw [if_pos z, m_stepOf_87, M_goneBy (by omega) ht, b2_some, M_goneBy (by omega) ht, b2_some, hg i hin, hg s hs]
          exact p87 _ I hI (cts0 (p := fun k => decide (g s < g k)) (by omega) (decide_eq_false (by omega)))
        · rw [if_neg z, m_stepOf_87, M_goneBy (by omega) ht, b2_some, M_goneBy (by omega) ht, b2_some, hg i hin, hg s hs]
          exact p87 _ I hI (cts1 (p := fun k => decide (g s < g k)) (by omega) (decide_eq_true (by omega)))
      rw [if_neg cc, if_pos ⟨by omega, by omega⟩, Int.toNat_natCast, hc i hin]
      by_cases z : c i = -1
      · rw [if_pos z, m_stepOf_59, M_goneBy (by omega) ht, b2_some, M_goneBy (by omega) ht, b2_some, hg i hin, hg s hs]
        exact p59 _ (cts0 (p := fun k => decide (c k ≠ -1)) (by omega) (decide_eq_false (fun q => q z)))
      · rw [if_neg z, m_stepOf_59, M_goneBy (by omega) ht, b2_some, M_goneBy (by omega) ht, b2_some, hg i hin, hg s hs]
        exact p59 _ (cts1 (p := fun k => decide (c k ≠ -1)) (by omega) (decide_eq_true z))
/-- the rules by which one runs in the reference: who stays has none -/
def ruM (w : aw_W) (n : Nat) (ru : Nat → Int) : Prop := ∀ s : Nat, s < n → ru s = if w 49 32 = (s : Int) then -1 else w 58 s
theorem M_stepOf (hN : 10 ≤ N) (h : ML w n lw it) (he : evM N w k ev) {s t : Nat} (hs : s < n) (hg : ∀ s, s < n → w 61 (6 * t + s) = g s) (hc : ∀ s, s < n → w 62 s = c s) (hru : ruM w n ru) (hb : ruB ru n k) (hok : rok n tr t g c) (htr : tr ≤ 99) (hd : du ≤ 99) (ht : (t : Int) < du) : ∃ w', m_stepOf N s tr du t w = some (stq n it ru ev tr du g c t s, w') := by
  have hn6 := h.2.1
  obtain ⟨o1, o2, -, -⟩ := hok s hs
  have hL := lett_LO hn6 hok hs htr hd ht
  have hrs := hru s hs
  rw [m_stepOf, if_pos ⟨by omega, by omega⟩, Int.toNat_natCast]
  unfold stq
  by_cases z1 : w 58 s = -1
  · have : ru s = -1 := by
      rw [hrs]
      split
      · rfl
      · exact z1
    rw [if_pos z1, if_pos this]
    exact ⟨w, rfl⟩
  · rw [if_neg z1]
    by_cases z2 : (s : Int) = w 49 32
    · have : ru s = -1 := by rw [hrs, if_pos z2.symm]
      rw [if_pos z2, if_pos this]
      exact ⟨w, rfl⟩
    · rw [if_neg (fun q => z2 q.symm)] at hrs
      rcases hb s hs with y | ⟨y1, y2⟩
      · exact absurd (hrs.symm.trans y) z1
      · obtain ⟨r, hr⟩ : ∃ r : Nat, ru s = r := ⟨(ru s).toNat, by omega⟩
        have hk4 := he.2.1
        have e0 := mso_l (N := N) (x2 := tr) (x3 := du) h hs (show t ≤ 99 by omega) hg hc N 0 (by omega) (Nat.zero_le _)
        have e0' : m_stepOf_32 N N s tr du t 0 0 0 0 w = m_stepOf_124 N s tr du t (ct (fun k => decide (g s < g k)) n : Int) (ct (fun k => decide (g k < g s)) n : Int) (ct (fun k => decide (c k ≠ -1)) n : Int) w := e0
        rw [if_neg z2, if_neg (by omega), e0', m_stepOf_124, M_goneBy (by omega) (by omega), b2_some, hg s hs, if_pos ⟨by omega, by omega⟩, if_pos ⟨by omega, by omega⟩, Int.toNat_natCast, ← hrs, hr, if_pos ⟨by omega, by omega⟩, Int.toNat_natCast, ww (x := 160 * (r : Int)) (by omega) (by omega), ww (x := tr - g s) (by omega) (by omega), ww (x := du - (t : Int)) (by omega) (by omega)]
        rw [show ct (fun k => decide (c k ≠ -1)) n = inn n c from rfl]
        generalize hw1 : aw_up (aw_up (aw_up (aw_up (aw_up (aw_up w 53 100 (tr - g s)) 53 97 (ct (fun k => decide (g s < g k)) n : Int)) 53 98 (ct (fun k => decide (g k < g s)) n : Int)) 53 111 (inn n c : Int)) 53 108 (du - (t : Int))) 53 116 (t : Int) = w1
        have f1 : fr_ [(53, 1000000)] w w1 := by
          rw [← hw1]
          exact ((((((fr_r _ w).upA rfl).upA rfl).upA rfl).upA rfl).upA rfl).upA rfl
        have hl : ∀ j, j < 6 → w1 53 (lt6 j) = lett n g c tr du t s j := by
          intro j hj
          rw [← hw1]
          unfold lett lt6
          by_cases j0 : j = 0
          · subst j0; simp [aw_up]
          by_cases j1 : j = 1
          · subst j1; simp [aw_up]
          by_cases j2 : j = 2
          · subst j2; simp [aw_up]
          by_cases j3 : j = 3
          · subst j3; simp [aw_up]
          by_cases j4 : j = 4
          · subst j4; simp [aw_up]
          have j5 : j = 5 := by omega
          subst j5
          simp [aw_up]
        obtain ⟨w2, e2, x2⟩ := (he.fr f1 rfl).2.2 w1 (eqp_r _ _) r (by omega) _ hL hl
        have f2 := f_m_goThrough N _ _ _ _ e2
        rw [f1 52 r rfl, show ((160 * r : Nat) : Int) = 160 * (r : Int) by omega] at e2
        rw [e2, b1_some, ww (x := 4 * (s : Int)) (by omega) (by omega), ww (x := 4 * (s : Int) + 0) (by omega) (by omega), if_pos ⟨by omega, by omega⟩, show (4 * (s : Int) + 0).toNat = 4 * s by omega, x2, f2 54 (4 * s) rfl, f1 54 (4 * s) rfl, h.2.2.2.2.1 (4 * s) (by omega)]
        exact ⟨w2, rfl⟩
/-! a second of the reference's race -/
theorem mrn_i (hN : 10 ≤ N) {k42 : Int → Int → Int → Int → aw_W → Option aw_W} {t : Nat} (hb : ruB ru n k) (hok : rok n tr t g c) (htr : tr ≤ 99) (hd : du ≤ 99) (ht : (t : Int) < du) {x3 x5 : Int} (h5 : x5 = 0 → inn n c = n) : ∀ (f i : Nat) (w : aw_W), n - i < f → i ≤ n → ML w n lw it → evM N w k ev → ruM w n ru → (∀ s, s < n → w 61 (6 * t + s) = g s) → (∀ s, s < n → w 62 s = c s) → (∀ s, s < i → w 63 s = st1 n it ru ev tr du g c t s) → ∃ w', m_run_77 N k42 f tr du x3 t x5 i w = m_run_129 N k42 tr du x3 t w' ∧ (∀ s, s < n → w' 63 s = st1 n it ru ev tr du g c t s) ∧ fr_ ((63, 1000000) :: S_m_stepOf) w w' := by
  intro f
  induction f with
  | zero => intro i w hf; omega
  | succ f ih =>
    intro i w hf hi h he hru h61 h62 h63
    have hn6 := h.2.1
    rw [m_run_77, h.1]
    by_cases cc : (n : Int) ≤ (i : Int)
    · have : i = n := by omega
      subst this
      rw [if_pos cc]
      exact ⟨w, rfl, h63, fr_r _ _⟩
    · have hin : i < n := by omega
      have b6 : 0 ≤ (i : Int) ∧ (i : Int) < 6 := ⟨by omega, by omega⟩
      have nxt : ∀ (y : Int) (w1 : aw_W), y = st1 n it ru ev tr du g c t i → fr_ S_m_stepOf w w1 → ∃ w', m_run_122 N k42 (m_run_77 N k42 f) tr du x3 t x5 i y i w1 = m_run_129 N k42 tr du x3 t w' ∧ (∀ s, s < n → w' 63 s = st1 n it ru ev tr du g c t s) ∧ fr_ ((63, 1000000) :: S_m_stepOf) w w' := by
        intro y w1 hy f1
        have f1' : fr_ ((63, 1000000) :: S_m_stepOf) w (aw_up w1 63 i y) := (fr_m rfl f1).upA rfl
        rw [m_run_122, if_pos b6, ww1 (by omega), Int.toNat_natCast]
        obtain ⟨w', a1, a2, a3⟩ := ih (i + 1) (aw_up w1 63 i y) (by omega) (by omega) (h.fr f1' rfl) (he.fr f1' rfl) (fun s hs => by rw [f1' 49 32 rfl, f1' 58 s rfl]; exact hru s hs) (fun s hs => by rw [f1' 61 _ rfl]; exact h61 s hs) (fun s hs => by rw [f1' 62 s rfl]; exact h62 s hs) (fun s hs => by
          by_cases e : s = i
          · subst e
            simp [aw_up]
            exact hy
          · simp [aw_up, e]
            rw [f1 63 s rfl]
            exact h63 s (by omega))
        exact ⟨w', a1, a2, f1'.trans a3⟩
      rw [if_neg cc]
      by_cases z5 : x5 = 0
      · rw [if_pos z5, m_run_121]
        exact nxt 0 w (by unfold st1; rw [if_neg (inn_n (h5 z5) i hin)]) (fr_r _ _)
      · rw [if_neg z5, if_pos b6, Int.toNat_natCast, h62 i hin]
        by_cases z : c i = -1
        · rw [if_pos z]
          obtain ⟨w1, e1⟩ := M_stepOf (N := N) (ev := ev) hN h he hin h61 h62 hru hb hok htr hd ht
          rw [e1, b2_some]
          exact nxt _ w1 (by unfold st1; rw [if_pos z]) (f_m_stepOf N _ _ _ _ _ _ _ e1)
        · rw [if_neg z, m_run_121]
          exact nxt 0 w (by unfold st1; rw [if_neg z]) (fr_r _ _)
theorem mwk_l {k42 : Int → Int → Int → Int → aw_W → Option aw_W} {t : Nat} (h98 : t < 99) (htr : tr ≤ 99) (hI : IB it n) (hok : rok n tr t g c) : ∀ (f i : Nat) (w : aw_W), n - i < f → i ≤ n → ML w n lw it → (∀ s, s < n → w 63 s = st1 n it ru ev tr du g c t s) → (∀ s, s < n → w 61 (6 * t + s) = g s) → (∀ s, s < i → w 61 (6 * (t + 1) + s) = rgn n it ru ev tr du g c t s) → (∀ s, s < n → w 62 s = mxt i (rcn n it ru ev tr du g c t) c s) → ∃ w', m_run_132 N k42 f tr du (inn n (mxt i (rcn n it ru ev tr du g c t) c) : Int) t i w = m_run_222 N k42 tr du (inn n (rcn n it ru ev tr du g c t) : Int) t w' ∧ (∀ s, s < n → w' 61 (6 * (t + 1) + s) = rgn n it ru ev tr du g c t s) ∧ (∀ s, s < n → w' 62 s = rcn n it ru ev tr du g c t s) ∧ (∀ j, j < 6 * (t + 1) → w' 61 j = w 61 j) ∧ fr_ [(61, 1000000), (62, 1000000)] w w' := by
  intro f
  induction f with
  | zero => intro i w hf; omega
  | succ f ih =>
    intro i w hf hi h h63 h61 h61' h62
    have hn6 := h.2.1
    rw [m_run_132, h.1]
    by_cases cc : (n : Int) ≤ (i : Int)
    · have : i = n := by omega
      subst this
      rw [if_pos cc, inn_cg (fun s hs => mxt_n hs)]
      exact ⟨w, rfl, h61', fun s hs => by rw [h62 s hs, mxt_n hs], fun _ _ => rfl, fr_r _ _⟩
    · have hin : i < n := by omega
      obtain ⟨o1, o2, o3, o4⟩ := hok i hin
      have hb := st1_bd (n := n) (ru := ru) (ev := ev) (tr := tr) (du := du) (g := g) (c := c) (t := t) (hI i hin).1
      have hm : rgn n it ru ev tr du g c t i = aw_mn tr (g i + st1 n it ru ev tr du g c t i) := rfl
      have hle := mn_le (a := tr) (b := g i + st1 n it ru ev tr du g c t i)
      rw [← hm] at hle
      have b6 : 0 ≤ (i : Int) ∧ (i : Int) < 6 := ⟨by omega, by omega⟩
      have hix : (6 * ((t + 1 : Nat) : Int) + (i : Int)).toNat = 6 * (t + 1) + i := by omega
      rw [if_neg cc, M_goneBy (by omega) (by omega), b2_some, if_pos b6, ww1 (i := t) (by omega), ww (x := 6 * ((t + 1 : Nat) : Int)) (by omega) (by omega), ww (x := 6 * ((t + 1 : Nat) : Int) + (i : Int)) (by omega) (by omega), if_pos ⟨by omega, by omega⟩, if_pos b6, Int.toNat_natCast, hix, h61 i hin, h63 i hin, ww (x := g i + st1 n it ru ev tr du g c t i) (by omega) (by omega), ← hm, h62 i hin, mxt_at]
      have stay : ¬ (c i = -1 ∧ rgn n it ru ev tr du g c t i = tr) → ∃ w', m_run_216 N k42 (m_run_132 N k42 f) tr du (inn n (mxt i (rcn n it ru ev tr du g c t) c) : Int) t i (aw_up w 61 (6 * (t + 1) + i) (rgn n it ru ev tr du g c t i)) = m_run_222 N k42 tr du (inn n (rcn n it ru ev tr du g c t) : Int) t w' ∧ (∀ s, s < n → w' 61 (6 * (t + 1) + s) = rgn n it ru ev tr du g c t s) ∧ (∀ s, s < n → w' 62 s = rcn n it ru ev tr du g c t s) ∧ (∀ j, j < 6 * (t + 1) → w' 61 j = w 61 j) ∧ fr_ [(61, 1000000), (62, 1000000)] w w' := by
        intro z
        have ec : rcn n it ru ev tr du g c t i = c i := by unfold rcn; rw [if_neg z]
        have fu : fr_ [(61, 1000000), (62, 1000000)] w (aw_up w 61 (6 * (t + 1) + i) (rgn n it ru ev tr du g c t i)) := (fr_r _ _).upA rfl
        rw [m_run_216, ww1 (by omega), ← inn_eq (n := n) (a := rcn n it ru ev tr du g c t) (b := c) (i := i) ec]
        obtain ⟨w', a1, a2, a3, a4, a5⟩ := ih (i + 1) (aw_up w 61 (6 * (t + 1) + i) (rgn n it ru ev tr du g c t i)) (by omega) (by omega) (h.fr fu rfl) (fun s hs => by simp [aw_up]; exact h63 s hs) (fun s hs => by
            have e : ¬ 6 * t + s = 6 * (t + 1) + i := by omega
            simp [aw_up, e]
            exact h61 s hs) (fun s hs => by
            by_cases e : s = i
            · subst e
              simp [aw_up]
            · simp [aw_up, e]
              exact h61' s (by omega)) (fun s hs => by
            by_cases e : s = i
            · subst e
              rw [mxt_e, ec]
              simp [aw_up]
              rw [h62 s hs, mxt_at]
            · rw [mxt_s e, ← h62 s hs]
              simp [aw_up])
        refine ⟨w', a1, a2, a3, fun j hj => ?_, fu.trans a5⟩
        rw [a4 j hj]
        have e : ¬ j = 6 * (t + 1) + i := by omega
        simp [aw_up, e]
      by_cases z2 : c i = -1
      · rw [if_pos z2, M_goneBy (by omega) (by omega), b2_some]
        have hup : (aw_up w 61 (6 * (t + 1) + i) (rgn n it ru ev tr du g c t i)) 61 (6 * (t + 1) + i) = rgn n it ru ev tr du g c t i := by simp [aw_up]
        rw [hup]
        by_cases z1 : rgn n it ru ev tr du g c t i = tr
        · have ec : rcn n it ru ev tr du g c t i = (t : Int) := by unfold rcn; rw [if_pos ⟨z2, z1⟩]
          have hil := inn_le (n := n) (c := mxt i (rcn n it ru ev tr du g c t) c)
          have fu : fr_ [(61, 1000000), (62, 1000000)] w (aw_up (aw_up w 61 (6 * (t + 1) + i) (rgn n it ru ev tr du g c t i)) 62 i (t : Int)) := ((fr_r _ _).upA rfl).upA rfl
          rw [if_pos (by omega), if_pos b6, m_run_216, ww1 (i := i) (by omega), ww1 (i := inn n (mxt i (rcn n it ru ev tr du g c t) c)) (by omega), ← inn_up (a := rcn n it ru ev tr du g c t) (b := c) hin z2 (by rw [ec]; omega)]
          obtain ⟨w', a1, a2, a3, a4, a5⟩ := ih (i + 1) (aw_up (aw_up w 61 (6 * (t + 1) + i) (rgn n it ru ev tr du g c t i)) 62 i (t : Int)) (by omega) (by omega) (h.fr fu rfl) (fun s hs => by simp [aw_up]; exact h63 s hs) (fun s hs => by
              have e : ¬ 6 * t + s = 6 * (t + 1) + i := by omega
              simp [aw_up, e]
              exact h61 s hs) (fun s hs => by
              by_cases e : s = i
              · subst e
                simp [aw_up]
              · simp [aw_up, e]
                exact h61' s (by omega)) (fun s hs => by
              by_cases e : s = i
              · subst e
                rw [mxt_e, ec]
                simp [aw_up]
              · rw [mxt_s e, ← h62 s hs]
                simp [aw_up, e])
          refine ⟨w', a1, a2, a3, fun j hj => ?_, fu.trans a5⟩
          rw [a4 j hj]
          have e : ¬ j = 6 * (t + 1) + i := by omega
          simp [aw_up, e]
        · rw [if_neg (by omega)]
          exact stay (fun q => z1 q.2)
      · rw [if_neg z2]
        exact stay (fun q => z2 q.1)
def alR (c : Nat → Int) : Nat → Bool := fun s => decide (c s ≠ -1)
def scR (c : Nat → Int) : Nat → Int := fun s => -(c s)
theorem mfin_l (hc : ∀ s, s < n → -1 ≤ c s ∧ c s ≤ 1000) : ∀ (f i : Nat) (w : aw_W), n - i < f → i ≤ n → ML w n lw it → (∀ s, s < n → w 62 s = c s) → (∀ s, s < i → w 60 s = b2i (!(alR c s)) ∧ w 59 s = scR c s) → ∃ w', m_run_231 N f i w = some w' ∧ (∀ s, s < n → w' 60 s = b2i (!(alR c s)) ∧ w' 59 s = scR c s) ∧ fr_ [(59, 1000000), (60, 1000000)] w w' := by
  intro f
  induction f with
  | zero => intro i w hf; omega
  | succ f ih =>
    intro i w hf hi h h62 h60
    have hn6 := h.2.1
    rw [m_run_231, h.1]
    by_cases cc : (n : Int) ≤ (i : Int)
    · have : i = n := by omega
      subst this
      rw [if_pos cc]
      exact ⟨w, rfl, h60, fr_r _ _⟩
    · have hin : i < n := by omega
      have b6 : 0 ≤ (i : Int) ∧ (i : Int) < 6 := ⟨by omega, by omega⟩
      have hci := hc i hin
      have nxt : ∀ y : Int, y = b2i (!(alR c i)) → (y = 0 ∨ y = 1) → ∃ w', m_run_262 N (m_run_231 N f) i y i w = some w' ∧ (∀ s, s < n → w' 60 s = b2i (!(alR c s)) ∧ w' 59 s = scR c s) ∧ fr_ [(59, 1000000), (60, 1000000)] w w' := by
        intro y hy hy2
        have fu : fr_ [(59, 1000000), (60, 1000000)] w (aw_up (aw_up w 60 i y) 59 i (-(c i))) := ((fr_r _ _).upA rfl).upA rfl
        rw [m_run_262, if_pos b6, if_pos hy2, if_pos b6, if_pos b6, Int.toNat_natCast, h62 i hin, ww (x := -(c i)) (by omega) (by omega), ww1 (by omega)]
        obtain ⟨w', a1, a2, a3⟩ := ih (i + 1) (aw_up (aw_up w 60 i y) 59 i (-(c i))) (by omega) (by omega) (h.fr fu rfl) (fun s hs => by rw [fu 62 s rfl]; exact h62 s hs) (fun s hs => by
          by_cases e : s = i
          · subst e
            simp [aw_up]
            exact ⟨hy, rfl⟩
          · simp [aw_up, e]
            exact h60 s (by omega))
        exact ⟨w', a1, a2, fu.trans a3⟩
      rw [if_neg cc, if_pos b6, Int.toNat_natCast, h62 i hin]
      by_cases z : c i = -1
      · rw [if_pos z]
        exact nxt 1 (by unfold alR; rw [decide_eq_false (fun q => q z)]; rfl) (Or.inr rfl)
      · rw [if_neg z]
        exact nxt 0 (by unfold alR; rw [decide_eq_true z]; rfl) (Or.inl rfl)
theorem mrn_o (hN : 200 ≤ N) (hn : n ≠ 0) (hb : ruB ru n k) (ht1 : 1 ≤ tr) (htr : tr ≤ 99) {T : Nat} (hT : T ≤ 99) : ∀ (d f t : Nat) (w : aw_W), d < f → t + d = T → ML w n lw it → evM N w k ev → ruM w n ru → (∀ u s, u ≤ t → s < n → w 61 (6 * u + s) = (RS n it ru ev tr T u).1 s) → (∀ s, s < n → w 62 s = (RS n it ru ev tr T t).2 s) → w 49 31 = lst n it ru ev tr T t → ∃ w', m_run_42 N f tr T (inn n (RS n it ru ev tr T t).2 : Int) t w = m_run_228 N w' ∧ ML w' n lw it ∧ (∀ u s, u ≤ T → s < n → w' 61 (6 * u + s) = (RS n it ru ev tr T u).1 s) ∧ (∀ s, s < n → w' 62 s = (RS n it ru ev tr T T).2 s) ∧ w' 49 31 = lst n it ru ev tr T T := by
  intro d
  induction d with
  | zero =>
    intro f t w hf ht h he hru h61 h62 h31
    obtain ⟨f, rfl⟩ : ∃ g, f = g + 1 := ⟨f - 1, by omega⟩
    have : t = T := by omega
    subst this
    rw [m_run_42, if_pos (by omega)]
    exact ⟨w, rfl, h, h61, h62, h31⟩
  | succ d ih =>
    intro f t w hf ht h he hru h61 h62 h31
    obtain ⟨f, rfl⟩ : ∃ g, f = g + 1 := ⟨f - 1, by omega⟩
    have hn6 := h.2.1
    have hI := (h.2.2.2.2.2 hn).2
    have hok := RS_ok (ru := ru) (ev := ev) (du := (T : Int)) ht1 hI t
    have hil := inn_le (n := n) (c := (RS n it ru ev tr T t).2)
    rw [m_run_42, if_neg (by omega), h.1]
    have body : ∀ (x5 : Int) (w0 : aw_W), (x5 = 0 → inn n (RS n it ru ev tr T t).2 = n) → fr_ [(49, 31)] w w0 → w0 49 31 = lst n it ru ev tr T (t + 1) → ∃ w', m_run_74 N (m_run_42 N f) tr T (inn n (RS n it ru ev tr T t).2 : Int) t x5 w0 = m_run_228 N w' ∧ ML w' n lw it ∧ (∀ u s, u ≤ T → s < n → w' 61 (6 * u + s) = (RS n it ru ev tr T u).1 s) ∧ (∀ s, s < n → w' 62 s = (RS n it ru ev tr T T).2 s) ∧ w' 49 31 = lst n it ru ev tr T T := by
      intro x5 w0 h5 f0 hl0
      have h0 := h.fr f0 rfl
      obtain ⟨w1, e1, h63, f1⟩ := mrn_i (N := N) (k42 := m_run_42 N f) (ev := ev) (x3 := (inn n (RS n it ru ev tr T t).2 : Int)) (x5 := x5) (by omega) hb hok htr (show (T : Int) ≤ 99 by omega) (show (t : Int) < (T : Int) by omega) h5 N 0 w0 (by omega) (Nat.zero_le _) h0 (he.fr f0 rfl) (fun s hs => by rw [f0 49 32 rfl, f0 58 s rfl]; exact hru s hs) (fun s hs => by rw [f0 61 _ rfl]; exact h61 t s (Nat.le_refl _) hs) (fun s hs => by rw [f0 62 s rfl]; exact h62 s hs) (fun s hs => absurd hs (Nat.not_lt_zero _))
      obtain ⟨w2, e2, q1, q2, q3, f2⟩ := mwk_l (N := N) (k42 := m_run_42 N f) (ru := ru) (ev := ev) (du := (T : Int)) (show t < 99 by omega) htr hI hok N 0 w1 (by omega) (Nat.zero_le _) (h0.fr f1 rfl) h63 (fun s hs => by rw [f1 61 _ rfl, f0 61 _ rfl]; exact h61 t s (Nat.le_refl _) hs) (fun s hs => absurd hs (Nat.not_lt_zero _)) (fun s hs => by rw [mxt_0, f1 62 s rfl, f0 62 s rfl]; exact h62 s hs)
      rw [inn_cg (fun s hs => mxt_0 (rcn n it ru ev tr T (RS n it ru ev tr T t).1 (RS n it ru ev tr T t).2 t) (RS n it ru ev tr T t).2 s)] at e2
      rw [m_run_74, show (0 : Int) = ((0 : Nat) : Int) from rfl, e1, m_run_129, show (0 : Int) = ((0 : Nat) : Int) from rfl, e2, m_run_222, ww1 (by omega)]
      have f12 : fr_ ((63, 1000000) :: (61, 1000000) :: (62, 1000000) :: S_m_stepOf) w0 w2 := (fr_m rfl f1).trans (fr_m rfl f2)
      refine ih f (t + 1) w2 (by omega) (by omega) (h0.fr f12 rfl) ((he.fr f0 rfl).fr f12 rfl) (fun s hs => by rw [f12 49 32 rfl, f12 58 s rfl, f0 49 32 rfl, f0 58 s rfl]; exact hru s hs) (fun u s hu hs => ?_) q2 (by rw [f12 49 31 rfl]; exact hl0)
      by_cases e : u = t + 1
      · subst e
        exact q1 s hs
      · rw [q3 _ (by omega), f1 61 _ rfl, f0 61 _ rfl]
        exact h61 u s (by omega) hs
    by_cases z : inn n (RS n it ru ev tr T t).2 = n
    · rw [if_pos (by omega), m_run_61, if_pos rfl]
      exact body 0 w (fun _ => z) (fr_r _ _) (by rw [lst_s, if_neg (by omega)]; exact h31)
    · rw [if_neg (by omega), m_run_61, if_neg (by decide)]
      exact body 1 _ (fun q => absurd q (by decide)) ((fr_r _ _).up rfl) (by rw [lst_s, if_pos (by omega)]; simp [aw_up])
theorem mrni_l {x1 x2 x3 : Int} : ∀ (m f i : Nat) (w : aw_W), m < f → i + m = 6 → (∀ s, s < i → w 62 s = -1 ∧ w 61 s = 0) → ∃ w', m_run_10 N f x1 x2 x3 i w = m_run_39 N x1 x2 x3 w' ∧ (∀ s, s < 6 → w' 62 s = -1 ∧ w' 61 s = 0) ∧ fr_ [(61, 1000000), (62, 1000000)] w w' := by
  intro m
  induction m with
  | zero =>
    intro f i w hf hi h
    obtain ⟨f, rfl⟩ : ∃ g, f = g + 1 := ⟨f - 1, by omega⟩
    rw [m_run_10, if_pos (by omega)]
    exact ⟨w, rfl, fun s hs => h s (by omega), fr_r _ _⟩
  | succ m ih =>
    intro f i w hf hi h
    obtain ⟨f, rfl⟩ : ∃ g, f = g + 1 := ⟨f - 1, by omega⟩
    rw [m_run_10, if_neg (by omega), if_pos ⟨by omega, by omega⟩, if_pos ⟨by omega, by omega⟩, ww1 (by omega), Int.toNat_natCast]
    obtain ⟨w', a1, a2, a3⟩ := ih f (i + 1) (aw_up (aw_up w 62 i (-1)) 61 i 0) (by omega) (by omega) (fun s hs => by
      by_cases e : s = i
      · subst e
        simp [aw_up]
      · simp [aw_up, e]
        exact h s (by omega))
    exact ⟨w', a1, a2, (((fr_r _ _).upA rfl).upA rfl).trans a3⟩
/-- the reference runs a race -/
theorem M_run (hN : 200 ≤ N) (h : ML w n lw it) (hn : n ≠ 0) (he : evM N w k ev) (hru : ruM w n ru) (hb : ruB ru n k) (ht1 : 1 ≤ tr) (htr : tr ≤ 99) {T : Nat} (hT : T ≤ 99) : ∃ w', m_run N tr T w = some w' ∧ ML w' n lw it ∧ (∀ u s, u ≤ T → s < n → w' 61 (6 * u + s) = (RS n it ru ev tr T u).1 s) ∧ (∀ s, s < n → w' 62 s = (RS n it ru ev tr T T).2 s) ∧ w' 49 31 = lst n it ru ev tr T T ∧ mst w' n (alR (RS n it ru ev tr T T).2) (scR (RS n it ru ev tr T T).2) (lw 1) (lw 0) ∧ fr_ S_m_run w w' := by
  have hn6 := h.2.1
  obtain ⟨l0, l1, -⟩ := (h.2.2.2.2.2 hn).1
  have hI := (h.2.2.2.2.2 hn).2
  obtain ⟨w1, e1, z1, f1⟩ := mrni_l (N := N) (x1 := tr) (x2 := (T : Int)) (x3 := 0) 6 N 0 (aw_up w 49 31 (-1)) (by omega) (by omega) (fun s hs => absurd hs (Nat.not_lt_zero _))
  have f0 : fr_ S_m_run w w1 := ((fr_r S_m_run w).up rfl).trans (fr_m rfl f1)
  have i0 : inn n (fun _ => -1) = 0 := ct_z (fun _ _ => rfl)
  obtain ⟨w2, e2, h2, a1, a2, a3⟩ := mrn_o (N := N) (ru := ru) (ev := ev) hN hn hb ht1 htr hT T N 0 w1 (by omega) (by omega) (h.fr f0 rfl) (he.fr f0 rfl) (fun s hs => by rw [f0 49 32 rfl, f0 58 s rfl]; exact hru s hs) (fun u s hu hs => by
    have : u = 0 := by omega
    subst this
    rw [Nat.mul_zero, Nat.zero_add, (z1 s (by omega)).2]
    rfl) (fun s hs => by rw [(z1 s (by omega)).1]; rfl) (by rw [f1 49 31 rfl]; simp [aw_up]; rfl)
  have e2' : m_run_42 N N tr T 0 0 w1 = m_run_228 N w2 := by
    have : (inn n (RS n it ru ev tr T 0).2 : Int) = 0 := by
      show (inn n (fun _ => -1) : Int) = 0
      rw [i0]
      rfl
    rw [this] at e2
    exact e2
  have hok := RS_ok (ru := ru) (ev := ev) (du := (T : Int)) ht1 hI T
  obtain ⟨w3, e3, a4, f3⟩ := mfin_l (N := N) (c := (RS n it ru ev tr T T).2) (fun s hs => by have := (hok s hs).2.2.1; omega) N 0 w2 (by omega) (Nat.zero_le _) h2 a2 (fun s hs => absurd hs (Nat.not_lt_zero _))
  have e : m_run N tr T w = some w3 := by
    rw [m_run, show (0 : Int) = ((0 : Nat) : Int) from rfl]
    refine Eq.trans e1 ?_
    rw [m_run_39]
    refine Eq.trans e2' ?_
    rw [m_run_228]
    exact e3
  have f4 := f_m_run N _ _ _ _ e
  have h3 := h.fr f4 rfl
  refine ⟨w3, e, h3, fun u s hu hs => by rw [f3 61 _ rfl]; exact a1 u s hu hs, fun s hs => by rw [f3 62 s rfl]; exact a2 s hs, by rw [f3 49 31 rfl]; exact a3, ⟨h3.1, hn6, a4, h3.2.2.2.1 1 (by decide), l1, h3.2.2.2.1 0 (by decide), l0.1, l0.2⟩, f4⟩
end RB
