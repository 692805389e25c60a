/-! ===== pure: waiting, the reference: waits, spur ===== -/
section TU
variable {N : Nat} {w : aw_W} {n : Nat} {lw it b : Nat → Int}
theorem m229_l {T : Int} : ∀ (m f i : Nat) (w : aw_W), m < f → i + m = 6 → ML w n lw it → (∀ s, s < i → w 67 s = -1) → ∃ w', m_layTurns_229 N f T 0 i w = m_layTurns_250 N T 0 w' ∧ ML w' n lw it ∧ (∀ s, s < 6 → w' 67 s = -1) ∧ (∀ k, w' 66 k = w 66 k) := by
  intro m
  induction m with
  | zero =>
    intro f i w hf hi h hz
    obtain ⟨f, rfl⟩ : ∃ g, f = g + 1 := ⟨f - 1, by omega⟩
    rw [m_layTurns_229, if_pos (by omega)]
    exact ⟨w, rfl, h, fun k hk => hz k (by omega), fun _ => rfl⟩
  | succ m ih =>
    intro f i w hf hi h hz
    obtain ⟨f, rfl⟩ : ∃ g, f = g + 1 := ⟨f - 1, by omega⟩
    rw [m_layTurns_229, if_neg (by omega), if_pos ⟨by omega, by omega⟩, ww1 (by omega), Int.toNat_natCast]
    obtain ⟨w', p1, p2, p3, p4⟩ := ih f (i + 1) (aw_up w 67 i (-1)) (by omega) (by omega) (h.fr (S := [(67, 1000000)]) ((fr_r _ w).upA rfl) rfl) (fun k hk => by
      by_cases e : k = i
      · subst e; simp [aw_up]
      · simp [aw_up, e]; exact hz k (by omega))
    exact ⟨w', p1, p2, p3, fun k => by rw [p4]; simp [aw_up]⟩
theorem m253_l (hn : n ≠ 0) {T : Nat} (hT : T ≤ 60) {fee : Int} : ∀ (k f g : Nat) (w : aw_W), k < f → k ≤ T → g < 2 ^ n → ML w n lw it → (∀ d, d < T → ∀ g, g < 2 ^ n → w 66 (64 * (T - (d + 1)) + g) = b2i (VG n T (lw 0) (wtn n it) fee d g)) → (∀ s, s < n → g.testBit s = false → w 67 s = -1) → ∃ w', m_layTurns_253 N f T g ((T - k : Nat) : Int) w = some w' ∧ ML w' n lw it ∧ (∀ s, s < n → w' 67 s = if g.testBit s = true then w 67 s else fw n T (lw 0) (wtn n it) fee s k g) := by
  intro k
  induction k with
  | zero =>
    intro f g w hf hk hg h h66 h67
    obtain ⟨f, rfl⟩ : ∃ g, f = g + 1 := ⟨f - 1, by omega⟩
    rw [m_layTurns_253, if_pos (by omega)]
    refine ⟨w, rfl, h, fun s hs => ?_⟩
    by_cases c : g.testBit s = true
    · rw [if_pos c]
    · rw [if_neg c]
      exact h67 s hs (by simpa using c)
  | succ k ih =>
    intro f g w hf hk hg h h66 h67
    obtain ⟨f, rfl⟩ : ∃ g, f = g + 1 := ⟨f - 1, by omega⟩
    have hn6 := h.2.1
    have pn := pow_n n hn6
    obtain ⟨hL, hI⟩ := h.2.2.2.2.2 hn
    have hwm := wm_lt (n := n) (T := T) (by omega) k
    obtain ⟨o1, o2⟩ := bt_orn hn6 hg hwm
    rw [m_layTurns_253, if_neg (by omega), ix1 (t := T - (k + 1)) (show T - (k + 1) ≤ 60 by omega) (show g < 64 by omega), if_pos ⟨by omega, by omega⟩, Int.toNat_natCast, h66 k (by omega) g hg, VG_GG (by omega) (wtn_0 hI) hL.1.1]
    cases hq : GG n T (lw 0) (wtn n it) fee k g with
    | false =>
      rw [if_pos (by rfl), m_layTurns_303, tp1 (show k < T by omega) hT]
      obtain ⟨w', p1, p2, p3⟩ := ih f g w (by omega) (by omega) hg h h66 h67
      refine ⟨w', p1, p2, fun s hs => ?_⟩
      rw [p3 s hs, fw_s, hq, if_neg (c := false = true) (by simp)]
    | true =>
      have hnot := GG_not (wtn_0 hI) hq
      rw [if_neg (by decide), h.1, if_pos (by omega), wmw hT (by omega) (by omega) hn6, if_pos ⟨by omega, by omega⟩, if_pos (by omega), m_layTurns_303, tp1 (show k < T by omega) hT, Int.toNat_natCast, o1]
      obtain ⟨w', p1, p2, p3⟩ := ih f (g ||| 2 ^ wm n T k) (aw_up w 67 (wm n T k) ((T - (k + 1) : Nat) : Int)) (by omega) (by omega) o2 (h.fr (S := [(67, 1000000)]) ((fr_r _ w).upA rfl) rfl) (fun d hd g hg => by simp [aw_up]; exact h66 d hd g hg) (fun s hs hb => by
        rw [or_bit, Bool.or_eq_false_iff] at hb
        have hne : s ≠ wm n T k := by simpa using hb.2
        simp [aw_up, hne]
        exact h67 s hs hb.1)
      refine ⟨w', p1, p2, fun s hs => ?_⟩
      rw [p3 s hs, or_bit, fw_s, hq, if_pos (c := true = true) rfl]
      by_cases e : s = wm n T k
      · subst e
        rw [hnot]
        simp [aw_up]
      · have z : (s == wm n T k) = false := by simpa using e
        rw [z, Bool.or_false, if_neg (c := wm n T k = s) (fun q => e q.symm)]
        simp [aw_up, e]
theorem M_layTurns (hN : 1000 ≤ N) (h : ML w n lw it) (hn : n ≠ 0) {T : Nat} (hT1 : 1 ≤ T) (hT : T ≤ 60) {fee : Int} (hfee : -99 ≤ fee ∧ fee ≤ 99) : ∃ w', m_layTurns N T fee w = some w' ∧ ML w' n lw it ∧ (∀ s, s < n → w' 67 s = fw n T (lw 0) (wtn n it) fee s T 0) := by
  have pn := pow_n n h.2.1
  obtain ⟨f, rfl⟩ : ∃ g, N = g + 1 := ⟨N - 1, by omega⟩
  obtain ⟨w1, e1, h1, d1⟩ := mlg_0 (N := f + 1) (by omega) hn hT hfee (m_layTurns_2 (f + 1) f) (f + 1) 0 w (by omega) (Nat.zero_le _) h (fun g hg => absurd hg (Nat.not_lt_zero g))
  have e1' : m_layTurns_9 (f + 1) (m_layTurns_2 (f + 1) f) (f + 1) T fee T 0 w = m_layTurns_218 (f + 1) (m_layTurns_2 (f + 1) f) T fee T w1 := e1
  obtain ⟨w2, e2, h2, k2⟩ := mlo_l (N := f + 1) (by omega) hn hT hfee T f 0 w1 (by omega) (by omega) h1 (fun g hg s hs => by rw [Nat.sub_zero, d1 g hg s hs]; rfl) (fun d hd => absurd hd (Nat.not_lt_zero d))
  obtain ⟨w3, e3, h3, z3, k3⟩ := m229_l (N := f + 1) (T := (T : Int)) 6 (f + 1) 0 w2 (by omega) (by omega) h2 (fun s hs => absurd hs (Nat.not_lt_zero s))
  have e3' : m_layTurns_229 (f + 1) (f + 1) T 0 0 w2 = m_layTurns_250 (f + 1) T 0 w3 := e3
  obtain ⟨w4, e4, h4, k4⟩ := m253_l (N := f + 1) hn hT (fee := fee) T (f + 1) 0 w3 (by omega) (Nat.le_refl _) (by omega) h3 (fun d hd g hg => by rw [k3]; exact k2 d hd g hg) (fun s hs _ => z3 s (by have := h.2.1; omega))
  rw [Nat.sub_self] at e4
  have e4' : m_layTurns_253 (f + 1) (f + 1) T 0 0 w3 = some w4 := e4
  refine ⟨w4, ?_, h4, fun s hs => ?_⟩
  · rw [m_layTurns, m_layTurns_2, if_neg (by omega), e1', m_layTurns_218, edw0 hT, e2, m_layTurns_224, e3', m_layTurns_250, e4']
  · rw [k4 s hs, Nat.zero_testBit, if_neg (by simp)]
theorem M_areTurns (h : ML w n lw it) {x1 : Int} : m_areTurns N x1 w = some (b2i (decide (n ≠ 0) && (decide (1 ≤ x1) && decide (x1 ≤ 60))), w) := by
  rw [m_areTurns, h.1]
  by_cases hn : n = 0
  · subst hn; rfl
  · rw [if_neg (by omega), m_isIn_ok, b2_some, decide_eq_true hn]
    cases (decide (1 ≤ x1) && decide (x1 ≤ 60)) with
    | false => rfl
    | true => rfl
theorem M_waits (hN : 1000 ≤ N) (h : ML w n lw it) {x1 x2 : Int} : ∃ w', m_waits N x1 x2 w = some (a_waits n lw it x1 x2, w') := by
  unfold a_waits
  have h0 : ML (aw_up w 49 0 0) n lw it := h.fr (S := [(49, 0)]) ((fr_r _ w).up rfl) rfl
  rw [m_waits, M_areTurns h0, b2_some]
  by_cases c1 : 1 ≤ x1 ∧ x1 ≤ 60
  · by_cases c : 0 ≤ x2 ∧ x2 < (n : Int)
    · have hn : n ≠ 0 := by omega
      have hn6 := h.2.1
      obtain ⟨T, rfl⟩ : ∃ s : Nat, x1 = s := ⟨x1.toNat, by omega⟩
      obtain ⟨s, rfl⟩ : ∃ s : Nat, x2 = s := ⟨x2.toNat, by omega⟩
      have hL := (h.2.2.2.2.2 hn).1
      obtain ⟨w1, e1, h1, k1⟩ := M_layTurns (N := N) hN h0 hn (T := T) (by omega) (by omega) (fee := lw 3) (by have := hL.2.2.2.1; omega)
      rw [decide_eq_true hn, decide_eq_true c1.1, decide_eq_true c1.2, if_neg (by decide), m_isStriver_ok, b2_some, h0.1, if_neg (fun z => b2i_and.mp z c), if_neg (c := _ ∨ _) (fun z => z.elim (fun z => z c) (fun z => z c1)), h0.2.2.2.1 3 (by decide), e1, b1_some, if_pos ⟨by omega, by omega⟩, Int.toNat_natCast, Int.toNat_natCast, k1 s (by omega)]
      exact ⟨w1, rfl⟩
    · rw [if_pos (c := ¬ (0 ≤ x2 ∧ x2 < (n : Int)) ∨ _) (Or.inl c)]
      by_cases hn : n = 0
      · rw [decide_eq_false (by simpa using hn), if_pos (by rfl)]
        exact ⟨_, rfl⟩
      · rw [decide_eq_true hn, decide_eq_true c1.1, decide_eq_true c1.2, if_neg (by decide), m_isStriver_ok, b2_some, h0.1, if_pos (b2i_and.mpr c)]
        exact ⟨_, rfl⟩
  · have z : b2i (decide (n ≠ 0) && (decide (1 ≤ x1) && decide (x1 ≤ 60))) = 0 := by
      rw [b2i_0]
      have : (decide (1 ≤ x1) && decide (x1 ≤ 60)) = false := b2i_0.mp (b2i_and.mpr c1)
      rw [this, Bool.and_false]
    rw [if_pos z, if_pos (c := ¬ (0 ≤ x2 ∧ x2 < (n : Int)) ∨ _) (Or.inr c1)]
    exact ⟨_, rfl⟩
theorem msc_l (k20 : Int → Int → aw_W → Option (Int × aw_W)) {x1 x2 : Int} (h : ML w n lw it) {q : Nat → Bool} (hq : ∀ s, s < n → (w 67 s = -1 ↔ q s = false)) : ∀ (f i : Nat), n - i < f → i ≤ n → m_spur_37 N k20 f x1 x2 (ct q i) i w = m_spur_71 N k20 x1 x2 (ct q n) w := by
  intro f
  induction f with
  | zero => intro i hf; omega
  | succ f ih =>
    intro i hf hi
    have hn6 := h.2.1
    have hcl := ct_le q i
    rw [m_spur_37, h.1]
    by_cases c : (n : Int) ≤ (i : Int)
    · have : i = n := by omega
      subst this
      rw [if_pos c]
    · have nx := ih (i + 1) (by omega) (by omega)
      rw [ct_s] at nx
      rw [if_neg c, if_pos ⟨by omega, by omega⟩, Int.toNat_natCast]
      cases e : q i with
      | false =>
        rw [e] at nx
        rw [if_pos ((hq i (by omega)).mpr e), m_spur_63, ww1 (by omega), Int.add_zero, ww (x := (ct q i : Int)) (by omega) (by omega)]
        simpa using nx
      | true =>
        rw [e, if_pos rfl] at nx
        rw [if_neg (fun z => by have := (hq i (by omega)).mp z; rw [e] at this; cases this), m_spur_63, ww1 (by omega), ww1 (by omega)]
        exact nx
theorem msp_l (hN : 1000 ≤ N) (hn : n ≠ 0) {T : Nat} (hT1 : 1 ≤ T) (hT : T ≤ 60) : ∀ (k f : Nat) (w : aw_W), k < f → k ≤ 199 → ML w n lw it → ∃ w', m_spur_20 N f T ((k : Int) - 100) w = some (spr n T (lw 0) (wtn n it) k, w') := by
  intro k
  induction k with
  | zero =>
    intro f w hf hk h
    obtain ⟨f, rfl⟩ : ∃ g, f = g + 1 := ⟨f - 1, by omega⟩
    rw [m_spur_20, if_pos (by omega)]
    exact ⟨w, rfl⟩
  | succ k ih =>
    intro f w hf hk h
    obtain ⟨f, rfl⟩ : ∃ g, f = g + 1 := ⟨f - 1, by omega⟩
    have hn6 := h.2.1
    obtain ⟨hL, hI⟩ := h.2.2.2.2.2 hn
    have ek : ((k + 1 : Nat) : Int) - 100 = (k : Int) - 99 := by omega
    obtain ⟨w1, e1, h1, k1⟩ := M_layTurns (N := N) hN h hn hT1 hT (fee := (k : Int) - 99) (by omega)
    have hz := zf_FF (n := n) (T := T) (fee := (k : Int) - 99) (by omega) (wtn_0 hI) hL.1.1 T
    have e2 := msc_l (N := N) (x1 := (T : Int)) (x2 := (k : Int) - 99) (m_spur_20 N f) h1 (q := (zf n T (lw 0) (wtn n it) ((k : Int) - 99) T 0).testBit) (fun s hs => by
      have := fw_zf (n := n) (T := T) (pl := lw 0) (wt := wtn n it) (fee := (k : Int) - 99) T 0 s (Nat.zero_testBit s)
      rw [k1 s hs]
      constructor
      · intro z
        cases e : (zf n T (lw 0) (wtn n it) ((k : Int) - 99) T 0).testBit s with
        | false => rfl
        | true => exact absurd z (this.mpr e)
      · intro z
        refine Classical.byContradiction (fun y => ?_)
        have := this.mp y
        rw [z] at this
        cases this) N 0 (by omega) (Nat.zero_le _)
    have e2' : m_spur_37 N (m_spur_20 N f) N T ((k : Int) - 99) 0 0 w1 = m_spur_71 N (m_spur_20 N f) T ((k : Int) - 99) (pp n (zf n T (lw 0) (wtn n it) ((k : Int) - 99) T 0)) w1 := e2
    rw [ek, m_spur_20, if_neg (by omega), e1, b1_some, e2', m_spur_71, h1.2.2.2.1 0 (by decide), spr_s]
    by_cases c : (FF n T (lw 0) (wtn n it) ((k : Int) - 99) T).2 = -1
    · have : ¬ lw 0 ≤ pp n (zf n T (lw 0) (wtn n it) ((k : Int) - 99) T 0) := fun z => hz.mp z c
      rw [if_pos (by omega), if_neg (by simpa using c), ww (x := (k : Int) - 99 + -1) (by omega) (by omega), show (k : Int) - 99 + -1 = (k : Int) - 100 by omega]
      exact ih f w1 (by omega) (by omega) h1
    · have := hz.mpr c
      rw [if_neg (by omega), if_pos c]
      exact ⟨w1, rfl⟩
theorem M_spur (hN : 1000 ≤ N) (h : ML w n lw it) {x1 : Int} : ∃ w', m_spur N x1 w = some (a_spur n lw it x1, w') := by
  unfold a_spur
  have h0 : ML (aw_up w 49 0 0) n lw it := h.fr (S := [(49, 0)]) ((fr_r _ w).up rfl) rfl
  rw [m_spur, M_areTurns h0, b2_some]
  by_cases hn : n = 0
  · rw [decide_eq_false (by simpa using hn), if_pos (by rfl), if_pos (Or.inl hn)]
    exact ⟨_, rfl⟩
  · by_cases c1 : 1 ≤ x1 ∧ x1 ≤ 60
    · obtain ⟨T, rfl⟩ : ∃ s : Nat, x1 = s := ⟨x1.toNat, by omega⟩
      rw [decide_eq_true hn, decide_eq_true c1.1, decide_eq_true c1.2, if_neg (by decide), if_neg (c := _ ∨ _) (fun z => z.elim hn (fun z => z c1)), Int.toNat_natCast]
      exact msp_l (N := N) hN hn (show 1 ≤ T by omega) (show T ≤ 60 by omega) 199 N _ (by omega) (Nat.le_refl _) h0
    · have z : b2i (decide (n ≠ 0) && (decide (1 ≤ x1) && decide (x1 ≤ 60))) = 0 := by
        rw [b2i_0]
        have : (decide (1 ≤ x1) && decide (x1 ≤ 60)) = false := b2i_0.mp (b2i_and.mpr c1)
        rw [this, Bool.and_false]
      rw [if_pos z, if_pos (c := _ ∨ _) (Or.inr c1)]
      exact ⟨_, rfl⟩
end TU
