/-! ===== pure: waiting, the class's ===== -/
def wtn (n : Nat) (it : Nat → Int) : Nat → Int := fun s => if s < n then it (4 * s + 1) else 0
theorem wtn_0 {n : Nat} {it : Nat → Int} (h : IB it n) : ∀ s, 0 ≤ wtn n it s := by
  intro s
  unfold wtn
  by_cases c : s < n
  · rw [if_pos c]; exact (h s c).2.1.1
  · rw [if_neg c]; exact Int.le_refl _
theorem wtn_9 {n : Nat} {it : Nat → Int} (h : IB it n) (s : Nat) : wtn n it s ≤ 99 := by
  unfold wtn
  by_cases c : s < n
  · rw [if_pos c]; exact (h s c).2.1.2
  · rw [if_neg c]; decide
def hif (n T : Nat) (pl : Int) (wt : Nat → Int) (e : Nat) : Int := if pl = 1 then (wm n T e : Int) else HB n T pl wt e (2 ^ wm n T e)
theorem tmn (a n : Nat) : Int.tmod (a : Int) (n : Int) = ((a % n : Nat) : Int) := rfl
section LI
variable {N : Nat} {w : aw_W} {n : Nat} {lw it b : Nat → Int}
theorem pop_pp (hn : n ≤ 6) {g : Nat} (hg : g < 2 ^ n) : pop g = pp n g := by
  have pn := pow_n n hn
  exact pop_ct n hn g (by omega) hg
theorem wmw {T d : Nat} (hT : T ≤ 60) (hd : d < T) (hn : 0 < n) (hn6 : n ≤ 6) : aw_w (Int.tmod ((T - (d + 1) : Nat) : Int) (n : Int)) = (wm n T d : Int) := by
  rw [tmn]
  have := Nat.mod_lt (T - (d + 1)) hn
  unfold wm
  exact ww (by omega) (by omega)
theorem X_decide (h : XL w n lw it) (hn : n ≠ 0) {T d g : Nat} (hT : T ≤ 60) (hd : d < T) (hg1 : 1 ≤ g) (hg : g < 2 ^ n) (hgb : g.testBit (wm n T d) = false) (h35 : w 35 g = HB n T (lw 0) (wtn n it) d g) : ∃ w', x_Waiting_decide N ((T - (d + 1) : Nat) : Int) (wm n T d) g w = some w' ∧ XL w' n lw it ∧ (∀ k, k ≠ g → w' 35 k = w 35 k) ∧ w' 35 g = HB n T (lw 0) (wtn n it) (d + 1) g ∧ (∀ j, j < 64 → lb (w' 36 (T - (d + 1))) j = (lb (w 36 (T - (d + 1))) j || (decide (j = g) && GB n T (lw 0) (wtn n it) d g))) ∧ (∀ k, k ≠ T - (d + 1) → w' 36 k = w 36 k) ∧ (∀ k, w' 37 k = w 37 k) := by
  have hn6 := h.2.1
  have pn := pow_n n hn6
  obtain ⟨hL, hI⟩ := h.2.2.2.2.2 hn
  have hwm := wm_lt (n := n) (T := T) (by omega) d
  have ewt : x_Land_item N (wm n T d : Int) 1 w = some (wtn n it (wm n T d), w) := by
    have e := xl_item (N := N) (k := 1) h.1 hn6 hwm (by decide)
    have e' : x_Land_item N (wm n T d : Int) 1 w = some (w 4 (4 * wm n T d + 1), w) := e
    rw [e', h.2.2.2.2.1 _ (by omega)]
    unfold wtn
    rw [if_pos hwm]
  have hw0 := wtn_0 hI (wm n T d)
  -- the two gains
  have core : ∀ (x4 x6 s0 : Int), (x4 = 0 ↔ ¬ pp n g = lw 0 - 1) → x6 = (if pp n g = lw 0 - 1 then wtn n it (wm n T d) else 0) → s0 = (if HB n T (lw 0) (wtn n it) d g = (wm n T d : Int) then wtn n it (wm n T d) else 0) → ∃ w', x_Waiting_decide_65 N ((T - (d + 1) : Nat) : Int) (wm n T d) g x4 x6 s0 w = some w' ∧ XL w' n lw it ∧ (∀ k, k ≠ g → w' 35 k = w 35 k) ∧ w' 35 g = HB n T (lw 0) (wtn n it) (d + 1) g ∧ (∀ j, j < 64 → lb (w' 36 (T - (d + 1))) j = (lb (w 36 (T - (d + 1))) j || (decide (j = g) && GB n T (lw 0) (wtn n it) d g))) ∧ (∀ k, k ≠ T - (d + 1) → w' 36 k = w 36 k) ∧ (∀ k, w' 37 k = w 37 k) := by
    intro x4 x6 s0 hx4 hx6 hs0
    rw [x_Waiting_decide_65]
    have eGB : GB n T (lw 0) (wtn n it) d g = decide (s0 < x6) := by
      unfold GB
      rw [hgb, ← hs0, ← hx6]
      rfl
    by_cases c : x6 ≤ s0
    · have eg : GB n T (lw 0) (wtn n it) d g = false := by rw [eGB]; exact decide_eq_false (by omega)
      rw [if_pos c]
      refine ⟨w, rfl, h, fun _ _ => rfl, ?_, fun j _ => by rw [eg]; simp, fun _ _ => rfl, fun _ => rfl⟩
      rw [HB_s, eg, if_neg (by simp)]
      exact h35
    · have eg : GB n T (lw 0) (wtn n it) d g = true := by rw [eGB]; exact decide_eq_true (by omega)
      obtain ⟨p1, -⟩ := GB_prize (wtn_0 hI) eg
      have hx4' : ¬ x4 = 0 := fun z => (hx4.mp z) p1
      rw [if_neg c, if_pos ⟨by omega, by omega⟩, if_pos ⟨by omega, by omega⟩, if_neg hx4', x_Waiting_decide_110, if_pos ⟨by omega, by omega⟩, Int.toNat_natCast, Int.toNat_natCast]
      refine ⟨_, rfl, h.fr (S := [(35, 1000000), (36, 1000000)]) (((fr_r _ w).upA rfl).upA rfl) rfl, fun k hk => by simp [aw_up, hk], ?_, fun j hj => ?_, fun k hk => by simp [aw_up, hk], fun k => by simp [aw_up]⟩
      · rw [HB_s, eg, if_pos rfl, if_pos p1]
        simp [aw_up]
      · have e36 : (aw_up (aw_up w 36 (T - (d + 1)) (aw_orL (w 36 (T - (d + 1))) (aw_shlL 1 (g : Int)))) 35 g (wm n T d : Int)) 36 (T - (d + 1)) = aw_orL (w 36 (T - (d + 1))) (aw_shlL 1 (g : Int)) := by simp [aw_up]
        rw [e36, lb_or _ (by omega) hj, eg, Bool.and_true]
  rw [x_Waiting_decide, bc_ok N (by omega) w, b2_some, pop_pp hn6 hg, h.2.2.2.1 0 (by decide), ww (x := lw 0 - 1) (by have := hL.1; omega) (by have := hL.1; omega)]
  by_cases cp : pp n g = lw 0 - 1
  · rw [if_pos cp, x_Waiting_decide_23, ewt, b2_some, if_neg (by decide), x_Waiting_decide_47, if_pos ⟨by omega, by omega⟩, Int.toNat_natCast, h35]
    by_cases ch : HB n T (lw 0) (wtn n it) d g = (wm n T d : Int)
    · rw [if_pos ch]
      exact core _ _ _ ⟨fun z => absurd z (by decide), fun z => absurd cp z⟩ (by rw [if_pos cp]) (by rw [if_pos ch])
    · rw [if_neg ch]
      exact core _ _ _ ⟨fun z => absurd z (by decide), fun z => absurd cp z⟩ (by rw [if_pos cp]) (by rw [if_neg ch])
  · rw [if_neg cp, x_Waiting_decide_23, ewt, b2_some, if_pos rfl, x_Waiting_decide_47, if_pos ⟨by omega, by omega⟩, Int.toNat_natCast, h35]
    by_cases ch : HB n T (lw 0) (wtn n it) d g = (wm n T d : Int)
    · rw [if_pos ch]
      exact core _ _ _ ⟨fun _ => cp, fun _ => rfl⟩ (by rw [if_neg cp]) (by rw [if_pos ch])
    · rw [if_neg ch]
      exact core _ _ _ ⟨fun _ => cp, fun _ => rfl⟩ (by rw [if_neg cp]) (by rw [if_neg ch])
theorem bt_hs (hn : n ≤ 6) {g m : Nat} (hg : g < 2 ^ n) (hm : m < n) : aw_and (aw_shr (g : Int) (m : Int)) 1 = if g.testBit m then 1 else 0 := by
  have pn := pow_n n hn
  exact bt_has g (by omega) m (by omega)
/-- one turn: all sets g -/
theorem xbi_l (hn : n ≠ 0) {T d : Nat} (hT : T ≤ 60) (hd : d < T) (k17 : Int → aw_W → Option aw_W) : ∀ (f g : Nat) (w : aw_W), 2 ^ n - g < f → 1 ≤ g → g ≤ 2 ^ n → XL w n lw it → (∀ k, 1 ≤ k → k < g → w 35 k = HB n T (lw 0) (wtn n it) (d + 1) k) → (∀ k, g ≤ k → k < 2 ^ n → w 35 k = HB n T (lw 0) (wtn n it) d k) → (∀ j, j < 64 → lb (w 36 (T - (d + 1))) j = (decide (1 ≤ j) && decide (j < g) && GB n T (lw 0) (wtn n it) d j)) → ∃ w', x_Waiting_behindTheFirst_82 N k17 f ((T - (d + 1) : Nat) : Int) (wm n T d) g w = x_Waiting_behindTheFirst_127 N k17 ((T - (d + 1) : Nat) : Int) w' ∧ XL w' n lw it ∧ (∀ k, 1 ≤ k → k < 2 ^ n → w' 35 k = HB n T (lw 0) (wtn n it) (d + 1) k) ∧ (∀ j, j < 64 → lb (w' 36 (T - (d + 1))) j = (decide (1 ≤ j) && decide (j < 2 ^ n) && GB n T (lw 0) (wtn n it) d j)) ∧ (∀ k, k ≠ T - (d + 1) → w' 36 k = w 36 k) ∧ (∀ k, w' 37 k = w 37 k) := by
  intro f
  induction f with
  | zero => intro g w hf; omega
  | succ f ih =>
    intro g w hf hg1 hg h h35a h35b h36
    have hn6 := h.2.1
    have pn := pow_n n hn6
    have hwm := wm_lt (n := n) (T := T) (by omega) d
    rw [x_Waiting_behindTheFirst_82, X_all h, b2_some]
    by_cases c : g = 2 ^ n
    · subst c
      rw [if_pos (by omega)]
      exact ⟨w, rfl, h, h35a, h36, fun _ _ => rfl, fun _ => rfl⟩
    · have hg2 : g < 2 ^ n := by omega
      rw [if_neg (by omega), if_neg (by omega), bt_hs hn6 hg2 hwm]
      have e36 : ∀ j, j < 64 → (decide (1 ≤ j) && decide (j < g + 1) && GB n T (lw 0) (wtn n it) d j) = ((decide (1 ≤ j) && decide (j < g) && GB n T (lw 0) (wtn n it) d j) || (decide (j = g) && GB n T (lw 0) (wtn n it) d g)) := by
        intro j hj
        by_cases e : j = g
        · subst e
          rw [decide_eq_true hg1, decide_eq_true (show j < j + 1 by omega), decide_eq_false (Nat.lt_irrefl j), decide_eq_true rfl]
          simp
        · rw [decide_eq_false e]
          have : decide (j < g + 1) = decide (j < g) := by rw [Bool.eq_iff_iff, decide_eq_true_eq, decide_eq_true_eq]; omega
          rw [this]
          simp
      cases hb : g.testBit (wm n T d) with
      | false =>
        obtain ⟨w1, e1, h1, a1, a2, a3, a4, a5⟩ := X_decide (N := N) h hn hT hd hg1 hg2 hb (h35b g (Nat.le_refl _) hg2)
        have z0 : (if (false = true) then (1 : Int) else 0) = 0 := if_neg (by simp)
        rw [if_pos z0, e1, b1_some, x_Waiting_behindTheFirst_121, ww1 (by omega)]
        obtain ⟨w2, e2, h2, p1, p2, p3, p4⟩ := ih (g + 1) w1 (by omega) (by omega) (by omega) h1 (fun k hk1 hk2 => by
          by_cases e : k = g
          · subst e; exact a2
          · rw [a1 k e]; exact h35a k hk1 (by omega)) (fun k hk1 hk2 => by rw [a1 k (by omega)]; exact h35b k (by omega) hk2) (fun j hj => by rw [a3 j hj, h36 j hj, e36 j hj])
        exact ⟨w2, e2, h2, p1, p2, fun k hk => by rw [p3 k hk, a4 k hk], fun k => by rw [p4 k, a5 k]⟩
      | true =>
        have eg : GB n T (lw 0) (wtn n it) d g = false := by unfold GB; rw [hb]; rfl
        rw [if_pos rfl, if_neg (by decide), x_Waiting_behindTheFirst_121, ww1 (by omega)]
        exact ih (g + 1) w (by omega) (by omega) (by omega) h (fun k hk1 hk2 => by
          by_cases e : k = g
          · subst e
            rw [HB_s, eg, if_neg (by simp)]
            exact h35b k (Nat.le_refl _) hg2
          · exact h35a k hk1 (by omega)) (fun k hk1 hk2 => h35b k (by omega) hk2) (fun j hj => by rw [h36 j hj, e36 j hj, eg]; simp)
def bhd (w : aw_W) (n T : Nat) (lw it : Nat → Int) (d : Nat) : Prop := (∀ e, e < d → w 37 (T - (e + 1)) = hif n T (lw 0) (wtn n it) e) ∧ (∀ e, e < d → ∀ j, 1 ≤ j → j < 2 ^ n → lb (w 36 (T - (e + 1))) j = GB n T (lw 0) (wtn n it) e j)
theorem xbo2_l (hN : 1000 ≤ N) (hn : n ≠ 0) {T : Nat} (hT : T ≤ 60) : ∀ (m f d : Nat) (w : aw_W), m < f → d + m = T → XL w n lw it → (∀ k, 1 ≤ k → k < 2 ^ n → w 35 k = HB n T (lw 0) (wtn n it) d k) → bhd w n T lw it d → ∃ w', x_Waiting_behindTheFirst_17 N f ((T : Int) - ((d + 1 : Nat) : Int)) w = some w' ∧ XL w' n lw it ∧ bhd w' n T lw it T := by
  intro m
  induction m with
  | zero =>
    intro f d w hf hd h h35 hbh
    obtain ⟨f, rfl⟩ : ∃ g, f = g + 1 := ⟨f - 1, by omega⟩
    have : d = T := by omega
    subst this
    rw [x_Waiting_behindTheFirst_17, if_pos (by omega)]
    exact ⟨w, rfl, h, hbh⟩
  | succ m ih =>
    intro f d w hf hd h h35 hbh
    obtain ⟨f, rfl⟩ : ∃ g, f = g + 1 := ⟨f - 1, by omega⟩
    have hn6 := h.2.1
    have pn := pow_n n hn6
    have hwm := wm_lt (n := n) (T := T) (by omega) d
    have et : (T : Int) - ((d + 1 : Nat) : Int) = ((T - (d + 1) : Nat) : Int) := by omega
    have e2m : 2 ^ wm n T d < 2 ^ n := Nat.pow_lt_pow_right (by decide) hwm
    have e1m : 1 ≤ 2 ^ wm n T d := Nat.one_le_pow _ _ (by decide)
    rw [et, x_Waiting_behindTheFirst_17, if_neg (by omega), h.1, if_neg (by omega), if_pos (by omega), wmw hT (by omega) (by omega) hn6, h.2.2.2.1 0 (by decide)]
    have core : ∀ x : Int, x = hif n T (lw 0) (wtn n it) d → ∃ w', x_Waiting_behindTheFirst_71 N (x_Waiting_behindTheFirst_17 N f) ((T - (d + 1) : Nat) : Int) (wm n T d) x ((T - (d + 1) : Nat) : Int) w = some w' ∧ XL w' n lw it ∧ bhd w' n T lw it T := by
      intro x hx
      rw [x_Waiting_behindTheFirst_71, if_pos ⟨by omega, by omega⟩, if_pos ⟨by omega, by omega⟩, Int.toNat_natCast]
      have h1 : XL (aw_up (aw_up w 37 (T - (d + 1)) x) 36 (T - (d + 1)) 0) n lw it := h.fr (S := [(36, 1000000), (37, 1000000)]) (((fr_r _ w).upA rfl).upA rfl) rfl
      obtain ⟨w2, e2, h2, p1, p2, p3, p4⟩ := xbi_l (N := N) hn hT (show d < T by omega) (x_Waiting_behindTheFirst_17 N f) N 1 _ (by omega) (Nat.le_refl _) pn.2.1 h1 (fun k hk1 hk2 => by omega) (fun k hk1 hk2 => by simp [aw_up]; exact h35 k hk1 hk2) (fun j hj => by
        have e0 : (aw_up (aw_up w 37 (T - (d + 1)) x) 36 (T - (d + 1)) 0) 36 (T - (d + 1)) = 0 := by simp [aw_up]
        rw [e0, lb0]
        by_cases z : 1 ≤ j
        · rw [decide_eq_false (show ¬ j < 1 by omega)]; simp
        · rw [decide_eq_false z]; simp)
      have e2' : x_Waiting_behindTheFirst_82 N (x_Waiting_behindTheFirst_17 N f) N ((T - (d + 1) : Nat) : Int) (wm n T d) 1 (aw_up (aw_up w 37 (T - (d + 1)) x) 36 (T - (d + 1)) 0) = x_Waiting_behindTheFirst_127 N (x_Waiting_behindTheFirst_17 N f) ((T - (d + 1) : Nat) : Int) w2 := e2
      rw [e2', x_Waiting_behindTheFirst_127]
      have ed : aw_w (((T - (d + 1) : Nat) : Int) + (-1)) = (T : Int) - ((d + 1 + 1 : Nat) : Int) := by rw [ww (by omega) (by omega)]; omega
      rw [ed]
      refine ih f (d + 1) w2 (by omega) (by omega) h2 p1 ⟨fun e he => ?_, fun e he j hj1 hj2 => ?_⟩
      · rw [p4]
        by_cases z : e = d
        · subst z; simp [aw_up]; exact hx
        · have hne : T - (e + 1) ≠ T - (d + 1) := by omega
          simp [aw_up, hne]
          exact hbh.1 e (by omega)
      · by_cases z : e = d
        · subst z
          rw [p2 j (by omega), decide_eq_true hj1, decide_eq_true hj2]
          rfl
        · have hne : T - (e + 1) ≠ T - (d + 1) := by omega
          rw [p3 _ hne]
          have e0 : (aw_up (aw_up w 37 (T - (d + 1)) x) 36 (T - (d + 1)) 0) 36 (T - (e + 1)) = w 36 (T - (e + 1)) := by simp [aw_up, hne]
          rw [e0]
          exact hbh.2 e (by omega) j hj1 hj2
    by_cases c : lw 0 = 1
    · rw [if_pos c]
      exact core _ (by unfold hif; rw [if_pos c])
    · rw [if_neg c, bt_shl _ (show wm n T d < 7 by omega), if_pos ⟨by omega, by omega⟩, Int.toNat_natCast]
      exact core _ (by unfold hif; rw [if_neg c]; exact h35 _ e1m e2m)
theorem jf35_l : ∀ (m f i : Nat) (w : aw_W), m < f → i + m = 64 → (∀ k, k < i → w 35 k = -1) → ∃ w', j_Arr_fill_Ii_35_5 N f (-1) i 64 w = some w' ∧ ∀ k, k < 64 → w' 35 k = -1 := by
  intro m
  induction m with
  | zero =>
    intro f i w hf hi hz
    obtain ⟨f, rfl⟩ : ∃ g, f = g + 1 := ⟨f - 1, by omega⟩
    rw [j_Arr_fill_Ii_35_5, if_pos (by omega)]
    exact ⟨w, rfl, fun k hk => hz k (by omega)⟩
  | succ m ih =>
    intro f i w hf hi hz
    obtain ⟨f, rfl⟩ : ∃ g, f = g + 1 := ⟨f - 1, by omega⟩
    rw [j_Arr_fill_Ii_35_5, if_neg (by omega), if_pos ⟨by omega, by omega⟩, ww1 (by omega), Int.toNat_natCast]
    refine ih f (i + 1) _ (by omega) (by omega) (fun k hk => ?_)
    by_cases e : k = i
    · subst e; simp [aw_up]
    · simp [aw_up, e]; exact hz k (by omega)
theorem X_behind (hN : 1000 ≤ N) (h : XL w n lw it) (hn : n ≠ 0) {T : Nat} (hT : T ≤ 60) : ∃ w', x_Waiting_behindTheFirst N T w = some w' ∧ XL w' n lw it ∧ bhd w' n T lw it T := by
  have pn := pow_n n h.2.1
  obtain ⟨w1, e1, z1⟩ := jf35_l (N := N) 64 N 0 w (by omega) (by omega) (fun k hk => absurd hk (Nat.not_lt_zero k))
  have e1' : j_Arr_fill_Ii_35 N (-1) w = some w1 := e1
  have f1 := f_j_Arr_fill_Ii_35 N _ _ _ e1'
  have em : aw_mn (T : Int) 60 = (T : Int) := by unfold aw_mn; rw [if_neg (by omega)]
  obtain ⟨w2, e2, h2, b2⟩ := xbo2_l (N := N) hN hn hT T N 0 w1 (by omega) (by omega) (h.fr f1 rfl) (fun k _ hk2 => z1 k (by omega)) ⟨fun e he => absurd he (Nat.not_lt_zero e), fun e he => absurd he (Nat.not_lt_zero e)⟩
  refine ⟨w2, ?_, h2, b2⟩
  rw [x_Waiting_behindTheFirst, e1', b1_some, em, ww (x := (T : Int) - 1) (by omega) (by omega)]
  exact e2
theorem bhd_fr {v : aw_W} {T d : Nat} {S : List (Nat × Nat)} (h : bhd w n T lw it d) (hf : fr_ S w v) (ha : avd S [(36, 1000000), (37, 1000000)] = true) : bhd v n T lw it d := by
  have r36 : ∀ k, v 36 k = w 36 k := fun k => avd_fr ha hf (fr_inA rfl k)
  have r37 : ∀ k, v 37 k = w 37 k := fun k => avd_fr ha hf (fr_inA rfl k)
  exact ⟨fun e he => by rw [r37]; exact h.1 e he, fun e he j h1 h2 => by rw [r36]; exact h.2 e he j h1 h2⟩
theorem xti_l (hn : n ≠ 0) {T : Nat} (hT : T ≤ 60) {fee : Int} (hfee : -99 ≤ fee ∧ fee ≤ 99) : ∀ (m f d : Nat) (w : aw_W), m < f → d + m = T → XL w n lw it → bhd w n T lw it T → (∀ e, e < d → w 38 (T - (e + 1)) = b2i (GF n T (lw 0) (wtn n it) fee e)) → ∃ w', x_Waiting_tillTheFirst_15 N f fee (FF n T (lw 0) (wtn n it) fee d).1 (FF n T (lw 0) (wtn n it) fee d).2 ((T : Int) - ((d + 1 : Nat) : Int)) w = some ((FF n T (lw 0) (wtn n it) fee T).2, w') ∧ XL w' n lw it ∧ bhd w' n T lw it T ∧ (∀ e, e < T → w' 38 (T - (e + 1)) = b2i (GF n T (lw 0) (wtn n it) fee e)) := by
  intro m
  induction m with
  | zero =>
    intro f d w hf hd h hbh h38
    obtain ⟨f, rfl⟩ : ∃ g, f = g + 1 := ⟨f - 1, by omega⟩
    have : d = T := by omega
    subst this
    rw [x_Waiting_tillTheFirst_15, if_pos (by omega)]
    exact ⟨w, rfl, h, hbh, h38⟩
  | succ m ih =>
    intro f d w hf hd h hbh h38
    obtain ⟨f, rfl⟩ : ∃ g, f = g + 1 := ⟨f - 1, by omega⟩
    have hn6 := h.2.1
    obtain ⟨hL, hI⟩ := h.2.2.2.2.2 hn
    have hwm := wm_lt (n := n) (T := T) (by omega) d
    have hw0 := wtn_0 hI (wm n T d)
    have hw9 := wtn_9 hI (wm n T d)
    have et : (T : Int) - ((d + 1 : Nat) : Int) = ((T - (d + 1) : Nat) : Int) := by omega
    have ewt : x_Land_item N (wm n T d : Int) 1 w = some (wtn n it (wm n T d), w) := by
      have e := xl_item (N := N) (k := 1) h.1 hn6 hwm (by decide)
      have e' : x_Land_item N (wm n T d : Int) 1 w = some (w 4 (4 * wm n T d + 1), w) := e
      rw [e', h.2.2.2.2.1 _ (by omega)]
      unfold wtn
      rw [if_pos hwm]
    rw [et, x_Waiting_tillTheFirst_15, if_neg (by omega), h.1, if_neg (by omega), if_pos (by omega), wmw hT (by omega) (by omega) hn6, ewt, b2_some, h.2.2.2.1 0 (by decide)]
    -- behind the three choices
    have last : ∀ q : Bool, q = GF n T (lw 0) (wtn n it) fee d → ∃ w', x_Waiting_tillTheFirst_122 N (x_Waiting_tillTheFirst_15 N f) fee (FF n T (lw 0) (wtn n it) fee d).1 (FF n T (lw 0) (wtn n it) fee d).2 ((T - (d + 1) : Nat) : Int) (wm n T d) (b2i q) ((T - (d + 1) : Nat) : Int) w = some ((FF n T (lw 0) (wtn n it) fee T).2, w') ∧ XL w' n lw it ∧ bhd w' n T lw it T ∧ (∀ e, e < T → w' 38 (T - (e + 1)) = b2i (GF n T (lw 0) (wtn n it) fee e)) := by
      intro q hq
      have hF := fr_.upA (S := [(38, 1000000)]) (i := 38) (k := T - (d + 1)) (x := b2i q) (fr_r _ w) rfl
      have h1 : XL (aw_up w 38 (T - (d + 1)) (b2i q)) n lw it := h.fr hF rfl
      have hb1 : bhd (aw_up w 38 (T - (d + 1)) (b2i q)) n T lw it T := bhd_fr hbh hF rfl
      have e0 : (aw_up w 38 (T - (d + 1)) (b2i q)) 38 (T - (d + 1)) = b2i q := by simp [aw_up]
      have h381 : ∀ e, e < d + 1 → (aw_up w 38 (T - (d + 1)) (b2i q)) 38 (T - (e + 1)) = b2i (GF n T (lw 0) (wtn n it) fee e) := by
        intro e he
        by_cases z : e = d
        · subst z; rw [e0, hq]
        · have hne : T - (e + 1) ≠ T - (d + 1) := by omega
          simp [aw_up, hne]
          exact h38 e (by omega)
      have ed : aw_w (((T - (d + 1) : Nat) : Int) + (-1)) = (T : Int) - ((d + 1 + 1 : Nat) : Int) := by rw [ww (by omega) (by omega)]; omega
      have nx := ih f (d + 1) _ (by omega) (by omega) h1 hb1 h381
      rw [x_Waiting_tillTheFirst_122, if_pos ⟨by omega, by omega⟩, if_pos (by cases q; exact Or.inl rfl; exact Or.inr rfl), if_pos ⟨by omega, by omega⟩, Int.toNat_natCast, e0]
      rw [FF_s, ← hq] at nx
      cases q with
      | false =>
        rw [if_neg (by simp)] at nx
        rw [if_pos (by rfl), x_Waiting_tillTheFirst_145, ed]
        exact nx
      | true =>
        rw [if_pos rfl] at nx
        rw [if_neg (by decide), if_pos ⟨by omega, by omega⟩, x_Waiting_tillTheFirst_145, ed, hbh.1 d (by omega)]
        exact nx
    have third : ∀ (x8 s0 s1 : Int), x8 = (if lw 0 = 1 then wtn n it (wm n T d) else 0) - fee → s1 = (if (FF n T (lw 0) (wtn n it) fee d).2 = (wm n T d : Int) then wtn n it (wm n T d) else 0) → s0 = (if (FF n T (lw 0) (wtn n it) fee d).1 = (wm n T d : Int) then fee else 0) → ∃ w', x_Waiting_tillTheFirst_101 N (x_Waiting_tillTheFirst_15 N f) fee (FF n T (lw 0) (wtn n it) fee d).1 (FF n T (lw 0) (wtn n it) fee d).2 ((T - (d + 1) : Nat) : Int) (wm n T d) x8 s0 s1 w = some ((FF n T (lw 0) (wtn n it) fee T).2, w') ∧ XL w' n lw it ∧ bhd w' n T lw it T ∧ (∀ e, e < T → w' 38 (T - (e + 1)) = b2i (GF n T (lw 0) (wtn n it) fee e)) := by
      intro x8 s0 s1 q8 q1 q0
      have B1 : 0 ≤ s1 ∧ s1 ≤ 99 := by rw [q1]; split <;> omega
      have B0 : -99 ≤ s0 ∧ s0 ≤ 99 := by rw [q0]; split <;> omega
      have eG : GF n T (lw 0) (wtn n it) fee d = decide (s1 - s0 < x8) := by unfold GF; rw [q8, q1, q0]
      rw [x_Waiting_tillTheFirst_101, ww (x := s1 - s0) (by omega) (by omega)]
      by_cases c : x8 ≤ s1 - s0
      · rw [if_pos c]
        exact last false (by rw [eG]; exact (decide_eq_false (by omega)).symm)
      · rw [if_neg c]
        exact last true (by rw [eG]; exact (decide_eq_true (by omega)).symm)
    have second : ∀ (x8 s1 : Int), x8 = (if lw 0 = 1 then wtn n it (wm n T d) else 0) - fee → s1 = (if (FF n T (lw 0) (wtn n it) fee d).2 = (wm n T d : Int) then wtn n it (wm n T d) else 0) → ∃ w', x_Waiting_tillTheFirst_90 N (x_Waiting_tillTheFirst_15 N f) fee (FF n T (lw 0) (wtn n it) fee d).1 (FF n T (lw 0) (wtn n it) fee d).2 ((T - (d + 1) : Nat) : Int) (wm n T d) x8 s1 w = some ((FF n T (lw 0) (wtn n it) fee T).2, w') ∧ XL w' n lw it ∧ bhd w' n T lw it T ∧ (∀ e, e < T → w' 38 (T - (e + 1)) = b2i (GF n T (lw 0) (wtn n it) fee e)) := by
      intro x8 s1 q8 q1
      rw [x_Waiting_tillTheFirst_90]
      by_cases c : (FF n T (lw 0) (wtn n it) fee d).1 = (wm n T d : Int)
      · rw [if_pos c]; exact third _ _ _ q8 q1 (by rw [if_pos c])
      · rw [if_neg c]; exact third _ _ _ q8 q1 (by rw [if_neg c])
    have first : ∀ s0 : Int, s0 = (if lw 0 = 1 then wtn n it (wm n T d) else 0) → ∃ w', x_Waiting_tillTheFirst_73 N (x_Waiting_tillTheFirst_15 N f) fee (FF n T (lw 0) (wtn n it) fee d).1 (FF n T (lw 0) (wtn n it) fee d).2 ((T - (d + 1) : Nat) : Int) (wm n T d) (wtn n it (wm n T d)) s0 w = some ((FF n T (lw 0) (wtn n it) fee T).2, w') ∧ XL w' n lw it ∧ bhd w' n T lw it T ∧ (∀ e, e < T → w' 38 (T - (e + 1)) = b2i (GF n T (lw 0) (wtn n it) fee e)) := by
      intro s0 q0
      have B0 : 0 ≤ s0 ∧ s0 ≤ 99 := by rw [q0]; split <;> omega
      rw [x_Waiting_tillTheFirst_73, ww (x := s0 - fee) (by omega) (by omega)]
      by_cases c : (FF n T (lw 0) (wtn n it) fee d).2 = (wm n T d : Int)
      · rw [if_pos c]; exact second _ _ (by rw [q0]) (by rw [if_pos c])
      · rw [if_neg c]; exact second _ _ (by rw [q0]) (by rw [if_neg c])
    by_cases c : lw 0 = 1
    · rw [if_pos c]; exact first _ (by rw [if_pos c])
    · rw [if_neg c]; exact first _ (by rw [if_neg c])
theorem X_till (hN : 1000 ≤ N) (h : XL w n lw it) (hn : n ≠ 0) {T : Nat} (hT : T ≤ 60) (hb : bhd w n T lw it T) {fee : Int} (hfee : -99 ≤ fee ∧ fee ≤ 99) : ∃ w', x_Waiting_tillTheFirst N T fee w = some ((FF n T (lw 0) (wtn n it) fee T).2, w') ∧ XL w' n lw it ∧ bhd w' n T lw it T ∧ (∀ e, e < T → w' 38 (T - (e + 1)) = b2i (GF n T (lw 0) (wtn n it) fee e)) := by
  have em : aw_mn (T : Int) 60 = (T : Int) := by unfold aw_mn; rw [if_neg (by omega)]
  rw [x_Waiting_tillTheFirst, em, ww (x := (T : Int) - 1) (by omega) (by omega)]
  exact xti_l (N := N) hn hT hfee T N 0 w (by omega) (by omega) h hb (fun e he => absurd he (Nat.not_lt_zero e))
theorem bt_orn (hn : n ≤ 6) {g m : Nat} (hg : g < 2 ^ n) (hm : m < n) : aw_or (g : Int) (aw_shl 1 (m : Int)) = ((g ||| 2 ^ m : Nat) : Int) ∧ g ||| 2 ^ m < 2 ^ n := by
  have pn := pow_n n hn
  exact ⟨bt_or g (by omega) m (by omega), Nat.or_lt_two_pow hg (Nat.pow_lt_pow_right (by decide) hm)⟩
theorem xtu_l (hn : n ≠ 0) {T : Nat} (hT : T ≤ 60) {fee : Int} (h : XL w n lw it) (hb : bhd w n T lw it T) (h38 : ∀ e, e < T → w 38 (T - (e + 1)) = b2i (GF n T (lw 0) (wtn n it) fee e)) {s : Nat} : ∀ (k f g : Nat), k < f → k ≤ T → g < 2 ^ n → x_Waiting_turnOf_5 N f T s g ((T - k : Nat) : Int) w = some (fw n T (lw 0) (wtn n it) fee s k g, w) := by
  intro k
  induction k with
  | zero =>
    intro f g hf hk hg
    obtain ⟨f, rfl⟩ : ∃ g, f = g + 1 := ⟨f - 1, by omega⟩
    rw [x_Waiting_turnOf_5, if_pos (by omega)]
    rfl
  | succ k ih =>
    intro f g hf hk hg
    obtain ⟨f, rfl⟩ : ∃ g, f = g + 1 := ⟨f - 1, by omega⟩
    have hn6 := h.2.1
    have pn := pow_n n hn6
    have hwm := wm_lt (n := n) (T := T) (by omega) k
    obtain ⟨o1, o2⟩ := bt_orn hn6 hg hwm
    have e1 : ((T - (k + 1) : Nat) : Int) + 1 = ((T - k : Nat) : Int) := by omega
    have go : ∀ q : Bool, q = GG n T (lw 0) (wtn n it) fee k g → x_Waiting_turnOf_75 N (x_Waiting_turnOf_5 N f) T s g ((T - (k + 1) : Nat) : Int) (wm n T k) (b2i q) w = some (fw n T (lw 0) (wtn n it) fee s (k + 1) g, w) := by
      intro q hq
      rw [x_Waiting_turnOf_75, fw_s, ← hq]
      cases q with
      | false =>
        rw [if_pos (by rfl), if_neg (by simp), x_Waiting_turnOf_91, if_pos (by rfl), x_Waiting_turnOf_103, e1, ww (x := ((T - k : Nat) : Int)) (by omega) (by omega)]
        exact ih f g (by omega) (by omega) hg
      | true =>
        rw [if_neg (by decide), if_pos rfl]
        by_cases c : wm n T k = s
        · rw [if_pos (by omega), if_pos c]
          rfl
        · rw [if_neg (by omega), if_neg c, x_Waiting_turnOf_91, if_neg (by decide), x_Waiting_turnOf_103, e1, ww (x := ((T - k : Nat) : Int)) (by omega) (by omega), o1]
          exact ih f _ (by omega) (by omega) o2
    rw [x_Waiting_turnOf_5, if_neg (by omega), if_neg (by omega), h.1, if_neg (by omega), if_pos (by omega), wmw hT (by omega) (by omega) hn6, Int.toNat_natCast]
    by_cases c : g = 0
    · rw [if_pos (by omega), if_pos ⟨by omega, by omega⟩, h38 k (by omega)]
      exact go _ (by unfold GG; rw [if_pos c])
    · rw [if_neg (by omega), if_pos ⟨by omega, by omega⟩]
      have hl := hb.2 k (by omega) g (by omega) hg
      have eg : GG n T (lw 0) (wtn n it) fee k g = GB n T (lw 0) (wtn n it) k g := by unfold GG; rw [if_neg c]
      have hi := lb_is (w 36 (T - (k + 1))) (show g < 64 by omega)
      cases hq : GB n T (lw 0) (wtn n it) k g with
      | false =>
        rw [hq] at hl
        rw [if_pos (hi.mpr hl)]
        exact go false (by rw [eg, hq])
      | true =>
        rw [hq] at hl
        rw [if_neg (fun z => by have := hi.mp z; rw [hl] at this; cases this)]
        exact go true (by rw [eg, hq])
def a_waits (n : Nat) (lw it : Nat → Int) (x1 x2 : Int) : Int := if ¬ (0 ≤ x2 ∧ x2 < (n : Int)) ∨ ¬ (1 ≤ x1 ∧ x1 ≤ 60) then -1000000 else fw n x1.toNat (lw 0) (wtn n it) (lw 3) x2.toNat x1.toNat 0
theorem X_waits (hN : 1000 ≤ N) (h : XL w n lw it) {x1 x2 : Int} : ∃ w', x_waits N x1 x2 w = some (a_waits n lw it x1 x2, w') := by
  unfold a_waits
  rw [x_waits, xl_holds, b2_some, h.1]
  by_cases c : 0 ≤ x2 ∧ x2 < (n : Int)
  · rw [if_neg (fun z => b2i_and.mp z c)]
    by_cases c1 : 1 ≤ x1 ∧ x1 ≤ 60
    · obtain ⟨T, rfl⟩ : ∃ s : Nat, x1 = s := ⟨x1.toNat, by omega⟩
      obtain ⟨s, rfl⟩ : ∃ s : Nat, x2 = s := ⟨x2.toNat, by omega⟩
      have hn : n ≠ 0 := by omega
      have hL := (h.2.2.2.2.2 hn).1
      obtain ⟨w1, e1, h1, b1⟩ := X_behind (N := N) hN h hn (T := T) (by omega)
      obtain ⟨w2, e2, h2, b2, g2⟩ := X_till (N := N) hN h1 hn (T := T) (by omega) b1 (fee := lw 3) (by have := hL.2.2.2.1; omega)
      have e3 := xtu_l (N := N) hn (show T ≤ 60 by omega) h2 b2 g2 (s := s) T N 0 (by omega) (Nat.le_refl _) (by have := pow_n n h.2.1; omega)
      rw [Nat.sub_self] at e3
      have e3' : x_Waiting_turnOf N T s w2 = some (fw n T (lw 0) (wtn n it) (lw 3) s T 0, w2) := e3
      rw [if_neg (by omega), if_pos c1.2, if_neg (c := _ ∨ _) (fun z => z.elim (fun z => z c) (fun z => z c1)), e1, b1_some, h1.2.2.2.1 3 (by decide), e2, b2_some, e3', b2_some, Int.toNat_natCast, Int.toNat_natCast]
      exact ⟨w2, rfl⟩
    · rw [if_pos (c := _ ∨ _) (Or.inr c1)]
      by_cases z : x1 < 1
      · rw [if_pos z]; exact ⟨w, rfl⟩
      · rw [if_neg z, if_neg (by omega)]; exact ⟨w, rfl⟩
  · rw [if_pos (b2i_and.mpr c), if_pos (c := _ ∨ _) (Or.inl c)]
    exact ⟨w, rfl⟩
def a_spur (n : Nat) (lw it : Nat → Int) (x1 : Int) : Int := if n = 0 ∨ ¬ (1 ≤ x1 ∧ x1 ≤ 60) then -1000000 else spr n x1.toNat (lw 0) (wtn n it) 199
theorem xsp_l (hN : 1000 ≤ N) (hn : n ≠ 0) {T : Nat} (hT : T ≤ 60) : ∀ (k f : Nat) (w : aw_W), k < f → k ≤ 199 → XL w n lw it → bhd w n T lw it T → ∃ w', x_spur_35 N f T ((k : Int) - 100) w = some (spr n T (lw 0) (wtn n it) k, w') := by
  intro k
  induction k with
  | zero =>
    intro f w hf hk h hb
    obtain ⟨f, rfl⟩ : ∃ g, f = g + 1 := ⟨f - 1, by omega⟩
    rw [x_spur_35, if_pos (by omega)]
    exact ⟨w, rfl⟩
  | succ k ih =>
    intro f w hf hk h hb
    obtain ⟨f, rfl⟩ : ∃ g, f = g + 1 := ⟨f - 1, by omega⟩
    have ek : ((k + 1 : Nat) : Int) - 100 = (k : Int) - 99 := by omega
    obtain ⟨w2, e2, h2, b2, g2⟩ := X_till (N := N) hN h hn hT hb (fee := (k : Int) - 99) (by omega)
    rw [ek, x_spur_35, if_neg (by omega), e2, b2_some, spr_s]
    by_cases c : (FF n T (lw 0) (wtn n it) ((k : Int) - 99) T).2 = -1
    · rw [if_pos c, if_neg (by simpa using c), ww (x := (k : Int) - 99 + -1) (by omega) (by omega), show (k : Int) - 99 + -1 = (k : Int) - 100 by omega]
      exact ih f w2 (by omega) (by omega) h2 b2
    · rw [if_neg c, if_pos c]
      exact ⟨w2, rfl⟩
theorem X_spur (hN : 1000 ≤ N) (h : XL w n lw it) {x1 : Int} : ∃ w', x_spur N x1 w = some (a_spur n lw it x1, w') := by
  unfold a_spur
  rw [x_spur, h.1]
  by_cases hn : n = 0
  · rw [if_pos (by omega), if_pos (Or.inl hn)]; exact ⟨w, rfl⟩
  · rw [if_neg (by omega)]
    by_cases c1 : 1 ≤ x1 ∧ x1 ≤ 60
    · obtain ⟨T, rfl⟩ : ∃ s : Nat, x1 = s := ⟨x1.toNat, by omega⟩
      obtain ⟨w1, e1, h1, b1⟩ := X_behind (N := N) hN h hn (T := T) (by omega)
      rw [if_neg (by omega), if_pos c1.2, if_neg (c := _ ∨ _) (fun z => z.elim hn (fun z => z c1)), e1, b1_some, Int.toNat_natCast]
      exact xsp_l (N := N) hN hn (show T ≤ 60 by omega) 199 N w1 (by omega) (Nat.le_refl _) h1 b1
    · rw [if_pos (c := _ ∨ _) (Or.inr c1)]
      by_cases z : x1 < 1
      · rw [if_pos z]; exact ⟨w, rfl⟩
      · rw [if_neg z, if_neg (by omega)]; exact ⟨w, rfl⟩
end LI
