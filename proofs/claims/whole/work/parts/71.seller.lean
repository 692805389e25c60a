/-! ===== pure: rests, seller, the two calls ===== -/
theorem ct_cut {q : Nat → Bool} {a : Nat} : ∀ k, (∀ r, a ≤ r → r < a + k → q r = false) → ct q (a + k) = ct q a
  | 0, _ => rfl
  | k + 1, h => by
    rw [← Nat.add_assoc, ct_s, ct_cut k (fun r h1 h2 => h r h1 (by omega)), h (a + k) (by omega) (by omega)]
    rfl
theorem ct_mono (q : Nat → Bool) {a b : Nat} (h : a ≤ b) : ct q a ≤ ct q b := by
  obtain ⟨k, rfl⟩ : ∃ k, b = a + k := ⟨b - a, by omega⟩
  clear h
  induction k with
  | zero => exact Nat.le_refl _
  | succ k ih => rw [← Nat.add_assoc, ct_s]; omega
theorem ct_app (q : Nat → Bool) (a : Nat) : ∀ k, ct q (a + k) = ct q a + ct (fun j => q (a + j)) k
  | 0 => rfl
  | k + 1 => by
    show ct q (a + k) + (if q (a + k) = true then 1 else 0) = ct q a + (ct (fun j => q (a + j)) k + (if q (a + k) = true then 1 else 0))
    rw [ct_app q a k, Nat.add_assoc]
def nq (q : Nat → Bool) (R i : Nat) : Int := match (List.range R).find? (fun r => q r && decide (ct q r = i)) with
  | some r => (r : Int)
  | none => -1
theorem nq_some {q : Nat → Bool} {R i r : Nat} (hr : r < R) (h1 : q r = true) (h2 : ct q r = i) : nq q R i = r := by
  unfold nq
  cases e : (List.range R).find? (fun r => q r && decide (ct q r = i)) with
  | none =>
    rw [List.find?_eq_none] at e
    exact absurd (by rw [h1, decide_eq_true h2]; rfl) (e r (List.mem_range.mpr hr))
  | some k =>
    have h0 := List.find?_some e
    rw [Bool.and_eq_true, decide_eq_true_eq] at h0
    have : k = r := by
      rcases Nat.lt_trichotomy k r with z | z | z
      · have := ct_mono q (show k + 1 ≤ r by omega)
        rw [ct_s, if_pos h0.1] at this
        omega
      · exact z
      · have := ct_mono q (show r + 1 ≤ k by omega)
        rw [ct_s, if_pos h1] at this
        omega
    rw [this]
/-- the least and the greatest takings of the rests below r -/
def mnT (q : Nat → Bool) (t : Nat → Int) : Nat → Int
  | 0 => -1
  | r + 1 => if q r = true then (if ct q r = 0 then t r else if t r < mnT q t r then t r else mnT q t r) else mnT q t r
def mxT (q : Nat → Bool) (t : Nat → Int) : Nat → Int
  | 0 => -1
  | r + 1 => if q r = true then (if ct q r = 0 then t r else if mxT q t r < t r then t r else mxT q t r) else mxT q t r
theorem mnT_s (q : Nat → Bool) (t : Nat → Int) (r : Nat) : mnT q t (r + 1) = if q r = true then (if ct q r = 0 then t r else if t r < mnT q t r then t r else mnT q t r) else mnT q t r := rfl
theorem mxT_s (q : Nat → Bool) (t : Nat → Int) (r : Nat) : mxT q t (r + 1) = if q r = true then (if ct q r = 0 then t r else if mxT q t r < t r then t r else mxT q t r) else mxT q t r := rfl
theorem mnT_c (q : Nat → Bool) (t : Nat → Int) {a : Nat} : ∀ k, (∀ r, a ≤ r → r < a + k → q r = false) → mnT q t (a + k) = mnT q t a
  | 0, _ => rfl
  | k + 1, h => by rw [← Nat.add_assoc, mnT_s, if_neg (by rw [h (a + k) (by omega) (by omega)]; simp), mnT_c q t k (fun r h1 h2 => h r h1 (by omega))]
theorem mxT_c (q : Nat → Bool) (t : Nat → Int) {a : Nat} : ∀ k, (∀ r, a ≤ r → r < a + k → q r = false) → mxT q t (a + k) = mxT q t a
  | 0, _ => rfl
  | k + 1, h => by rw [← Nat.add_assoc, mxT_s, if_neg (by rw [h (a + k) (by omega) (by omega)]; simp), mxT_c q t k (fun r h1 h2 => h r h1 (by omega))]
theorem mT_0 {q : Nat → Bool} {t : Nat → Int} (ht : ∀ r, 0 ≤ t r) : ∀ r, (ct q r = 0 → mnT q t r = -1 ∧ mxT q t r = -1) ∧ (ct q r ≠ 0 → 0 ≤ mnT q t r ∧ 0 ≤ mxT q t r)
  | 0 => ⟨fun _ => ⟨rfl, rfl⟩, fun z => absurd rfl z⟩
  | r + 1 => by
    have ih := mT_0 (q := q) ht r
    have htr := ht r
    rw [ct_s, mnT_s, mxT_s]
    by_cases c : q r = true
    · rw [if_pos c, if_pos c, if_pos c]
      refine ⟨fun z => by omega, fun _ => ?_⟩
      by_cases d : ct q r = 0
      · rw [if_pos d, if_pos d]; exact ⟨htr, htr⟩
      · rw [if_neg d, if_neg d]
        have := ih.2 d
        constructor <;> split <;> omega
    · rw [if_neg c, if_neg c, if_neg c]
      exact ih
section RS
variable {N : Nat} {w : aw_W} {n : Nat} {lw it b : Nat → Int}
theorem vr_lt {r mo : Nat} (h : vr r n mo = true) : r < 10 ^ n := by
  have v1 := (vr_iff.mp h).1
  have h10 : 0 < 10 ^ n := Nat.pos_of_ne_zero (by simp)
  rcases Nat.div_eq_zero_iff.mp v1 with z | z
  · omega
  · exact z
theorem rls_any {mo j : Nat} : (rls n mo).any (fun r => decide (j = rb n (bq r n))) = vr j n mo := by
  rw [Bool.eq_iff_iff, List.any_eq_true]
  unfold rls
  constructor
  · rintro ⟨r, hr, e⟩
    rw [List.mem_filter] at hr
    rw [decide_eq_true_eq, rb_bq (vr_lt hr.2)] at e
    rw [e]
    exact hr.2
  · intro h
    refine ⟨j, ?_, ?_⟩
    · rw [List.mem_filter]
      exact ⟨List.mem_range.mpr (vr_lt h), h⟩
    · rw [decide_eq_true_eq, rb_bq (vr_lt h)]
theorem xfi_l (hN : 10000000 ≤ N) (hn4 : n ≤ 4) : ∀ (f i : Nat) (w : aw_W), n - i < f → i ≤ n → XL w n lw it → (∀ j, j < 10048 → mk w j = (vr j n (lw 4).toNat && (List.range i).all (fun s => !(decide (gn n lw it (bq j n) s < bG n lw it (bq j n) s))))) → ∃ w', x_Rests_find_33 N f i w = x_Rests_find_55 N w' ∧ XL w' n lw it ∧ ∀ j, j < 10048 → mk w' j = isr n lw it j := by
  intro f
  induction f with
  | zero => intro i w hf; omega
  | succ f ih =>
    intro i w hf hin h hm
    rw [x_Rests_find_33, h.1]
    by_cases c : (n : Int) ≤ (i : Int)
    · have : i = n := by omega
      subst this
      rw [if_pos c]
      exact ⟨w, rfl, h, hm⟩
    · have hin2 : i < n := by omega
      have h9 := (h.2.2.2.2.2 (by omega)).1.2.2.2.2
      obtain ⟨w1, e1, h1, m1⟩ := X_unmarkWorse (N := N) hN h hn4 hin2
      rw [if_neg c, e1, b1_some, ww1 (by omega)]
      refine ih (i + 1) w1 (by omega) (by omega) h1 (fun j hj => ?_)
      rw [m1 j, hm j hj, List.range_succ, List.all_append]
      cases hv : vr j n (lw 4).toNat with
      | false => simp
      | true =>
        rw [bad_iff (by omega) hin2 hv]
        simp
def tkr (n : Nat) (lw : Nat → Int) (r : Nat) : Int := tk n lw (bq r n)
theorem tkr_0 (h : LB lw) (r : Nat) : 0 ≤ tkr n lw r := by
  unfold tkr tk Tk
  have h1 := (Pd_bd (pl := lw 0) (ti := lw 1) (pd := lw 2) (bq_bd r n)).1
  have h2 : 0 ≤ pop (Fb (lw 1) (bq r n) n) := Int.natCast_nonneg _
  have h3 := Int.mul_nonneg h.2.2.2.1.1 h2
  omega
/-- what the class knows of the rests -/
def RK (w : aw_W) (n : Nat) (lw it : Nat → Int) : Prop := (∀ j, j < 10048 → mk w j = isr n lw it j) ∧ w 23 5 = (ct (isr n lw it) 10000 : Int) ∧ (ct (isr n lw it) 10000 ≠ 0 → w 23 6 = mnT (isr n lw it) (tkr n lw) 10000 ∧ w 23 7 = mxT (isr n lw it) (tkr n lw) 10000)
theorem xta_l (hN : 10000000 ≤ N) (hn : n ≠ 0) {R : Nat} (hR : R = 10000) : ∀ (m f r : Nat) (w : aw_W), m < f → r + m = R → XL w n lw it → (∀ j, j < 10048 → mk w j = isr n lw it j) → w 23 5 = (ct (isr n lw it) r : Int) → (ct (isr n lw it) r ≠ 0 → w 23 6 = mnT (isr n lw it) (tkr n lw) r ∧ w 23 7 = mxT (isr n lw it) (tkr n lw) r) → ∃ w', x_Rests_tally_7 N f r w = some w' ∧ XL w' n lw it ∧ (∀ j, j < 10048 → mk w' j = isr n lw it j) ∧ w' 23 5 = (ct (isr n lw it) R : Int) ∧ (ct (isr n lw it) R ≠ 0 → w' 23 6 = mnT (isr n lw it) (tkr n lw) R ∧ w' 23 7 = mxT (isr n lw it) (tkr n lw) R) := by
  intro m
  induction m with
  | zero =>
    intro f r w hf hr h hm i1 i2
    obtain ⟨f, rfl⟩ : ∃ g, f = g + 1 := ⟨f - 1, by omega⟩
    have : r = R := by omega
    subst this
    rw [x_Rests_tally_7, if_pos (by omega)]
    exact ⟨w, rfl, h, hm, i1, i2⟩
  | succ m ih =>
    intro f r w hf hr h hm i1 i2
    obtain ⟨f, rfl⟩ : ∃ g, f = g + 1 := ⟨f - 1, by omega⟩
    have hcl := ct_le (isr n lw it) r
    rw [x_Rests_tally_7, if_neg (by omega), X_isMarked (by omega), b2_some, hm r (by omega)]
    cases hq : isr n lw it r with
    | false =>
      rw [if_pos (by rfl), x_Rests_tally_105, ww1 (by omega)]
      refine ih f (r + 1) w (by omega) (by omega) h hm ?_ ?_
      · rw [ct_s, hq]; simpa using i1
      · rw [ct_s, hq, mnT_s, mxT_s, hq]; simpa using i2
    | true =>
      obtain ⟨w1, e1, b1, f1⟩ := xp_put (N := N) (by omega) h.1 h.2.1 r (by omega)
      have h1 := h.fr f1 rfl
      have b1' : ∀ k, k < n → w1 21 k = bq r n k := fun k hk => by rw [b1 k hk]; unfold bq; rw [if_pos hk]
      obtain ⟨w2, e2, h2, b2, s3, s4, s5, s6, ss, f2⟩ := X_settle (N := N) (by omega) h1 hn b1'
      rw [if_neg (by decide), e1, b2_some, e2, b1_some, X_takings h2 hn b2 (bq_bd r n) ss, b2_some]
      have r23 : ∀ k, w2 23 k = w 23 k := fun k => by rw [f2 23 k rfl, f1 23 k rfl]
      have rmk : ∀ j, mk w2 j = mk w j := fun j => by unfold mk; rw [f2 24 _ rfl, f1 24 _ rfl]
      rw [r23 5, r23 6, i1]
      have ecs : ((ct (isr n lw it) (r + 1) : Nat) : Int) = (ct (isr n lw it) r : Int) + 1 := by rw [ct_s, if_pos hq]; rfl
      -- behind both
      have nxt : ∀ x y : Int, x = mnT (isr n lw it) (tkr n lw) (r + 1) → y = mxT (isr n lw it) (tkr n lw) (r + 1) → ∃ w', x_Rests_tally_92 N (x_Rests_tally_7 N f) r y (aw_up w2 23 6 x) = some w' ∧ XL w' n lw it ∧ (∀ j, j < 10048 → mk w' j = isr n lw it j) ∧ w' 23 5 = (ct (isr n lw it) R : Int) ∧ (ct (isr n lw it) R ≠ 0 → w' 23 6 = mnT (isr n lw it) (tkr n lw) R ∧ w' 23 7 = mxT (isr n lw it) (tkr n lw) R) := by
        intro x y hx hy
        rw [x_Rests_tally_92, x_Rests_tally_105, ww1 (by omega)]
        have r5 : (aw_up w2 23 6 x) 23 5 = (ct (isr n lw it) r : Int) := by simp [aw_up]; rw [r23]; exact i1
        rw [r5, ww (x := (ct (isr n lw it) r : Int) + 1) (by omega) (by omega)]
        refine ih f (r + 1) _ (by omega) (by omega) (h2.fr (S := [(23, 5), (23, 6), (23, 7)]) ((((fr_r _ w2).up rfl).up rfl).up rfl) rfl) (fun j hj => ?_) ?_ (fun _ => ⟨?_, ?_⟩)
        · have : mk (aw_up (aw_up (aw_up w2 23 6 x) 23 7 y) 23 5 ((ct (isr n lw it) r : Int) + 1)) j = mk w2 j := by unfold mk; simp [aw_up]
          rw [this, rmk]
          exact hm j hj
        · rw [ecs]; simp [aw_up]
        · simp [aw_up]; exact hx
        · simp [aw_up]; exact hy
      have em : mnT (isr n lw it) (tkr n lw) (r + 1) = if ct (isr n lw it) r = 0 then tkr n lw r else if tkr n lw r < mnT (isr n lw it) (tkr n lw) r then tkr n lw r else mnT (isr n lw it) (tkr n lw) r := by rw [mnT_s, if_pos hq]
      have ex : mxT (isr n lw it) (tkr n lw) (r + 1) = if ct (isr n lw it) r = 0 then tkr n lw r else if mxT (isr n lw it) (tkr n lw) r < tkr n lw r then tkr n lw r else mxT (isr n lw it) (tkr n lw) r := by rw [mxT_s, if_pos hq]
      by_cases c0 : ct (isr n lw it) r = 0
      · rw [if_pos c0] at em ex
        rw [if_pos (by omega), x_Rests_tally_69, r23 5, i1, if_pos (by omega)]
        exact nxt _ _ em.symm ex.symm
      · rw [if_neg c0] at em ex
        obtain ⟨j1, j2⟩ := i2 c0
        rw [if_neg (by omega), x_Rests_tally_69, r23 5, i1, if_neg (by omega), r23 7, j1, j2]
        exact nxt _ _ em.symm ex.symm
theorem X_find (hN : 10000000 ≤ N) (h : XL w n lw it) (hf : few n = true) (hk : w 23 4 = 0 ∨ RK w n lw it) : ∃ w', x_Rests_find N w = some w' ∧ XL w' n lw it ∧ RK w' n lw it := by
  have hn := few_n hf
  rw [x_Rests_find]
  by_cases c : w 23 4 = 0
  · rw [if_pos c, h.1, if_pos (by omega)]
    obtain ⟨w1, e1, m1, f1⟩ := X_fillMarks (N := N) (w := w) (by omega)
    obtain ⟨w2, e2, h2, m2⟩ := X_markAll (N := N) hN (h.fr f1 rfl) (by omega) hn.2
    obtain ⟨w3, e3, h3, m3⟩ := xfi_l (N := N) hN hn.2 N 0 w2 (by omega) (by omega) h2 (fun j hj => by
      rw [m2 j, m1 j hj, rls_any]
      simp)
    have e3' : x_Rests_find_33 N N 0 w2 = x_Rests_find_55 N w3 := e3
    rw [e1, b1_some, e2, b1_some, e3', x_Rests_find_55]
    obtain ⟨w4, e4, h4, m4, g4, g5⟩ := xta_l (N := N) (R := 10000) hN (by omega) rfl 10000 N 0 (aw_up w3 23 5 0) (by omega) (by omega) (h3.fr (S := [(23, 5)]) ((fr_r _ w3).up rfl) rfl) (fun j hj => by
      have : mk (aw_up w3 23 5 0) j = mk w3 j := by unfold mk; simp [aw_up]
      rw [this]
      exact m3 j hj) (by simp [aw_up]; rfl) (fun z => absurd rfl z)
    have e4' : x_Rests_tally N w3 = some w4 := e4
    rw [e4', b1_some]
    refine ⟨_, rfl, h4.fr (S := [(23, 4)]) ((fr_r _ w4).up rfl) rfl, fun j hj => ?_, ?_, fun z => ?_⟩
    · have : mk (aw_up w4 23 4 1) j = mk w4 j := by unfold mk; simp [aw_up]
      rw [this]
      exact m4 j hj
    · simp [aw_up]; exact g4
    · obtain ⟨k1, k2⟩ := g5 z
      exact ⟨by simp [aw_up]; exact k1, by simp [aw_up]; exact k2⟩
  · rw [if_neg c]
    exact ⟨w, rfl, h, hk.resolve_left c⟩
theorem word_ct (w : aw_W) (k : Nat) : ct (mk w) (64 * k + 64) = ct (mk w) (64 * k) + ct (lb (w 24 k)) 64 := by
  rw [ct_app]
  congr 1
  refine ct_cong (fun j hj => ?_)
  show mk w (64 * k + j) = _
  unfold mk
  rw [show (64 * k + j) / 64 = k by omega, show (64 * k + j) % 64 = j by omega]
theorem xnr_l (hN : 10000000 ≤ N) (h : ∀ j, j < 10048 → mk w j = isr n lw it j) {i R : Nat} (hR : R = 10000) (hi : i < ct (isr n lw it) R) : ∀ (m f r : Nat), m < f → r + m = R → ct (isr n lw it) r ≤ i → x_Rests_nth_64 N f ((i : Int) - (ct (isr n lw it) r : Int)) r w = some (nq (isr n lw it) R i, w) := by
  intro m
  induction m with
  | zero =>
    intro f r hf hr hc
    have : r = R := by omega
    subst this
    omega
  | succ m ih =>
    intro f r hf hr hc
    obtain ⟨f, rfl⟩ : ∃ g, f = g + 1 := ⟨f - 1, by omega⟩
    have hcR := ct_le (isr n lw it) R
    have hcs := ct_s (isr n lw it) r
    rw [x_Rests_nth_64, if_neg (by omega), X_isMarked (by omega), b2_some, h r (by omega)]
    cases hq : isr n lw it r with
    | false =>
      rw [hq] at hcs
      have hcs' : ct (isr n lw it) (r + 1) = ct (isr n lw it) r := by simpa using hcs
      have nx := ih f (r + 1) (by omega) (by omega) (by omega)
      rw [if_pos (by rfl), x_Rests_nth_87, Int.sub_zero, ww (x := (i : Int) - (ct (isr n lw it) r : Int)) (by omega) (by omega), if_pos (by omega), ww1 (by omega)]
      rw [hcs'] at nx
      exact nx
    | true =>
      rw [hq, if_pos rfl] at hcs
      rw [if_neg (by decide), x_Rests_nth_87, ww (x := (i : Int) - (ct (isr n lw it) r : Int) - 1) (by omega) (by omega)]
      by_cases c : ct (isr n lw it) r = i
      · rw [if_neg (by omega), nq_some (by omega) hq c]
        rfl
      · have nx := ih f (r + 1) (by omega) (by omega) (by omega)
        rw [if_pos (by omega), ww1 (by omega)]
        have e : (i : Int) - (ct (isr n lw it) r : Int) - 1 = (i : Int) - (ct (isr n lw it) (r + 1) : Int) := by rw [hcs]; omega
        rw [e]
        exact nx
theorem xnw_l (hN : 10000000 ≤ N) (h : ∀ j, j < 10048 → mk w j = isr n lw it j) {i R : Nat} (hR : R = 10000) (hi : i < ct (isr n lw it) R) : ∀ (m f k : Nat), m < f → k + m = 157 → ct (isr n lw it) (64 * k) ≤ i → x_Rests_nth_18 N f ((i : Int) - (ct (isr n lw it) (64 * k) : Int)) k w = some (nq (isr n lw it) R i, w) := by
  intro m
  have hcR := ct_le (isr n lw it) R
  have cc : ∀ a, a ≤ 10048 → ct (mk w) a = ct (isr n lw it) a := fun a ha => ct_cong (fun j hj => h j (by omega))
  induction m with
  | zero =>
    intro f k hf hk hc
    have : k = 157 := by omega
    subst this
    have := ct_mono (isr n lw it) (show R ≤ 64 * 157 by omega)
    omega
  | succ m ih =>
    intro f k hf hk hc
    obtain ⟨f, rfl⟩ : ∃ g, f = g + 1 := ⟨f - 1, by omega⟩
    have hw := word_ct w k
    rw [cc _ (by omega), cc _ (by omega)] at hw
    have hl := ct_le (lb (w 24 k)) 64
    rw [x_Rests_nth_18, if_neg (by omega), if_pos ⟨by omega, by omega⟩, Int.toNat_natCast, lbc_ok, b2_some]
    by_cases c : (i : Int) - (ct (isr n lw it) (64 * k) : Int) < (ct (lb (w 24 k)) 64 : Int)
    · rw [if_pos c, x_Rests_nth_58]
      have hk6 : 64 * k ≤ R := by
        by_cases z : 64 * k ≤ R
        · exact z
        · have := ct_mono (isr n lw it) (show R ≤ 64 * k by omega)
          omega
      have e : aw_w ((k : Int) * 64) = ((64 * k : Nat) : Int) := by rw [ww (by omega) (by omega)]; omega
      rw [e]
      exact xnr_l (N := N) hN h hR hi (R - 64 * k) N (64 * k) (by omega) (by omega) hc
    · rw [if_neg c, if_pos ⟨by omega, by omega⟩, lbc_ok, b2_some, ww1 (by omega)]
      have nx := ih f (k + 1) (by omega) (by omega) (by rw [show 64 * (k + 1) = 64 * k + 64 by omega, hw]; omega)
      rw [show 64 * (k + 1) = 64 * k + 64 by omega, hw] at nx
      have e : aw_w ((i : Int) - (ct (isr n lw it) (64 * k) : Int) - (ct (lb (w 24 k)) 64 : Int)) = (i : Int) - ((ct (isr n lw it) (64 * k) + ct (lb (w 24 k)) 64 : Nat) : Int) := by rw [ww (by omega) (by omega)]; omega
      rw [e]
      exact nx
def a_rests (n : Nat) (lw it : Nat → Int) (x1 : Int) : Int := if few n = false then -1000000 else if x1 = -1 then (ct (isr n lw it) 10000 : Int) else if x1 < 0 ∨ (ct (isr n lw it) 10000 : Int) ≤ x1 then -1 else nq (isr n lw it) 10000 x1.toNat
theorem X_rests (hN : 10000000 ≤ N) (h : XL w n lw it) (hk : few n = true → w 23 4 = 0 ∨ RK w n lw it) {x1 : Int} : ∃ w', x_rests N x1 w = some (a_rests n lw it x1, w') ∧ (w' 23 4 = w 23 4 ∨ (few n = true → RK w' n lw it)) := by
  unfold a_rests
  rw [x_rests, X_isSmall h, b2_some]
  cases hf : few n with
  | false => rw [if_pos (by rfl), if_pos rfl]; exact ⟨w, rfl, Or.inl rfl⟩
  | true =>
    obtain ⟨w1, e1, h1, k1⟩ := X_find (N := N) hN h hf (hk hf)
    obtain ⟨k2, k3, -⟩ := id k1
    rw [if_neg (by decide), if_neg (by simp), e1, b1_some, k3]
    by_cases c : x1 = -1
    · rw [if_pos c, if_pos c]; exact ⟨w1, rfl, Or.inr (fun _ => k1)⟩
    · rw [if_neg c, if_neg c, x_Rests_nth, k3]
      by_cases c1 : x1 < 0
      · rw [if_pos c1, if_pos (Or.inl c1)]; exact ⟨w1, rfl, Or.inr (fun _ => k1)⟩
      · rw [if_neg c1]
        by_cases c2 : x1 < (ct (isr n lw it) 10000 : Int)
        · obtain ⟨i, rfl⟩ : ∃ i : Nat, x1 = i := ⟨x1.toNat, by omega⟩
          have e2 := xnw_l (N := N) (R := 10000) hN k2 rfl (i := i) (by omega) 157 N 0 (by omega) (by omega) (Nat.zero_le _)
          have e2' : x_Rests_nth_18 N N (i : Int) 0 w1 = some (nq (isr n lw it) 10000 i, w1) := by
            have z : (i : Int) - ((ct (isr n lw it) (64 * 0) : Nat) : Int) = (i : Int) := by show (i : Int) - ((0 : Nat) : Int) = i; omega
            rw [z] at e2
            exact e2
          rw [if_pos c2, if_neg (by omega), e2', b2_some, Int.toNat_natCast]
          exact ⟨w1, rfl, Or.inr (fun _ => k1)⟩
        · rw [if_neg c2, if_pos (by omega)]; exact ⟨w1, rfl, Or.inr (fun _ => k1)⟩
def a_seller (n : Nat) (lw it : Nat → Int) (x1 : Int) : Int := if few n = false ∨ ¬ (0 ≤ x1 ∧ x1 ≤ 1) then -1000000 else if ct (isr n lw it) 10000 = 0 then -1 else if x1 = 0 then mnT (isr n lw it) (tkr n lw) 10000 else mxT (isr n lw it) (tkr n lw) 10000
theorem X_seller (hN : 10000000 ≤ N) (h : XL w n lw it) (hk : few n = true → w 23 4 = 0 ∨ RK w n lw it) {x1 : Int} : ∃ w', x_seller N x1 w = some (a_seller n lw it x1, w') ∧ (w' 23 4 = w 23 4 ∨ (few n = true → RK w' n lw it)) := by
  unfold a_seller
  rw [x_seller, X_isSmall h, b2_some]
  cases hf : few n with
  | false => rw [if_pos (by rfl), if_pos (Or.inl rfl)]; exact ⟨w, rfl, Or.inl rfl⟩
  | true =>
    rw [if_neg (by decide)]
    by_cases c : 0 ≤ x1 ∧ x1 ≤ 1
    · obtain ⟨w1, e1, h1, k1⟩ := X_find (N := N) hN h hf (hk hf)
      obtain ⟨k2, k3, k4⟩ := id k1
      rw [if_neg (by omega), if_pos c.2, if_neg (c := _ ∨ _) (fun z => z.elim (fun z => by cases z) (fun z => z c)), e1, b1_some, k3]
      by_cases z : ct (isr n lw it) 10000 = 0
      · rw [if_pos (by omega), if_pos z]; exact ⟨w1, rfl, Or.inr (fun _ => k1)⟩
      · obtain ⟨g1, g2⟩ := k4 z
        rw [if_neg (by omega), if_neg z, g1, g2]
        by_cases z0 : x1 = 0
        · rw [if_pos z0, if_pos z0]; exact ⟨w1, rfl, Or.inr (fun _ => k1)⟩
        · rw [if_neg z0, if_neg z0]; exact ⟨w1, rfl, Or.inr (fun _ => k1)⟩
    · rw [if_pos (c := _ ∨ _) (Or.inr c)]
      by_cases z : x1 < 0
      · rw [if_pos z]; exact ⟨w, rfl, Or.inl rfl⟩
      · rw [if_neg z, if_neg (by omega)]; exact ⟨w, rfl, Or.inl rfl⟩
/-! the reference's -/
theorem mir_l (hN : 20 ≤ N) (hbd : bd n b) : ∀ (f i : Nat) (w : aw_W), n - i < f → i ≤ n → ML w n lw it → (∀ k, k < n → w 64 k = b k) → (∀ s, s < i → ¬ gn n lw it b s < bG n lw it b s) → ∃ w', m_isRest_2 N f i w = some (b2i (rst n lw it b), w') ∧ ML w' n lw it ∧ (∀ k, k < n → w' 64 k = b k) := by
  intro f
  induction f with
  | zero => intro i w hf; omega
  | succ f ih =>
    intro i w hf hin h hb hno
    have hn6 := h.2.1
    rw [m_isRest_2, h.1]
    by_cases c : (n : Int) ≤ (i : Int)
    · have : i = n := by omega
      subst this
      have er : rst i lw it b = true := by
        unfold rst
        rw [List.all_eq_true]
        intro s hs
        rw [decide_eq_false (hno s (List.mem_range.mp hs))]
        rfl
      rw [if_pos c, er]
      exact ⟨w, rfl, h, hb⟩
    · have hin2 : i < n := by omega
      obtain ⟨w1, e1, h1, b1, g1, g2, f1⟩ := M_layBest (N := N) hN h hb hbd hin2
      rw [if_neg c, e1, b1_some, g2]
      have hlt := mo_lt (g := gw n lw it b i) (now := gn n lw it b i) (k := (lw 4).toNat) (Int.le_refl 0)
      by_cases cc : mo2 (gw n lw it b i) (gn n lw it b i) (lw 4).toNat ≤ 0
      · rw [if_pos cc, ww1 (by omega)]
        refine ih (i + 1) w1 (by omega) (by omega) h1 b1 (fun s hs => ?_)
        by_cases e : s = i
        · subst e
          intro z
          have : 0 < bv (gw n lw it b s) (lw 4).toNat - gn n lw it b s := by
            have : gn n lw it b s < bv (gw n lw it b s) (lw 4).toNat := z
            omega
          have := hlt.mpr this
          omega
        · exact hno s (by omega)
      · have er : rst n lw it b = false := by
          unfold rst
          rw [List.all_eq_false]
          refine ⟨i, List.mem_range.mpr hin2, ?_⟩
          have := hlt.mp (by omega)
          have : gn n lw it b i < bG n lw it b i := by show gn n lw it b i < bv (gw n lw it b i) (lw 4).toNat; omega
          rw [decide_eq_true this]
          simp
        rw [if_neg cc, er]
        exact ⟨w1, rfl, h1, b1⟩
theorem M_isRest (hN : 20 ≤ N) (h : ML w n lw it) (hb : ∀ k, k < n → w 64 k = b k) (hbd : bd n b) : ∃ w', m_isRest N w = some (b2i (rst n lw it b), w') ∧ ML w' n lw it ∧ (∀ k, k < n → w' 64 k = b k) := by
  have hn6 := h.2.1
  rw [m_isRest]
  exact mir_l (N := N) hN hbd N 0 w (by omega) (Nat.zero_le _) h hb (fun s hs => absurd hs (Nat.not_lt_zero s))
/-- one row of the reference's: laid, and a rest? -/
theorem M_row1 (hN : 20 ≤ N) (hn : n ≠ 0) (h : ML w n lw it) {r : Nat} (hr : r < 1000000) : (isr n lw it r = false ∧ ∃ w1, m_lay N r w = some (0, w1) ∧ ML w1 n lw it) ∨ (∃ w1 w2, m_lay N r w = some (1, w1) ∧ m_isRest N w1 = some (b2i (isr n lw it r), w2) ∧ ML w2 n lw it ∧ ∀ k, k < n → w2 64 k = bq r n k) := by
  obtain ⟨w1, e1, h1, f1, d1⟩ := M_lay (N := N) (by omega) h hn (x := (r : Int)) (by unfold aw_I; omega)
  rw [okr_vr hn] at e1
  unfold isr
  cases hv : vr r n (lw 4).toNat with
  | false =>
    rw [hv] at e1
    exact Or.inl ⟨rfl, w1, e1, h1⟩
  | true =>
    rw [hv] at e1
    have hb := d1 (by rw [okr_vr hn]; exact hv)
    obtain ⟨w2, e2, h2, b2⟩ := M_isRest (N := N) (b := bq r n) hN h1 (fun k hk => by rw [hb k hk, bb_bq hk]) (bq_bd r n)
    exact Or.inr ⟨w1, w2, e1, e2, h2, b2⟩
theorem isr_out (hn4 : n ≤ 4) : ∃ k, 10 ^ n + k = 10000 ∧ ∀ r, 10 ^ n ≤ r → r < 10 ^ n + k → isr n lw it r = false := by
  have := p10_4 hn4
  refine ⟨10000 - 10 ^ n, by omega, fun r h1 _ => ?_⟩
  unfold isr
  cases hv : vr r n (lw 4).toNat with
  | false => rfl
  | true => have := vr_lt hv; omega
theorem mre_l (hN : 20 ≤ N) (hn : n ≠ 0) (hn4 : n ≤ 4) {x1 : Int} : ∀ (f r : Nat) (w : aw_W), 10 ^ n - r < f → r ≤ 10 ^ n → ML w n lw it → (0 ≤ x1 → (ct (isr n lw it) r : Int) ≤ x1) → ∃ w', m_rests_20 N f x1 (ct (isr n lw it) r) r w = some ((if x1 = -1 then (ct (isr n lw it) 10000 : Int) else if x1 < 0 ∨ (ct (isr n lw it) 10000 : Int) ≤ x1 then -1 else nq (isr n lw it) 10000 x1.toNat), w') := by
  have hp : 10 ^ n ≤ 10000 := p10_4 hn4
  obtain ⟨ko, ko1, ko2⟩ := isr_out (lw := lw) (it := it) hn4
  have cut := ct_cut ko ko2
  rw [ko1] at cut
  intro f
  induction f with
  | zero => intro r w hf; omega
  | succ f ih =>
    intro r w hf hr h hle
    have hcl := ct_le (isr n lw it) r
    rw [m_rests_20, M_rowMany (by omega) h, b2_some]
    by_cases c : ((10 ^ n : Nat) : Int) ≤ (r : Int)
    · have er : r = 10 ^ n := by omega
      rw [if_pos c, m_rests_62, er, cut]
      by_cases z : x1 = -1
      · rw [if_pos z, if_pos z]; exact ⟨w, rfl⟩
      · rw [if_neg z, if_neg z, if_pos (by
          by_cases z0 : x1 < 0
          · exact Or.inl z0
          · right
            rw [er] at hle
            exact hle (by omega))]
        exact ⟨w, rfl⟩
    · have hcs := ct_s (isr n lw it) r
      rw [if_neg c]
      rcases M_row1 (N := N) hN hn h (show r < 1000000 by omega) with ⟨hq, w1, e1, h1⟩ | ⟨w1, w2, e1, e2, h2, b2⟩
      · rw [hq] at hcs
        have hcs' : ct (isr n lw it) (r + 1) = ct (isr n lw it) r := by simpa using hcs
        rw [e1, b2_some, if_pos rfl, m_rests_56, ww1 (by omega)]
        have := ih (r + 1) w1 (by omega) (by omega) h1 (by rw [hcs']; exact hle)
        rw [hcs'] at this
        exact this
      · rw [e1, b2_some, if_neg (by decide), e2, b2_some]
        cases hq : isr n lw it r with
        | false =>
          rw [hq] at hcs
          have hcs' : ct (isr n lw it) (r + 1) = ct (isr n lw it) r := by simpa using hcs
          rw [if_pos (by rfl), m_rests_56, ww1 (by omega)]
          have := ih (r + 1) w2 (by omega) (by omega) h2 (by rw [hcs']; exact hle)
          rw [hcs'] at this
          exact this
        | true =>
          rw [hq, if_pos rfl] at hcs
          rw [if_neg (by decide)]
          by_cases z : (ct (isr n lw it) r : Int) = x1
          · have hi : ct (isr n lw it) r = x1.toNat := by omega
            have hlt : ct (isr n lw it) (r + 1) ≤ ct (isr n lw it) 10000 := ct_mono _ (by omega)
            rw [if_pos z, if_neg (by omega), if_neg (by omega), nq_some (by omega) hq hi]
            exact ⟨w2, rfl⟩
          · rw [if_neg z, m_rests_56, ww1 (by omega), ww1 (by omega), ← hcs]
            exact ih (r + 1) w2 (by omega) (by omega) h2 (fun z0 => by have := hle z0; rw [hcs]; omega)
theorem M_rests (hN : 10000000 ≤ N) (h : ML w n lw it) {x1 : Int} : ∃ w', m_rests N x1 w = some (a_rests n lw it x1, w') := by
  unfold a_rests
  have h0 : ML (aw_up w 49 0 0) n lw it := h.fr (S := [(49, 0)]) ((fr_r _ w).up rfl) rfl
  rw [m_rests, M_areFew h0, b2_some]
  cases hf : few n with
  | false => rw [if_pos (by rfl), if_pos rfl]; exact ⟨_, rfl⟩
  | true =>
    have hn := few_n hf
    have hp : 10 ^ n ≤ 10000 := p10_4 hn.2
    rw [if_neg (by decide), if_neg (by simp)]
    exact mre_l (N := N) (by omega) (by omega) hn.2 N 0 _ (by omega) (Nat.zero_le _) h0 (fun z => by show ((0 : Nat) : Int) ≤ x1; omega)
theorem mse_l (hN : 20 ≤ N) (hn : n ≠ 0) (hn4 : n ≤ 4) (hL : LB lw) {x1 : Int} : ∀ (f r : Nat) (w : aw_W), 10 ^ n - r < f → r ≤ 10 ^ n → ML w n lw it → ∃ w', m_seller_30 N f x1 (if x1 = 0 then mnT (isr n lw it) (tkr n lw) r else mxT (isr n lw it) (tkr n lw) r) r w = some ((if x1 = 0 then mnT (isr n lw it) (tkr n lw) (10 ^ n) else mxT (isr n lw it) (tkr n lw) (10 ^ n)), w') := by
  have hp : 10 ^ n ≤ 10000 := p10_4 hn4
  intro f
  induction f with
  | zero => intro r w hf; omega
  | succ f ih =>
    intro r w hf hr h
    have mt := mT_0 (q := isr n lw it) (t := tkr n lw) (tkr_0 hL) r
    rw [m_seller_30, M_rowMany (by omega) h, b2_some]
    by_cases c : ((10 ^ n : Nat) : Int) ≤ (r : Int)
    · have er : r = 10 ^ n := by omega
      rw [if_pos c, er]
      exact ⟨w, rfl⟩
    · have e1m := mnT_s (isr n lw it) (tkr n lw) r
      have e1x := mxT_s (isr n lw it) (tkr n lw) r
      have skip : isr n lw it r = false → ∀ w1, ML w1 n lw it → ∃ w', m_seller_89 N (m_seller_30 N f) x1 (if x1 = 0 then mnT (isr n lw it) (tkr n lw) r else mxT (isr n lw it) (tkr n lw) r) r w1 = some ((if x1 = 0 then mnT (isr n lw it) (tkr n lw) (10 ^ n) else mxT (isr n lw it) (tkr n lw) (10 ^ n)), w') := by
        intro hq w1 h1
        rw [hq, if_neg (by simp)] at e1m e1x
        have := ih (r + 1) w1 (by omega) (by omega) h1
        rw [e1m, e1x] at this
        rw [m_seller_89, ww1 (by omega)]
        exact this
      rw [if_neg c]
      rcases M_row1 (N := N) hN hn h (show r < 1000000 by omega) with ⟨hq, w1, e1, h1⟩ | ⟨w1, w2, e1, e2, h2, b2⟩
      · rw [e1, b2_some, if_pos rfl]
        exact skip hq w1 h1
      · rw [e1, b2_some, if_neg (by decide), e2, b2_some]
        cases hq : isr n lw it r with
        | false =>
          rw [if_pos (by rfl)]
          exact skip hq w2 h2
        | true =>
          rw [hq, if_pos rfl] at e1m e1x
          obtain ⟨w3, e3, h3, b3, f3⟩ := M_allPaid (N := N) (by omega) h2 hn b2 (bq_bd r n)
          have e3' : m_allPaid N w2 = some (tkr n lw r, w3) := e3
          rw [if_neg (by decide), e3', b2_some]
          have nx := ih (r + 1) w3 (by omega) (by omega) h3
          by_cases c0 : ct (isr n lw it) r = 0
          · obtain ⟨t1, t2⟩ := mt.1 c0
            rw [if_pos c0] at e1m e1x
            have z1 : (if x1 = 0 then mnT (isr n lw it) (tkr n lw) r else mxT (isr n lw it) (tkr n lw) r) = -1 := by rw [t1, t2]; split <;> rfl
            have z2 : (if x1 = 0 then mnT (isr n lw it) (tkr n lw) (r + 1) else mxT (isr n lw it) (tkr n lw) (r + 1)) = tkr n lw r := by rw [e1m, e1x]; split <;> rfl
            rw [z2] at nx
            rw [z1, if_pos rfl, m_seller_86, m_seller_89, ww1 (by omega)]
            exact nx
          · obtain ⟨t1, t2⟩ := mt.2 c0
            rw [if_neg c0] at e1m e1x
            by_cases zx : x1 = 0
            · rw [if_pos zx, e1m] at nx
              rw [if_pos zx, if_neg (by omega), if_pos zx]
              by_cases cc : mnT (isr n lw it) (tkr n lw) r ≤ tkr n lw r
              · rw [if_neg (by omega)] at nx
                rw [if_pos cc, m_seller_89, ww1 (by omega)]
                exact nx
              · rw [if_pos (by omega)] at nx
                rw [if_neg cc, m_seller_86, m_seller_89, ww1 (by omega)]
                exact nx
            · rw [if_neg zx, e1x] at nx
              rw [if_neg zx, if_neg (by omega), if_neg zx]
              by_cases cc : tkr n lw r ≤ mxT (isr n lw it) (tkr n lw) r
              · rw [if_neg (by omega)] at nx
                rw [if_pos cc, m_seller_89, ww1 (by omega)]
                exact nx
              · rw [if_pos (by omega)] at nx
                rw [if_neg cc, m_seller_86, m_seller_89, ww1 (by omega)]
                exact nx
theorem M_seller (hN : 10000000 ≤ N) (h : ML w n lw it) {x1 : Int} : ∃ w', m_seller N x1 w = some (a_seller n lw it x1, w') := by
  unfold a_seller
  have h0 : ML (aw_up w 49 0 0) n lw it := h.fr (S := [(49, 0)]) ((fr_r _ w).up rfl) rfl
  rw [m_seller, M_areFew h0, b2_some]
  cases hf : few n with
  | false => rw [if_pos (by rfl), if_pos (Or.inl rfl)]; exact ⟨_, rfl⟩
  | true =>
    have hn := few_n hf
    have hp : 10 ^ n ≤ 10000 := p10_4 hn.2
    rw [if_neg (by decide), m_isIn_ok, b2_some]
    by_cases c : 0 ≤ x1 ∧ x1 ≤ 1
    · have hL := (h.2.2.2.2.2 (by omega)).1
      obtain ⟨w1, e1⟩ := mse_l (N := N) (it := it) (x1 := x1) (by omega) (show n ≠ 0 by omega) hn.2 hL N 0 _ (by omega) (Nat.zero_le _) h0
      have z0 : (if x1 = 0 then mnT (isr n lw it) (tkr n lw) 0 else mxT (isr n lw it) (tkr n lw) 0) = -1 := by split <;> rfl
      rw [z0] at e1
      have e1' : m_seller_30 N N x1 (-1) 0 (aw_up w 49 0 0) = _ := e1
      obtain ⟨ko, ko1, ko2⟩ := isr_out (lw := lw) (it := it) hn.2
      have k1 := ct_cut ko ko2
      have k2 := mnT_c (isr n lw it) (tkr n lw) ko ko2
      have k3 := mxT_c (isr n lw it) (tkr n lw) ko ko2
      rw [ko1] at k1 k2 k3
      rw [if_neg (fun z => b2i_and.mp z c), if_neg (c := _ ∨ _) (fun z => z.elim (fun z => by cases z) (fun z => z c)), e1', k1, k2, k3]
      have mt := mT_0 (q := isr n lw it) (t := tkr n lw) (tkr_0 hL) (10 ^ n)
      by_cases z : ct (isr n lw it) (10 ^ n) = 0
      · rw [if_pos z, (mt.1 z).1, (mt.1 z).2]
        exact ⟨w1, by split <;> rfl⟩
      · rw [if_neg z]
        exact ⟨w1, rfl⟩
    · rw [if_pos (b2i_and.mpr c), if_pos (c := _ ∨ _) (Or.inr c)]
      exact ⟨_, rfl⟩
end RS
