/-! ===== pure: rests, seller ===== -/
def mk (w : aw_W) (r : Nat) : Bool := lb (w 24 (r / 64)) (r % 64)
theorem td64 (r : Nat) : Int.tdiv (r : Int) 64 = ((r / 64 : Nat) : Int) := rfl
theorem tm64 (r : Nat) : Int.tmod (r : Int) 64 = ((r % 64 : Nat) : Int) := rfl
theorem ww64 {r : Nat} (h : r < 10000) : aw_w (Int.tdiv (r : Int) 64) = ((r / 64 : Nat) : Int) ∧ aw_w (Int.tmod (r : Int) 64) = ((r % 64 : Nat) : Int) := by
  rw [td64, tm64]
  exact ⟨ww (by omega) (by omega), ww (by omega) (by omega)⟩
section RE
variable {N : Nat} {w : aw_W} {n : Nat} {lw it b : Nat → Int}
theorem X_markOn {r : Nat} (hr : r < 10000) : ∃ w', x_Rests_mark N r 1 w = some w' ∧ (∀ j, mk w' j = (mk w j || decide (j = r))) ∧ fr_ S_x_Rests_mark w w' := by
  have e : x_Rests_mark N r 1 w = some (aw_up w 24 (r / 64) (aw_orL (w 24 (r / 64)) (aw_shlL 1 ((r % 64 : Nat) : Int)))) := by
    rw [x_Rests_mark, if_neg (by omega), if_pos (by omega), if_neg (by decide), (ww64 hr).1, (ww64 hr).2, if_pos ⟨by omega, by omega⟩, if_pos ⟨by omega, by omega⟩, Int.toNat_natCast]
    rfl
  refine ⟨_, e, fun j => ?_, f_x_Rests_mark N _ _ _ _ e⟩
  unfold mk
  by_cases c : j / 64 = r / 64
  · rw [c]
    simp only [aw_up, and_self, if_true]
    rw [lb_or _ (Nat.mod_lt _ (by decide)) (Nat.mod_lt _ (by decide))]
    have e2 : decide (j % 64 = r % 64) = decide (j = r) := by
      rw [Bool.eq_iff_iff, decide_eq_true_eq, decide_eq_true_eq]
      omega
    rw [e2]
  · have : ¬ j = r := fun z => c (by rw [z])
    simp only [aw_up, c, and_false, if_false]
    simp [this]
theorem X_markOff {r : Nat} (hr : r < 10000) : ∃ w', x_Rests_mark N r 0 w = some w' ∧ (∀ j, mk w' j = (mk w j && !(decide (j = r)))) ∧ fr_ S_x_Rests_mark w w' := by
  have e : x_Rests_mark N r 0 w = some (aw_up w 24 (r / 64) (aw_andL (w 24 (r / 64)) (aw_xorL (aw_shlL 1 ((r % 64 : Nat) : Int)) (-1)))) := by
    rw [x_Rests_mark, if_neg (by omega), if_pos (by omega), if_pos rfl, (ww64 hr).1, (ww64 hr).2, if_pos ⟨by omega, by omega⟩, if_pos ⟨by omega, by omega⟩, Int.toNat_natCast]
    rfl
  refine ⟨_, e, fun j => ?_, f_x_Rests_mark N _ _ _ _ e⟩
  unfold mk
  by_cases c : j / 64 = r / 64
  · rw [c]
    simp only [aw_up, and_self, if_true]
    rw [lb_no _ (Nat.mod_lt _ (by decide)) (Nat.mod_lt _ (by decide))]
    have e2 : decide (j % 64 = r % 64) = decide (j = r) := by
      rw [Bool.eq_iff_iff, decide_eq_true_eq, decide_eq_true_eq]
      omega
    rw [e2]
  · have : ¬ j = r := fun z => c (by rw [z])
    simp only [aw_up, c, and_false, if_false]
    simp [this]
theorem X_isMarked {r : Nat} (hr : r < 10000) : x_Rests_isMarked N r w = some (b2i (mk w r), w) := by
  rw [x_Rests_isMarked, if_neg (by omega), if_neg (by omega), (ww64 hr).1, (ww64 hr).2, if_pos ⟨by omega, by omega⟩, Int.toNat_natCast]
  cases hm : mk w r with
  | false => rw [if_pos ((lb_is _ (Nat.mod_lt _ (by decide))).mpr hm)]; rfl
  | true =>
    rw [if_neg]
    · rfl
    · intro z
      have := (lb_is _ (Nat.mod_lt _ (by decide))).mp z
      unfold mk at hm
      rw [hm] at this
      cases this
theorem jfl_l : ∀ (m f i : Nat) (w : aw_W), m < f → i + m = 157 → (∀ k, k < i → w 24 k = 0) → ∃ w', j_Arr_fill_Ll_6 N f 0 i 157 w = some w' ∧ ∀ k, k < 157 → w' 24 k = 0 := by
  intro m
  induction m with
  | zero =>
    intro f i w hf hi hz
    obtain ⟨f, rfl⟩ : ∃ g, f = g + 1 := ⟨f - 1, by omega⟩
    rw [j_Arr_fill_Ll_6, if_pos (by omega)]
    exact ⟨w, rfl, fun k hk => hz k (by omega)⟩
  | succ m ih =>
    intro f i w hf hi hz
    obtain ⟨f, rfl⟩ : ∃ g, f = g + 1 := ⟨f - 1, by omega⟩
    rw [j_Arr_fill_Ll_6, if_neg (by omega), if_pos ⟨by omega, by omega⟩, ww1 (by omega), Int.toNat_natCast]
    refine ih f (i + 1) _ (by omega) (by omega) (fun k hk => ?_)
    by_cases e : k = i
    · subst e; simp [aw_up]
    · simp [aw_up, e]; exact hz k (by omega)
theorem lb0 (j : Nat) : lb 0 j = false := by
  unfold lb
  rw [show lU 0 = 0 from by decide +kernel]
  exact Nat.zero_testBit j
theorem X_fillMarks (hN : 1000 ≤ N) : ∃ w', j_Arr_fill_Ll N 0 w = some w' ∧ (∀ r, r < 10048 → mk w' r = false) ∧ fr_ S_j_Arr_fill_Ll w w' := by
  obtain ⟨w', e, h⟩ := jfl_l (N := N) 157 N 0 w (by omega) (by omega) (fun k hk => absurd hk (Nat.not_lt_zero k))
  have e' : j_Arr_fill_Ll N 0 w = some w' := e
  refine ⟨w', e', fun r hr => ?_, f_j_Arr_fill_Ll N _ _ _ e'⟩
  unfold mk
  rw [h _ (by omega)]
  exact lb0 _
theorem p10_4 {n : Nat} (h : n ≤ 4) : 10 ^ n ≤ 10000 := Nat.pow_le_pow_right (n := 10) (by decide) h
theorem rb_4 (h : bd n b) (hn : n ≤ 4) : rb n b < 10000 := Nat.lt_of_lt_of_le (rv_lt (fun s hs => (bdN h s hs).2)) (p10_4 hn)
theorem xma_l (hN : 10 ≤ N) (hn : n ≠ 0) (hn4 : n ≤ 4) {rows : Nat} (hr : rows ≤ 1000000) : ∀ (m f i : Nat) (w : aw_W) (b : Nat → Int), m < f → i + m = rows → XL w n lw it → bd n b → (∀ k, k < n → w 21 k = b k) → ∃ w', x_Rests_markAll_27 N f ((2 ^ n - 1 : Nat) : Int) rows i w = some w' ∧ XL w' n lw it ∧ ∀ j, mk w' j = (mk w j || (its (2 ^ n - 1).testBit (lw 4) n m b).any (fun c => decide (j = rb n c))) := by
  intro m
  induction m with
  | zero =>
    intro f i w b hf hi h hbd hb
    obtain ⟨f, rfl⟩ : ∃ g, f = g + 1 := ⟨f - 1, by omega⟩
    rw [x_Rests_markAll_27, if_pos (by omega)]
    exact ⟨w, rfl, h, fun j => by simp [its]⟩
  | succ m ih =>
    intro f i w b hf hi h hbd hb
    obtain ⟨f, rfl⟩ : ∃ g, f = g + 1 := ⟨f - 1, by omega⟩
    have hn6 := h.2.1
    have al := all_n n hn6
    have h9 := (h.2.2.2.2.2 hn).1.2.2.2.2
    obtain ⟨w2, e2, m2, f2⟩ := X_markOn (N := N) (w := w) (rb_4 hbd hn4)
    have h2 := h.fr f2 rfl
    have b2 : ∀ k, k < n → w2 21 k = b k := fun k hk => by rw [f2 21 k rfl]; exact hb k hk
    obtain ⟨w5, e5, h5, b5, f5⟩ := X_next (N := N) hN h2 hbd b2 al.2.1
    rw [x_Rests_markAll_27, if_neg (by omega), X_row hN h hb hbd, b2_some, e2, b1_some, e5, b1_some, ww1 (by omega)]
    obtain ⟨w6, e6, h6, m6⟩ := ih f (i + 1) w5 _ (by omega) (by omega) h5 (nx_bd h9 (Nat.le_refl _) hbd) b5
    refine ⟨w6, e6, h6, fun j => ?_⟩
    have : mk w5 j = mk w2 j := by unfold mk; rw [f5 24 _ rfl]
    rw [m6 j, this, m2 j, Bool.or_assoc]
    rfl
theorem X_markAll (hN : 10000000 ≤ N) (h : XL w n lw it) (hn : n ≠ 0) (hn4 : n ≤ 4) : ∃ w', x_Rests_markAll N w = some w' ∧ XL w' n lw it ∧ (∀ j, mk w' j = (mk w j || (rls n (lw 4).toNat).any (fun r => decide (j = rb n (bq r n))))) := by
  have hn6 := h.2.1
  have al := all_n n hn6
  have pn := pow_n n hn6
  have h9 := (h.2.2.2.2.2 hn).1.2.2.2.2
  rw [x_Rests_markAll, X_all h, b2_some]
  obtain ⟨w1, e1, h1, b1, f1⟩ := X_lowest (N := N) (b := fun k => w 21 k) (by omega) h (fun _ _ => rfl) al.2.1
  rw [e1, b1_some, X_rowsOf (by omega) h1 hn (show 2 ^ n - 1 < 2 ^ n by omega), b2_some]
  have hl := lenr_le (p := (2 ^ n - 1).testBit) (mo := (lw 4).toNat) (n := n) (by omega) hn6
  have hz : ∀ k, k < n → w1 21 k = zr (2 ^ n - 1).testBit n (fun _ => 0) k := by
    intro k hk
    rw [b1 k hk]
    unfold zr
    rw [if_pos ⟨al.2.2 k hk, hk⟩, if_pos ⟨al.2.2 k hk, hk⟩]
  obtain ⟨w3, e3, h3, m3⟩ := xma_l (N := N) (by omega) hn hn4 hl.2 _ N 0 w1 _ (by omega) (Nat.zero_add _) h1 (zr_bd (fun _ _ => ⟨Int.le_refl _, by decide⟩)) hz
  have em : lw 4 = ((lw 4).toNat : Int) := by omega
  have ei := its_all (p := (2 ^ n - 1).testBit) (mo := (lw 4).toNat) (n := n) (b := fun _ => (0 : Int))
  rw [← em] at ei
  refine ⟨w3, e3, h3, fun j => ?_⟩
  have : mk w1 j = mk w j := by unfold mk; rw [f1 24 _ rfl]
  rw [m3 j, ei, rws_all (by omega) al.2.2 (fun _ _ => rfl), List.any_map, this]
  rfl
theorem upb_comm {i j : Nat} (x y : Int) (h : i ≠ j) : upb (upb b j y) i x = upb (upb b i x) j y := by
  funext k
  unfold upb
  by_cases e1 : k = i
  · rw [if_pos e1, if_neg (fun z => h (e1.symm.trans z)), if_pos e1]
  · rw [if_neg e1]
    by_cases e2 : k = j
    · rw [if_pos e2, if_pos e2]
    · rw [if_neg e2, if_neg e2, if_neg e1]
theorem nx_upb {p : Nat → Bool} {mo : Int} {j : Nat} (hp : p j = false) (o : Int) : ∀ (i : Nat) (b : Nat → Int), nx p mo i (upb b j o) = upb (nx p mo i b) j o
  | 0, b => rfl
  | i + 1, b => by
    rw [nx_s, nx_s]
    by_cases c : p i = true
    · have hne : i ≠ j := fun z => by rw [z, hp] at c; cases c
      have e : upb b j o i = b i := by unfold upb; rw [if_neg hne]
      rw [if_pos c, if_pos c, e]
      by_cases d : mo ≤ b i
      · rw [if_pos d, if_pos d, upb_comm _ _ hne, nx_upb hp o i]
      · rw [if_neg d, if_neg d, upb_comm _ _ hne]
    · rw [if_neg c, if_neg c, nx_upb hp o i]
/-- the row c with the bid v of i is worse for i than another one: its number is j -/
def bad (n : Nat) (lw it : Nat → Int) (i j : Nat) (c : Nat → Int) (m : Nat) : Bool := (List.range m).any (fun v => decide (gw n lw it c i v < bG n lw it c i) && decide (j = rb n (upb c i (v : Int))))
theorem bad_s {i j : Nat} {c : Nat → Int} {m : Nat} : bad n lw it i j c (m + 1) = (bad n lw it i j c m || (decide (gw n lw it c i m < bG n lw it c i) && decide (j = rb n (upb c i (m : Int))))) := by
  unfold bad
  rw [List.range_succ, List.any_append]
  simp
theorem xuw_a (hN : 10 ≤ N) {i : Nat} (hi : i < n) (hbd : bd n b) {mo : Nat} (hmo : lw 4 = mo) (hmo9 : mo ≤ 9) (k34 : Int → Int → Int → Int → aw_W → Option aw_W) (a rows x : Int) : ∀ (f v : Nat) (w : aw_W) (best : Int), mo + 1 - v < f → v ≤ mo + 1 → XL w n lw it → (∀ k, k < n → k ≠ i → w 21 k = b k) → (0 < v → best = bv (gw n lw it b i) (v - 1) ∧ 0 ≤ w 21 i ∧ w 21 i ≤ 9) → (∀ u, u < v → w 25 u = gw n lw it b i u) → ∃ w', x_Rests_unmarkWorse_46 N k34 f i a rows x best v w = x_Rests_unmarkWorse_119 N k34 i a rows x (bG n lw it b i) w' ∧ XL w' n lw it ∧ (∀ k, k < n → k ≠ i → w' 21 k = b k) ∧ (0 ≤ w' 21 i ∧ w' 21 i ≤ 9) ∧ (∀ u, u < mo + 1 → w' 25 u = gw n lw it b i u) ∧ (∀ j, mk w' j = mk w j) := by
  intro f
  induction f with
  | zero => intro v w best hf; omega
  | succ f ih =>
    intro v w best hf hv h hb hbest hg
    have hn6 := h.2.1
    have hn : n ≠ 0 := by omega
    rw [x_Rests_unmarkWorse_46, h.2.2.2.1 4 (by decide), hmo]
    by_cases c : (mo : Int) < (v : Int)
    · have ev : v = mo + 1 := by omega
      subst ev
      obtain ⟨eb, o1⟩ := hbest (by omega)
      rw [Nat.add_sub_cancel] at eb
      have eG : bG n lw it b i = bv (gw n lw it b i) mo := by unfold bG; rw [hmo, Int.toNat_natCast]
      rw [if_pos c, eb, ← eG]
      exact ⟨w, rfl, h, hb, o1, hg, fun _ => rfl⟩
    · have h0 : XL (aw_up w 21 i (v : Int)) n lw it := h.fr (S := [(21, 1000000)]) ((fr_r _ w).upA rfl) rfl
      have hb0 : ∀ k, k < n → (aw_up w 21 i (v : Int)) 21 k = upb b i (v : Int) k := by
        intro k hk
        unfold upb
        by_cases e : k = i
        · subst e; simp [aw_up]
        · simp [aw_up, e]; exact hb k hk e
      have hbd2 := upb_bd (s := i) (o := (v : Int)) hbd (by omega)
      obtain ⟨w2, e2, h2, b2, s3, s4, s5, s6, ss, f2⟩ := X_settle (N := N) hN h0 hn hb0
      have eg : x_Sale_gainWith N i v w = some (gw n lw it b i v, w2) := by
        rw [x_Sale_gainWith, if_pos ⟨by omega, by omega⟩, Int.toNat_natCast, e2, b1_some, X_gainOf h2 hn b2 hbd2 ss hi, b2_some]
        rfl
      have fg := f_x_Sale_gainWith N _ _ _ _ _ eg
      have nxt : ∀ best', best' = bv (gw n lw it b i) v → ∃ w', x_Rests_unmarkWorse_111 N k34 (x_Rests_unmarkWorse_46 N k34 f) i a rows x v best' (aw_up w2 25 v (gw n lw it b i v)) = x_Rests_unmarkWorse_119 N k34 i a rows x (bG n lw it b i) w' ∧ XL w' n lw it ∧ (∀ k, k < n → k ≠ i → w' 21 k = b k) ∧ (0 ≤ w' 21 i ∧ w' 21 i ≤ 9) ∧ (∀ u, u < mo + 1 → w' 25 u = gw n lw it b i u) ∧ (∀ j, mk w' j = mk w j) := by
        intro best' eb'
        rw [x_Rests_unmarkWorse_111, ww1 (by omega)]
        obtain ⟨w', p1, p2, p3, p3', p4, p5⟩ := ih (v + 1) (aw_up w2 25 v (gw n lw it b i v)) best' (by omega) (by omega) (h2.fr (S := [(25, 1000000)]) ((fr_r _ w2).upA rfl) rfl) (fun k hk hne => by
          simp [aw_up]
          rw [b2 k hk]
          unfold upb
          rw [if_neg hne]) (fun _ => ⟨by rw [Nat.add_sub_cancel]; exact eb', by
            have : (aw_up w2 25 v (gw n lw it b i v)) 21 i = (v : Int) := by
              simp [aw_up]
              rw [b2 i hi]
              unfold upb
              rw [if_pos rfl]
            rw [this]
            omega⟩) (fun u hu => by
          by_cases e : u = v
          · subst e; simp [aw_up]
          · simp [aw_up, e]
            rw [fg 25 u rfl]
            exact hg u (by omega))
        refine ⟨w', p1, p2, p3, p3', p4, fun j => ?_⟩
        rw [p5 j]
        unfold mk
        simp only [aw_up]
        rw [if_neg (by simp), fg 24 _ rfl]
      have e25 : (aw_up w2 25 v (gw n lw it b i v)) 25 v = gw n lw it b i v := by simp [aw_up]
      rw [if_neg c, if_neg (by omega), eg, b2_some, if_pos ⟨by omega, by omega⟩]
      by_cases c0 : v = 0
      · rw [if_pos (by omega), if_pos ⟨by omega, by omega⟩, Int.toNat_natCast, e25]
        subst c0
        exact nxt _ rfl
      · rw [if_neg (by omega), if_pos ⟨by omega, by omega⟩, Int.toNat_natCast, e25]
        obtain ⟨u, rfl⟩ : ∃ u, v = u + 1 := ⟨v - 1, by omega⟩
        have eb := (hbest (by omega)).1
        rw [Nat.add_sub_cancel] at eb
        refine nxt _ ?_
        rw [bv_s, eb]
        rfl
theorem xuw_b (hN : 10 ≤ N) (hn4 : n ≤ 4) {i : Nat} (hi : i < n) (hbd : bd n b) {mo : Nat} (hmo : lw 4 = mo) (hmo9 : mo ≤ 9) (k34 : Int → Int → Int → Int → aw_W → Option aw_W) (a rows x : Int) (q : Nat → Bool) : ∀ (f v : Nat) (w : aw_W), mo + 1 - v < f → v ≤ mo + 1 → XL w n lw it → (∀ k, k < n → k ≠ i → w 21 k = b k) → (0 ≤ w 21 i ∧ w 21 i ≤ 9) → (∀ u, u < mo + 1 → w 25 u = gw n lw it b i u) → (∀ j, mk w j = (q j && !(bad n lw it i j b v))) → ∃ w', x_Rests_unmarkWorse_122 N k34 f i a rows x (bG n lw it b i) v w = x_Rests_unmarkWorse_184 N k34 i a rows x w' ∧ XL w' n lw it ∧ (∀ k, k < n → k ≠ i → w' 21 k = b k) ∧ (0 ≤ w' 21 i ∧ w' 21 i ≤ 9) ∧ (∀ j, mk w' j = (q j && !(bad n lw it i j b (mo + 1)))) := by
  intro f
  induction f with
  | zero => intro v w hf; omega
  | succ f ih =>
    intro v w hf hv h hb ho hg hm
    have hn6 := h.2.1
    have hn : n ≠ 0 := by omega
    rw [x_Rests_unmarkWorse_122, h.2.2.2.1 4 (by decide), hmo]
    by_cases c : (mo : Int) < (v : Int)
    · have ev : v = mo + 1 := by omega
      subst ev
      rw [if_pos c]
      exact ⟨w, rfl, h, hb, ho, hm⟩
    · rw [if_neg c, if_neg (by omega), if_pos ⟨by omega, by omega⟩, Int.toNat_natCast, hg v (by omega)]
      by_cases d : bG n lw it b i ≤ gw n lw it b i v
      · rw [if_pos d, x_Rests_unmarkWorse_178, ww1 (by omega)]
        refine ih (v + 1) w (by omega) (by omega) h hb ho hg (fun j => ?_)
        rw [hm j, bad_s, decide_eq_false (show ¬ gw n lw it b i v < bG n lw it b i by omega)]
        simp
      · have hb0 : ∀ k, k < n → (aw_up w 21 i (v : Int)) 21 k = upb b i (v : Int) k := by
          intro k hk
          unfold upb
          by_cases e : k = i
          · subst e; simp [aw_up]
          · simp [aw_up, e]; exact hb k hk e
        have h0 : XL (aw_up w 21 i (v : Int)) n lw it := h.fr (S := [(21, 1000000)]) ((fr_r _ w).upA rfl) rfl
        have hbd2 := upb_bd (s := i) (o := (v : Int)) hbd (by omega)
        obtain ⟨w2, e2, m2, f2⟩ := X_markOff (N := N) (w := aw_up w 21 i (v : Int)) (rb_4 hbd2 hn4)
        rw [if_neg d, if_pos ⟨by omega, by omega⟩, Int.toNat_natCast, X_row hN h0 hb0 hbd2, b2_some, e2, b1_some, x_Rests_unmarkWorse_178, ww1 (by omega)]
        refine ih (v + 1) w2 (by omega) (by omega) (h0.fr f2 rfl) (fun k hk hne => by
          rw [f2 21 k rfl, hb0 k hk]
          unfold upb
          rw [if_neg hne]) (by
          have : w2 21 i = (v : Int) := by rw [f2 21 i rfl]; simp [aw_up]
          rw [this]
          omega) (fun u hu => by rw [f2 25 u rfl]; simp [aw_up]; exact hg u hu) (fun j => ?_)
        have em : mk (aw_up w 21 i (v : Int)) j = mk w j := by unfold mk; simp [aw_up]
        rw [m2 j, em, hm j, bad_s, decide_eq_true (show gw n lw it b i v < bG n lw it b i by omega)]
        cases q j <;> cases bad n lw it i j b v <;> simp
theorem xuw_l (hN : 20 ≤ N) (hn4 : n ≤ 4) {i : Nat} (hi : i < n) {mo : Nat} (hmo : lw 4 = mo) (hmo9 : mo ≤ 9) {a : Nat} (ha : a < 64) (hai : a.testBit i = false) {rows : Nat} (hr : rows ≤ 1000000) : ∀ (m f x : Nat) (w : aw_W) (b : Nat → Int), m < f → x + m = rows → XL w n lw it → bd n b → (∀ k, k < n → k ≠ i → w 21 k = b k) → ∃ w', x_Rests_unmarkWorse_34 N f i a rows x w = some w' ∧ XL w' n lw it ∧ ∀ j, mk w' j = (mk w j && !((its a.testBit (lw 4) n m b).any (fun c => bad n lw it i j c (mo + 1)))) := by
  intro m
  induction m with
  | zero =>
    intro f x w b hf hx h hbd hb
    obtain ⟨f, rfl⟩ : ∃ g, f = g + 1 := ⟨f - 1, by omega⟩
    rw [x_Rests_unmarkWorse_34, if_pos (by omega)]
    exact ⟨w, rfl, h, fun j => by simp [its]⟩
  | succ m ih =>
    intro f x w b hf hx h hbd hb
    obtain ⟨f, rfl⟩ : ∃ g, f = g + 1 := ⟨f - 1, by omega⟩
    have hn6 := h.2.1
    have h9 : 0 ≤ lw 4 ∧ lw 4 ≤ 9 := by omega
    obtain ⟨w1, e1, h1, b1, o1, g1, m1⟩ := xuw_a (N := N) (b := b) (by omega) hi hbd hmo hmo9 (x_Rests_unmarkWorse_34 N f) a rows x N 0 w 0 (by omega) (by omega) h hb (fun z => absurd z (Nat.lt_irrefl 0)) (fun u hu => absurd hu (Nat.not_lt_zero u))
    have e1' : x_Rests_unmarkWorse_46 N (x_Rests_unmarkWorse_34 N f) N i a rows x 0 0 w = x_Rests_unmarkWorse_119 N (x_Rests_unmarkWorse_34 N f) i a rows x (bG n lw it b i) w1 := e1
    obtain ⟨w2, e2, h2, b2, o2, m2⟩ := xuw_b (N := N) (b := b) (by omega) hn4 hi hbd hmo hmo9 (x_Rests_unmarkWorse_34 N f) a rows x (mk w) N 0 w1 (by omega) (by omega) h1 b1 o1 g1 (fun j => by rw [m1 j]; simp [bad])
    have e2' : x_Rests_unmarkWorse_122 N (x_Rests_unmarkWorse_34 N f) N i a rows x (bG n lw it b i) 0 w1 = x_Rests_unmarkWorse_184 N (x_Rests_unmarkWorse_34 N f) i a rows x w2 := e2
    have bu : ∀ k, k < n → w2 21 k = upb b i (w2 21 i) k := by
      intro k hk
      unfold upb
      by_cases e : k = i
      · rw [if_pos e, e]
      · rw [if_neg e]; exact b2 k hk e
    obtain ⟨w3, e3, h3, b3, f3⟩ := X_next (N := N) (by omega) h2 (upb_bd hbd o2) bu ha
    rw [nx_upb hai] at b3
    rw [x_Rests_unmarkWorse_34, if_neg (by omega), e1', x_Rests_unmarkWorse_119, e2', x_Rests_unmarkWorse_184, e3, b1_some, ww1 (by omega)]
    obtain ⟨w4, e4, h4, m4⟩ := ih f (x + 1) w3 (nx a.testBit (lw 4) n b) (by omega) (by omega) h3 (nx_bd h9 (Nat.le_refl _) hbd) (fun k hk hne => by
      rw [b3 k hk]
      unfold upb
      rw [if_neg hne])
    refine ⟨w4, e4, h4, fun j => ?_⟩
    have em : mk w3 j = mk w2 j := by unfold mk; rw [f3 24 _ rfl]
    rw [m4 j, em, m2 j]
    show _ = (mk w j && !(bad n lw it i j b (mo + 1) || _))
    cases mk w j <;> cases bad n lw it i j b (mo + 1) <;> simp
theorem X_unmarkWorse (hN : 10000000 ≤ N) (h : XL w n lw it) (hn4 : n ≤ 4) {i : Nat} (hi : i < n) : ∃ w', x_Rests_unmarkWorse N i w = some w' ∧ XL w' n lw it ∧ (∀ j, mk w' j = (mk w j && !((rws (fun k => !(decide (k = i))) (lw 4).toNat n 0 (fun _ => 0)).any (fun c => bad n lw it i j c ((lw 4).toNat + 1))))) := by
  have hn6 := h.2.1
  have hn : n ≠ 0 := by omega
  have pn := pow_n n hn6
  obtain ⟨o1, o2, o3⟩ := oth_ok n hn6 i hi
  have h9 := (h.2.2.2.2.2 hn).1.2.2.2.2
  rw [x_Rests_unmarkWorse, X_all h, b2_some, o1]
  obtain ⟨w1, e1, h1, b1, f1⟩ := X_lowest (N := N) (b := fun k => w 21 k) (by omega) h (fun _ _ => rfl) (a := 2 ^ n - 1 - 2 ^ i) (by omega)
  rw [e1, b1_some, X_rowsOf (by omega) h1 hn o2, b2_some]
  have hl := lenr_le (p := (2 ^ n - 1 - 2 ^ i).testBit) (mo := (lw 4).toNat) (n := n) (by omega) hn6
  have hai : (2 ^ n - 1 - 2 ^ i).testBit i = false := by rw [o3 i hi]; simp
  have hz : ∀ k, k < n → k ≠ i → w1 21 k = zr (2 ^ n - 1 - 2 ^ i).testBit n (fun _ => 0) k := by
    intro k hk hne
    rw [b1 k hk]
    unfold zr
    rw [if_pos ⟨by rw [o3 k hk]; simp [hne], hk⟩, if_pos ⟨by rw [o3 k hk]; simp [hne], hk⟩]
  obtain ⟨w3, e3, h3, m3⟩ := xuw_l (N := N) (by omega) hn4 hi (mo := (lw 4).toNat) (by omega) (by omega) (a := 2 ^ n - 1 - 2 ^ i) (by omega) hai hl.2 _ N 0 w1 _ (by omega) (Nat.zero_add _) h1 (zr_bd (fun _ _ => ⟨Int.le_refl _, by decide⟩)) hz
  have em : lw 4 = ((lw 4).toNat : Int) := by omega
  have ei := its_all (p := (2 ^ n - 1 - 2 ^ i).testBit) (mo := (lw 4).toNat) (n := n) (b := fun _ => (0 : Int))
  rw [← em] at ei
  refine ⟨w3, e3, h3, fun j => ?_⟩
  have : mk w1 j = mk w j := by unfold mk; rw [f1 24 _ rfl]
  rw [m3 j, ei, this, rws_congp (n := n) (q := fun k => !(decide (k = i))) (by omega) (fun j _ hj => o3 j hj)]
theorem mem_rws {p : Nat → Bool} {mo : Nat} {c : Nat → Int} : ∀ {k s : Nat} {b : Nat → Int}, s + k = n → (∀ j, (s ≤ j → j < n → p j = false) → c j = b j) → (∀ j, j < n → p j = true → ∃ v : Nat, v ≤ mo ∧ c j = v) → c ∈ rws p mo k s b
  | 0, s, b, hs, h1, h2 => by
    have : c = b := funext fun j => h1 j (fun _ _ => by omega)
    rw [this]
    simp [rws]
  | k + 1, s, b, hs, h1, h2 => by
    rw [rws_s]
    by_cases e : p s = true
    · rw [if_pos e, List.mem_flatMap]
      obtain ⟨v, hv, ev⟩ := h2 s (by omega) e
      refine ⟨v, List.mem_range.mpr (by omega), mem_rws (by omega) (fun j hj => ?_) h2⟩
      unfold upb
      by_cases ej : j = s
      · rw [if_pos ej, ej]; exact ev
      · rw [if_neg ej]; exact h1 j (fun z1 z2 => hj (by omega) z2)
    · rw [if_neg e]
      refine mem_rws (by omega) (fun j hj => h1 j (fun z1 z2 => ?_)) h2
      by_cases ej : j = s
      · rw [ej]; simpa using e
      · exact hj (by omega) z2
theorem rws_out {p : Nat → Bool} {mo : Nat} {c : Nat → Int} : ∀ {k s : Nat} {b : Nat → Int}, c ∈ rws p mo k s b → s + k = n → ∀ j, n ≤ j → c j = b j
  | 0, s, b, h, hs => by
    simp [rws] at h
    rw [h]
    intro j _
    rfl
  | k + 1, s, b, h, hs => by
    rw [rws_s] at h
    by_cases e : p s = true
    · rw [if_pos e, List.mem_flatMap] at h
      obtain ⟨v, hv, h⟩ := h
      intro j hj
      rw [rws_out h (by omega) j hj]
      unfold upb
      rw [if_neg (by omega)]
    · rw [if_neg e] at h
      exact rws_out h (by omega)
theorem rb_bq {r : Nat} (hr : r < 10 ^ n) : rb n (bq r n) = r := by
  unfold rb
  have : rv (fun k => (bq r n k).toNat) n = rv (dg r n) n := rv_cong (fun s hs => by unfold bq; rw [if_pos hs]; exact Int.toNat_natCast _)
  rw [this, rv_dg hr]
theorem bq_rb {c : Nat → Int} (hc : bd n c) (hz : ∀ j, n ≤ j → c j = 0) : bq (rb n c) n = c := by
  funext k
  unfold bq
  by_cases h : k < n
  · rw [if_pos h]
    unfold rb
    rw [dg_rv (fun s hs => (bdN hc s hs).2) k h]
    exact ((bdN hc k h).1).symm
  · rw [if_neg h, hz k (by omega)]
/-- the row r is a REST -/
def rst (n : Nat) (lw it b : Nat → Int) : Bool := (List.range n).all (fun s => !(decide (gn n lw it b s < bG n lw it b s)))
def isr (n : Nat) (lw it : Nat → Int) (r : Nat) : Bool := vr r n (lw 4).toNat && rst n lw it (bq r n)
theorem bad_iff (h9 : (lw 4).toNat ≤ 9) {i j : Nat} (hi : i < n) (hj : vr j n (lw 4).toNat = true) : (rws (fun k => !(decide (k = i))) (lw 4).toNat n 0 (fun _ => 0)).any (fun c => bad n lw it i j c ((lw 4).toNat + 1)) = decide (gn n lw it (bq j n) i < bG n lw it (bq j n) i) := by
  obtain ⟨v1, v2⟩ := vr_iff.mp hj
  have hj10 : j < 10 ^ n := by
    have h10 : 0 < 10 ^ n := Nat.pos_of_ne_zero (by simp)
    rcases Nat.div_eq_zero_iff.mp v1 with z | z
    · omega
    · exact z
  have key : ∀ (c : Nat → Int) (v : Nat), upb c i (v : Int) = bq j n → (gw n lw it c i v = gn n lw it (bq j n) i ∧ bG n lw it c i = bG n lw it (bq j n) i) := by
    intro c v e
    refine ⟨by unfold gw; rw [e], ?_⟩
    unfold bG
    congr 1
    funext o
    unfold gw
    rw [← e, upb_upb]
  rw [Bool.eq_iff_iff, List.any_eq_true, decide_eq_true_eq]
  constructor
  · rintro ⟨c, hc, hbad⟩
    unfold bad at hbad
    rw [List.any_eq_true] at hbad
    obtain ⟨v, hv, hb⟩ := hbad
    rw [List.mem_range] at hv
    rw [Bool.and_eq_true, decide_eq_true_eq, decide_eq_true_eq] at hb
    have hcb : bd n c := rws_bd h9 (fun _ _ => ⟨Int.le_refl _, by decide⟩) c hc
    have hcz : ∀ k, n ≤ k → upb c i (v : Int) k = 0 := by
      intro k hk
      unfold upb
      rw [if_neg (by omega)]
      exact rws_out hc (by omega) k hk
    have e := bq_rb (upb_bd (s := i) (o := (v : Int)) hcb (by omega)) hcz
    rw [← hb.2] at e
    obtain ⟨k1, k2⟩ := key c v e.symm
    rw [← k1, ← k2]
    exact hb.1
  · intro hlt
    have e : upb (upb (bq j n) i 0) i ((dg j n i : Nat) : Int) = bq j n := by
      rw [upb_upb]
      have : bq j n i = (dg j n i : Int) := by unfold bq; rw [if_pos hi]
      rw [← this, upb_self]
    obtain ⟨k1, k2⟩ := key _ _ e
    refine ⟨upb (bq j n) i 0, ?_, ?_⟩
    · refine mem_rws (n := n) (by omega) (fun k hk => ?_) (fun k hk hp => ?_)
      · unfold upb
        by_cases ek : k = i
        · rw [if_pos ek]
        · rw [if_neg ek]
          unfold bq
          by_cases c : k < n
          · have := hk (Nat.zero_le _) c
            simp [ek] at this
          · rw [if_neg c]
      · have ek : k ≠ i := by simpa using hp
        refine ⟨dg j n k, v2 k hk, ?_⟩
        unfold upb bq
        rw [if_neg ek, if_pos hk]
    · unfold bad
      rw [List.any_eq_true]
      refine ⟨dg j n i, List.mem_range.mpr (by have := v2 i hi; omega), ?_⟩
      rw [Bool.and_eq_true, decide_eq_true_eq, decide_eq_true_eq, k1, k2, e, rb_bq hj10]
      exact ⟨hlt, rfl⟩
end RE
