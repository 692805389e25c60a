/-! ===== pure: what is asked of races ===== -/
def rh (n : Nat) (lw c : Nat → Int) : Int := Hd (lw 0) (lw 1) (alR c) (scR c) n
def pm (n : Nat) (lw c : Nat → Int) (s : Nat) : Int := if c s = -1 then 0 else ((ct (fun k => ahd (lw 1) (alR c) (scR c) k s) n + 1 : Nat) : Int)
def mrb (x1 x2 : Int) : Bool := decide (1 ≤ x1) && decide (x1 ≤ 99) && decide (1 ≤ x2) && decide (x2 ≤ 99)
theorem mrb_iff {x1 x2 : Int} : mrb x1 x2 = true ↔ 1 ≤ x1 ∧ x1 ≤ 99 ∧ 1 ≤ x2 ∧ x2 ≤ 99 := by
  unfold mrb
  rw [Bool.and_eq_true, Bool.and_eq_true, Bool.and_eq_true, decide_eq_true_eq, decide_eq_true_eq, decide_eq_true_eq, decide_eq_true_eq, and_assoc, and_assoc]
theorem mrb_no {x1 x2 : Int} (h : ¬ (1 ≤ x1 ∧ x1 ≤ 99 ∧ 1 ≤ x2 ∧ x2 ≤ 99)) : mrb x1 x2 = false := by
  rw [Bool.eq_false_iff]
  exact fun q => h (mrb_iff.mp q)
def updi (rl : Nat → Int) (s0 : Nat) (v : Int) : Nat → Int := fun s => if s = s0 then v else rl s
def fsel (p : Nat → Bool) : Nat → Nat → Int
  | 0, _ => -1
  | d + 1, r => if p r then (r : Int) else fsel p d (r + 1)
theorem fsel_s (p : Nat → Bool) (d r : Nat) : fsel p (d + 1) r = if p r then (r : Int) else fsel p d (r + 1) := rfl
/-- the strivers' rules, on both sides -/
def XU (w : aw_W) (rl : Nat → Int) : Prop := ∀ s, s < 6 → w 6 s = rl s
def MU (w : aw_W) (rl : Nat → Int) : Prop := (∀ s, s < 6 → w 58 s = rl s) ∧ w 49 32 = -1
def P_XU : List (Nat × Nat) := [(6, 1000000)]
def P_MU : List (Nat × Nat) := [(58, 1000000), (49, 32)]
section RQ
variable {N : Nat} {w v : aw_W} {n k : Nat} {lw it rl ru g c : Nat → Int} {ev : Nat → (Nat → Int) → Int} {tr du : Int} {S : List (Nat × Nat)}
theorem XU.fr (h : XU w rl) (hf : fr_ S w v) (ha : avd S P_XU = true) : XU v rl := fun s hs => by rw [avd_fr ha hf (fr_inA rfl s)]; exact h s hs
theorem MU.fr (h : MU w rl) (hf : fr_ S w v) (ha : avd S P_MU = true) : MU v rl := ⟨fun s hs => by rw [avd_fr ha hf (fr_inA rfl s)]; exact h.1 s hs, by rw [avd_fr ha hf rfl]; exact h.2⟩
theorem ordR_skip {m : Nat} {al : Nat → Bool} {sc : Nat → Int} {F : Nat → Nat} {i : Nat} (h : ordR w i al sc m F) (hal : al i = false) : ordR w (i + 1) al sc m F := by
  obtain ⟨h0, h1, h2, h3, h4⟩ := h
  refine ⟨h0, by omega, fun a ha => ⟨by have := (h2 a ha).1; omega, (h2 a ha).2⟩, h3, fun s hs has => ?_⟩
  by_cases q : s = i
  · subst q
    rw [hal] at has
    cases has
  · exact h4 s (by omega) has
theorem xrk_l (hN : 10 ≤ N) (hc : ∀ s, s < n → -1 ≤ c s ∧ c s ≤ 1000) : ∀ (f i m : Nat) (F : Nat → Nat) (w : aw_W), n - i < f → i ≤ n → XL w n lw it → (∀ s, s < n → w 32 s = c s) → ordR w i (alR c) (scR c) m F → ∃ w' m' F', x_Race_rank_9 N f i w = some w' ∧ ordR w' n (alR c) (scR c) m' F' := by
  intro f
  induction f with
  | zero => intro i m F w hf; omega
  | succ f ih =>
    intro i m F w hf hi h h32 ho
    have hn6 := h.2.1
    rw [x_Race_rank_9, h.1]
    by_cases cc : (n : Int) ≤ (i : Int)
    · have : i = n := by omega
      subst this
      rw [if_pos cc]
      exact ⟨w, m, F, rfl, ho⟩
    · have hin : i < n := by omega
      have b6 : 0 ≤ (i : Int) ∧ (i : Int) < 6 := ⟨by omega, by omega⟩
      have hci := hc i hin
      rw [if_neg cc, if_pos b6, Int.toNat_natCast, h32 i hin]
      by_cases z : c i = -1
      · rw [if_pos z, x_Race_rank_45, ww1 (by omega)]
        exact ih (i + 1) m F w (by omega) (by omega) h h32 (ordR_skip ho (by unfold alR; exact decide_eq_false (fun q => q z)))
      · obtain ⟨w1, F1, e1, o1⟩ := x_Order_enter_27_ok N hN ho (by omega) (show alR c i = true by unfold alR; exact decide_eq_true z)
        have f1 := f_x_Order_enter_27 N _ _ _ _ e1
        have e1' : x_Order_enter_27 N (i : Int) (-(c i)) w = some w1 := e1
        rw [if_neg z, if_pos b6, ww (x := -(c i)) (by omega) (by omega), e1', b1_some, x_Race_rank_45, ww1 (by omega)]
        exact ih (i + 1) (m + 1) F1 w1 (by omega) (by omega) (h.fr f1 rfl) (fun s hs => by rw [f1 32 s rfl]; exact h32 s hs) o1
theorem X_rank (hN : 10 ≤ N) (h : XL w n lw it) (hc : ∀ s, s < n → -1 ≤ c s ∧ c s ≤ 1000) (h32 : ∀ s, s < n → w 32 s = c s) : ∃ w' m F, x_Race_rank N w = some w' ∧ ordR w' n (alR c) (scR c) m F ∧ XL w' n lw it := by
  have hn6 := h.2.1
  obtain ⟨w1, m, F, e1, o1⟩ := xrk_l (N := N) (c := c) hN hc N 0 0 (fun _ => 0) (aw_up w 27 2 0) (by omega) (Nat.zero_le _) (h.fr (S := [(27, 2)]) ((fr_r _ _).up rfl) rfl) (fun s hs => by simp [aw_up]; exact h32 s hs) ⟨by simp [aw_up], Nat.le_refl _, fun a ha => absurd ha (Nat.not_lt_zero _), fun a b _ hb => absurd hb (Nat.not_lt_zero _), fun s hs => absurd hs (Nat.not_lt_zero _)⟩
  have e : x_Race_rank N w = some w1 := by
    rw [x_Race_rank, x_Order_clear_27, b1_some]
    exact e1
  exact ⟨w1, m, F, e, o1, h.fr (f_x_Race_rank N _ _ e) rfl⟩
theorem X_rholder (hN : 10 ≤ N) (h : XL w n lw it) (hn : n ≠ 0) (hc : ∀ s, s < n → -1 ≤ c s ∧ c s ≤ 1000) (h32 : ∀ s, s < n → w 32 s = c s) : ∃ w', x_Race_holder N w = some (rh n lw c, w') := by
  obtain ⟨w1, m, F, e1, o1, h1⟩ := X_rank (N := N) hN h hc h32
  obtain ⟨l0, l1, -⟩ := (h.2.2.2.2.2 hn).1
  refine ⟨w1, ?_⟩
  rw [x_Race_holder, e1, b1_some, h1.2.2.2.1 0 (by decide), h1.2.2.2.1 1 (by decide), xoR_holder o1 h.2.1 l0.1 l0.2 l1, b2_some, hold_Hd (ordR_en o1) l1]
  rfl
theorem plc_st {m : Nat} {al : Nat → Bool} {sc : Nat → Int} {F : Nat → Nat} {ti : Int} (h : en n al sc m F) (hti : ti = 0 ∨ ti = 1) {b : Nat} (hb : b < m) (z : ti = 0 ∨ b = 0 ∨ sc (F (b - 1)) ≠ sc (F b)) : ct (fun k => ahd ti al sc k (F b)) n = b := by
  have hal := (h.2.1 b hb).2
  have e := en_rk h hb
  conv => rhs; rw [← e]
  unfold rk
  refine ct_cong (fun k hk => ?_)
  rcases hti with t0 | t1
  · rw [t0, ahd_0 hal]
  · rw [t1, ahd_1 hal]
    cases ak : al k with
    | false => rfl
    | true =>
      rw [Bool.true_and, Bool.true_and, Bool.eq_iff_iff, decide_eq_true_eq, bf_iff]
      constructor
      · exact Or.inl
      · rintro (q | ⟨q1, q2⟩)
        · exact q
        · exfalso
          obtain ⟨j, hj, ej⟩ := h.2.2.2 k hk ak
          have hbf : bf sc (F j) (F b) = true := bf_iff.mpr (Or.inr ⟨by rw [ej]; exact q1, by rw [ej]; exact q2⟩)
          have hjb : j < b := by
            rcases Nat.lt_trichotomy j b with y | y | y
            · exact y
            · rw [y, bf_irr] at hbf
              cases hbf
            · have := bf_asym hbf
              rw [h.2.2.1 b j y hj] at this
              cases this
          have m1 := en_mono h (a := j) (b := b - 1) (by omega) (by omega)
          have m2 := en_mono h (a := b - 1) (b := b) (by omega) hb
          rw [ej] at m1
          rcases z with z | z | z
          · rw [t1] at z
            exact absurd z (by decide)
          · omega
          · omega
theorem plc_eq {m : Nat} {al : Nat → Bool} {sc : Nat → Int} {F : Nat → Nat} (h : en n al sc m F) {b : Nat} (hb : b + 1 < m) (z : sc (F b) = sc (F (b + 1))) : ct (fun k => ahd 1 al sc k (F (b + 1))) n = ct (fun k => ahd 1 al sc k (F b)) n := by
  refine ct_cong (fun k hk => ?_)
  rw [ahd_1 (h.2.1 (b + 1) hb).2, ahd_1 (h.2.1 b (by omega)).2, z]
theorem xpl_l {m : Nat} {al : Nat → Bool} {sc : Nat → Int} {F : Nat → Nat} {ti : Int} (ho : ordR w n al sc m F) (hn : n ≤ 6) (hti : ti = 0 ∨ ti = 1) {s : Nat} : ∀ (f b : Nat) (pl : Int), m - b < f → b ≤ m → (∀ j, j < b → F j ≠ s) → pl = (if b = 0 then 0 else ((ct (fun k => ahd ti al sc k (F (b - 1))) n + 1 : Nat) : Int)) → x_Order_placeOf_5 N f s ti pl b w = some ((if ∃ a, a < m ∧ F a = s then ((ct (fun k => ahd ti al sc k s) n + 1 : Nat) : Int) else 0), w) := by
  intro f
  induction f with
  | zero => intro b pl hf; omega
  | succ f ih =>
    intro b pl hf hb hno hpl
    have he := ordR_en ho
    have hm := he.1
    rw [x_Order_placeOf_5, ho.1]
    by_cases cc : (m : Int) ≤ (b : Int)
    · have : b = m := by omega
      subst this
      rw [if_pos cc, if_neg (fun q => by obtain ⟨a, a1, a2⟩ := q; exact hno a a1 a2)]
      rfl
    · have hbm : b < m := by omega
      have p36 : ∀ q : Int, q = ((ct (fun k => ahd ti al sc k (F b)) n + 1 : Nat) : Int) → x_Order_placeOf_36 N (x_Order_placeOf_5 N f) s ti q b w = some ((if ∃ a, a < m ∧ F a = s then ((ct (fun k => ahd ti al sc k s) n + 1 : Nat) : Int) else 0), w) := by
        intro q hq
        rw [x_Order_placeOf_36, if_pos ⟨by omega, by omega⟩, Int.toNat_natCast, (ho.2.2.1 b hbm).2.2.1]
        by_cases z : F b = s
        · rw [if_pos (by omega), if_pos ⟨b, hbm, z⟩, hq, z]
          rfl
        · rw [if_neg (by omega), ww1 (by omega)]
          refine ih (b + 1) q (by omega) (by omega) (fun j hj => ?_) (by rw [if_neg (by omega), Nat.add_sub_cancel]; exact hq)
          by_cases e : j = b
          · rw [e]; exact z
          · exact hno j (by omega)
      have p31 : (ti = 0 ∨ b = 0 ∨ sc (F (b - 1)) ≠ sc (F b)) → x_Order_placeOf_31 N (x_Order_placeOf_5 N f) s ti b w = some ((if ∃ a, a < m ∧ F a = s then ((ct (fun k => ahd ti al sc k s) n + 1 : Nat) : Int) else 0), w) := by
        intro z
        rw [x_Order_placeOf_31, ww1 (by omega)]
        exact p36 _ (by rw [plc_st he hti hbm z])
      rw [if_neg cc]
      by_cases t0 : ti = 0
      · rw [if_pos t0]
        exact p31 (Or.inl t0)
      · have t1 : ti = 1 := by omega
        rw [if_neg t0, ww (x := (b : Int) - 1) (by omega) (by omega), xoR_alike ho hn (by omega) (by omega), b2_some, show ((b : Int) - 1).toNat = b - 1 by omega, Int.toNat_natCast]
        by_cases z : 0 ≤ (b : Int) - 1 ∧ sc (F (b - 1)) = sc (F b)
        · have e1 : (decide (0 ≤ (b : Int) - 1) && decide ((b : Int) < (m : Int)) && decide (sc (F (b - 1)) = sc (F b))) = true := by
            rw [decide_eq_true z.1, decide_eq_true z.2, decide_eq_true (show (b : Int) < (m : Int) by omega)]
            rfl
          rw [e1, if_neg (by decide)]
          obtain ⟨b', rfl⟩ : ∃ b', b = b' + 1 := ⟨b - 1, by omega⟩
          rw [Nat.add_sub_cancel] at z
          refine p36 _ ?_
          rw [hpl, if_neg (by omega), Nat.add_sub_cancel, t1, plc_eq he hbm z.2]
        · have e1 : (decide (0 ≤ (b : Int) - 1) && decide ((b : Int) < (m : Int)) && decide (sc (F (b - 1)) = sc (F b))) = false := by
            rw [Bool.eq_false_iff]
            intro q
            rw [Bool.and_eq_true, Bool.and_eq_true, decide_eq_true_eq, decide_eq_true_eq, decide_eq_true_eq] at q
            exact z ⟨q.1.1, q.2⟩
          rw [e1, if_pos (by rfl)]
          refine p31 (Or.inr ?_)
          by_cases y : b = 0
          · exact Or.inl y
          · exact Or.inr (fun q => z ⟨by omega, q⟩)
theorem X_placeOf (hN : 10 ≤ N) (h : XL w n lw it) (hn : n ≠ 0) (hc : ∀ s, s < n → -1 ≤ c s ∧ c s ≤ 1000) (h32 : ∀ s, s < n → w 32 s = c s) {s : Nat} (hs : s < n) : ∃ w', x_Race_placeOf N s w = some (pm n lw c s, w') := by
  obtain ⟨w1, m, F, e1, o1, h1⟩ := X_rank (N := N) hN h hc h32
  obtain ⟨l0, l1, -⟩ := (h.2.2.2.2.2 hn).1
  have hn6 := h.2.1
  have hm := o1.2.1
  have e2 := xpl_l (N := N) (s := s) o1 hn6 l1 N 0 0 (by omega) (Nat.zero_le _) (fun j hj => absurd hj (Nat.not_lt_zero _)) (by rw [if_pos rfl])
  have e2' : x_Order_placeOf N s (lw 1) w1 = some ((if ∃ a, a < m ∧ F a = s then ((ct (fun k => ahd (lw 1) (alR c) (scR c) k s) n + 1 : Nat) : Int) else 0), w1) := e2
  refine ⟨w1, ?_⟩
  rw [x_Race_placeOf, e1, b1_some, h1.2.2.2.1 1 (by decide), e2', b2_some]
  unfold pm
  by_cases z : c s = -1
  · rw [if_pos z, if_neg]
    rintro ⟨a, a1, a2⟩
    have := (o1.2.2.1 a a1).2.1
    rw [a2] at this
    unfold alR at this
    rw [z] at this
    exact absurd this (by decide)
  · rw [if_neg z, if_pos (o1.2.2.2.2 s hs (by unfold alR; exact decide_eq_true z))]
theorem X_mayRun {x1 x2 : Int} : x_mayRun N x1 x2 w = some (b2i (mrb x1 x2), w) := by
  rw [x_mayRun]
  by_cases c1 : x1 < 1
  · rw [if_pos c1, mrb_no (by omega)]; rfl
  · rw [if_neg c1]
    by_cases c2 : 99 < x1
    · rw [if_pos c2, mrb_no (by omega)]; rfl
    · rw [if_neg c2]
      by_cases c3 : x2 < 1
      · rw [if_pos c3, mrb_no (by omega)]; rfl
      · rw [if_neg c3]
        by_cases c4 : 99 < x2
        · rw [if_pos c4, mrb_no (by omega)]; rfl
        · rw [if_neg c4, mrb_iff.mpr (by omega)]; rfl
theorem M_isRace (h : ML w n lw it) {x1 x2 : Int} : m_isRace N x1 x2 w = some (b2i (decide (n ≠ 0) && mrb x1 x2), w) := by
  rw [m_isRace, h.1]
  by_cases c0 : n = 0
  · subst c0
    rw [if_pos (by omega)]
    rfl
  · rw [if_neg (by omega), m_isIn_ok, b2_some, decide_eq_true c0, Bool.true_and]
    by_cases c1 : 1 ≤ x1 ∧ x1 ≤ 99
    · rw [if_neg (fun z => (b2i_and.mp z) c1), m_isIn_ok, b2_some]
      by_cases c2 : 1 ≤ x2 ∧ x2 ≤ 99
      · rw [if_neg (fun z => (b2i_and.mp z) c2), mrb_iff.mpr ⟨c1.1, c1.2, c2⟩]
        rfl
      · rw [if_pos (b2i_and.mpr c2), mrb_no (fun q => c2 q.2.2)]
        rfl
    · rw [if_pos (b2i_and.mpr c1), mrb_no (fun q => c1 ⟨q.1, q.2.1⟩)]
      rfl
theorem b2i_f : b2i false = 0 := rfl
theorem b2i_t : ¬ b2i true = 0 := by decide
theorem X_rtold (h : XU w rl) : ∃ w', x_Race_rulesAsTold N w = some w' ∧ (∀ s, s < 6 → w' 30 s = rl s) ∧ fr_ S_x_Race_rulesAsTold w w' := by
  refine ⟨_, rfl, fun s hs => ?_, f_x_Race_rulesAsTold N _ _ rfl⟩
  rw [← h s hs]
  unfold aw_cpy
  rw [if_pos ⟨rfl, by omega, by omega⟩, Nat.sub_zero, Nat.zero_add]
def cT (n : Nat) (it ru : Nat → Int) (ev : Nat → (Nat → Int) → Int) (x1 x2 : Int) : Nat → Int := (RS n it ru ev x1 x2 x2.toNat).2
theorem cT_bd (h1 : 1 ≤ tr) (hI : IB it n) {T : Nat} (hT : T ≤ 99) : ∀ s, s < n → -1 ≤ (RS n it ru ev tr du T).2 s ∧ (RS n it ru ev tr du T).2 s ≤ 1000 := by
  intro s hs
  have := (RS_ok (ru := ru) (ev := ev) (du := du) h1 hI T s hs).2.2.1
  omega
theorem ruB_n (hb : ruB rl n k) (_ : n ≤ 6) : ruB rl n k := hb
theorem ruM_n (h : MU w rl) (hn : n ≤ 6) : ruM w n rl := by
  intro s hs
  rw [h.2, if_neg (by omega), h.1 s (by omega)]
theorem rh_w (hN : 10 ≤ N) (h : mst w n (alR c) (scR c) (lw 1) (lw 0)) : m_winner N w = some (rh n lw c, w) := by
  obtain ⟨m, F, he⟩ := en_ex (alR c) (scR c) n h.2.1
  rw [mj_winner hN h he, hold_Hd he h.2.2.2.2.1]
  rfl
def a_race (n : Nat) (lw it rl : Nat → Int) (ev : Nat → (Nat → Int) → Int) (x1 x2 x3 : Int) : Int := if (decide (n ≠ 0) && mrb x1 x2) = false ∨ x3 < 0 ∨ 2 < x3 then -1000000 else if x3 = 0 then rh n lw (cT n it rl ev x1 x2) else if x3 = 1 then (inn n (cT n it rl ev x1 x2) : Int) else lst n it rl ev x1 x2 x2.toNat
theorem nrb_iff {x1 x2 : Int} : (decide (n ≠ 0) && mrb x1 x2) = true ↔ n ≠ 0 ∧ 1 ≤ x1 ∧ x1 ≤ 99 ∧ 1 ≤ x2 ∧ x2 ≤ 99 := by
  rw [Bool.and_eq_true, decide_eq_true_eq, mrb_iff]
theorem X_race (hN : 200 ≤ N) (h : XL w n lw it) (he : evX N w k ev) (hu : XU w rl) (hb : ruB rl n k) {x1 x2 x3 : Int} : ∃ w', x_race N x1 x2 x3 w = some (a_race n lw it rl ev x1 x2 x3, w') := by
  unfold a_race
  have hn6 := h.2.1
  rw [x_race, h.1]
  by_cases c0 : n = 0
  · rw [if_pos (by omega), if_pos (Or.inl (by rw [decide_eq_false (fun q => q c0)]; rfl))]
    exact ⟨w, rfl⟩
  · rw [if_neg (by omega), X_mayRun, b2_some, decide_eq_true c0, Bool.true_and]
    cases hm : mrb x1 x2 with
    | false =>
      rw [if_pos b2i_f, if_pos (Or.inl rfl)]
      exact ⟨w, rfl⟩
    | true =>
      obtain ⟨r1, r2, r3, r4⟩ := mrb_iff.mp hm
      rw [if_neg b2i_t]
      by_cases c1 : x3 < 0
      · rw [if_pos c1, if_pos (Or.inr (Or.inl c1))]
        exact ⟨w, rfl⟩
      · rw [if_neg c1]
        by_cases c2 : x3 ≤ 2
        · have hc : ¬ (true = false ∨ x3 < 0 ∨ 2 < x3) := fun q => q.elim (fun q => absurd q (by decide)) (by omega)
          obtain ⟨w1, e1, u1, f1⟩ := X_rtold (N := N) hu
          obtain ⟨T, rfl⟩ : ∃ T : Nat, x2 = T := ⟨x2.toNat, by omega⟩
          obtain ⟨w2, e2, q1, q2, q3, q4, h2, he2, u2⟩ := X_rgo (N := N) (ru := rl) (ev := ev) (du := (T : Int)) (T := T) hN (h.fr f1 rfl) c0 (he.fr f1 rfl) (fun s hs => u1 s (by omega)) (ruB_n hb hn6) r1 r2 (by omega) (Int.le_refl _)
          rw [if_pos c2, if_neg hc, e1, b1_some, e2, b1_some]
          unfold cT
          rw [Int.toNat_natCast]
          by_cases z0 : x3 = 0
          · obtain ⟨w3, e3⟩ := X_rholder (N := N) (by omega) h2 c0 (cT_bd r1 (h.2.2.2.2.2 c0).2 (by omega)) q2
            rw [if_pos z0, if_pos z0, e3, b2_some]
            exact ⟨w3, rfl⟩
          · rw [if_neg z0, if_neg z0]
            by_cases z1 : x3 = 1
            · rw [if_pos z1, if_pos z1, x_race_81, q3]
              exact ⟨w2, rfl⟩
            · rw [if_neg z1, if_neg z1, x_race_81, q4]
              exact ⟨w2, rfl⟩
        · rw [if_neg c2, if_pos (Or.inr (Or.inr (by omega)))]
          exact ⟨w, rfl⟩
theorem mrc_l (h : mst w n (alR c) (scR c) (lw 1) (lw 0)) : ∀ (f i : Nat), n - i < f → i ≤ n → m_race_61 N f (ct (fun k => decide (c k ≠ -1)) i : Int) i w = some ((inn n c : Int), w) := by
  intro f
  induction f with
  | zero => intro i hf; omega
  | succ f ih =>
    intro i hf hi
    have hn6 := h.2.1
    rw [m_race_61, h.1]
    by_cases cc : (n : Int) ≤ (i : Int)
    · have : i = n := by omega
      subst this
      rw [if_pos cc]
      rfl
    · have ih' := ih (i + 1) (by omega) (by omega)
      rw [if_neg cc, if_pos ⟨by omega, by omega⟩, Int.toNat_natCast, (h.2.2.1 i (by omega)).1]
      by_cases z : c i = -1
      · have e : alR c i = false := decide_eq_false (fun q => q z)
        rw [e, if_neg (by decide), m_race_87, cts0 (p := fun k => decide (c k ≠ -1)) (by omega) (decide_eq_false (fun q => q z)), ww1 (by omega)]
        exact ih'
      · have e : alR c i = true := decide_eq_true z
        rw [e, if_pos (by rfl), m_race_87, cts1 (p := fun k => decide (c k ≠ -1)) (by omega) (decide_eq_true z), ww1 (by omega)]
        exact ih'
theorem evM.th (h : evM N w k ev) : evM N (aw_up w 49 0 0) k ev := h.fr (S := [(49, 0)]) ((fr_r _ w).up rfl) rfl
theorem MU.th (h : MU w rl) : MU (aw_up w 49 0 0) rl := h.fr (S := [(49, 0)]) ((fr_r _ w).up rfl) rfl
theorem M_race (hN : 200 ≤ N) (h : ML w n lw it) (he : evM N w k ev) (hu : MU w rl) (hb : ruB rl n k) {x1 x2 x3 : Int} : ∃ w', m_race N x1 x2 x3 w = some (a_race n lw it rl ev x1 x2 x3, w') := by
  unfold a_race
  have hn6 := h.2.1
  rw [m_race, M_isRace h.th, b2_some]
  cases hm : (decide (n ≠ 0) && mrb x1 x2) with
  | false =>
    rw [if_pos b2i_f, if_pos (Or.inl rfl)]
    exact ⟨_, rfl⟩
  | true =>
    obtain ⟨c0, r1, r2, r3, r4⟩ := nrb_iff.mp hm
    rw [if_neg b2i_t, m_isIn_ok, b2_some]
    by_cases c1 : 0 ≤ x3 ∧ x3 ≤ 2
    · have hc : ¬ (true = false ∨ x3 < 0 ∨ 2 < x3) := fun q => q.elim (fun q => absurd q (by decide)) (by omega)
      obtain ⟨T, rfl⟩ : ∃ T : Nat, x2 = T := ⟨x2.toNat, by omega⟩
      obtain ⟨w2, e2, h2, q1, q2, q3, q4, f2⟩ := M_run (N := N) (ru := rl) (ev := ev) (T := T) hN h.th c0 he.th (ruM_n hu.th hn6) (ruB_n hb hn6) r1 r2 (by omega)
      rw [if_neg (fun z => (b2i_and.mp z) c1), if_neg hc, e2, b1_some]
      unfold cT
      rw [Int.toNat_natCast]
      by_cases z0 : x3 = 0
      · rw [if_pos z0, if_pos z0, rh_w (by omega) q4, b2_some]
        exact ⟨w2, rfl⟩
      · rw [if_neg z0, if_neg z0]
        by_cases z1 : x3 = 1
        · rw [if_pos z1, if_neg (by omega)]
          exact ⟨w2, mrc_l (N := N) q4 N 0 (by omega) (Nat.zero_le _)⟩
        · rw [if_neg z1, if_pos (by omega), q3]
          exact ⟨w2, rfl⟩
    · rw [if_pos (b2i_and.mpr c1), if_pos (Or.inr (by omega))]
      exact ⟨_, rfl⟩
/-! came, step, medal -/
def hrb (n : Nat) (x1 x2 x3 : Int) : Bool := decide (0 ≤ x3) && decide (x3 < (n : Int)) && mrb x1 x2
theorem hrb_iff {x1 x2 x3 : Int} : hrb n x1 x2 x3 = true ↔ (0 ≤ x3 ∧ x3 < (n : Int)) ∧ 1 ≤ x1 ∧ x1 ≤ 99 ∧ 1 ≤ x2 ∧ x2 ≤ 99 := by
  unfold hrb
  rw [Bool.and_eq_true, Bool.and_eq_true, decide_eq_true_eq, decide_eq_true_eq, mrb_iff]
/-- the class asks whether there is such a race and such a striver -/
theorem xhr {x1 x2 x3 : Int} (h : XL w n lw it) {A : aw_W → Option (Int × aw_W)} {B : aw_W → Option (Int × aw_W)} : (aw_b2 (x_Land_holds N x3 w) fun r1 w1 => if r1 = 0 then A w1 else aw_b2 (x_mayRun N x1 x2 w1) fun r2 w2 => if r2 = 0 then A w2 else B w2) = if hrb n x1 x2 x3 = false then A w else B w := by
  rw [xl_holds, b2_some, h.1]
  unfold hrb
  cases (decide (0 ≤ x3) && decide (x3 < (n : Int))) with
  | false => rw [if_pos b2i_f, Bool.false_and, if_pos rfl]
  | true =>
    rw [if_neg b2i_t, X_mayRun, b2_some, Bool.true_and]
    cases mrb x1 x2 with
    | false => rw [if_pos b2i_f, if_pos rfl]
    | true => rw [if_neg b2i_t, if_neg (by decide)]
theorem mhr {x1 x2 x3 : Int} (h : ML w n lw it) {A : aw_W → Option (Int × aw_W)} {B : aw_W → Option (Int × aw_W)} : (aw_b2 (m_isRace N x1 x2 w) fun r1 w1 => if r1 = 0 then A w1 else aw_b2 (m_isStriver N x3 w1) fun r2 w2 => if r2 = 0 then A w2 else B w2) = if hrb n x1 x2 x3 = false then A w else B w := by
  rw [M_isRace h, b2_some]
  by_cases c0 : n = 0
  · have : hrb n x1 x2 x3 = false := by
      rw [Bool.eq_false_iff]
      intro q
      have := (hrb_iff.mp q).1
      omega
    rw [this, decide_eq_false (fun q => q c0), Bool.false_and, if_pos b2i_f, if_pos rfl]
  · rw [decide_eq_true c0, Bool.true_and]
    unfold hrb
    cases mrb x1 x2 with
    | false => rw [if_pos b2i_f, Bool.and_false, if_pos rfl]
    | true =>
      rw [if_neg b2i_t, m_isStriver_ok, b2_some, h.1, Bool.and_true]
      cases (decide (0 ≤ x3) && decide (x3 < (n : Int))) with
      | false => rw [if_pos b2i_f, if_pos rfl]
      | true => rw [if_neg b2i_t, if_neg (by decide)]
def a_came (n : Nat) (it rl : Nat → Int) (ev : Nat → (Nat → Int) → Int) (x1 x2 x3 : Int) : Int := if hrb n x1 x2 x3 = false then -1000000 else cT n it rl ev x1 x2 x3.toNat
theorem X_came (hN : 200 ≤ N) (h : XL w n lw it) (he : evX N w k ev) (hu : XU w rl) (hb : ruB rl n k) {x1 x2 x3 : Int} : ∃ w', x_came N x1 x2 x3 w = some (a_came n it rl ev x1 x2 x3, w') := by
  unfold a_came
  have hn6 := h.2.1
  rw [x_came, xhr h]
  cases hm : hrb n x1 x2 x3 with
  | false => rw [if_pos rfl, if_pos rfl]; exact ⟨w, rfl⟩
  | true =>
    obtain ⟨⟨r5, r6⟩, r1, r2, r3, r4⟩ := hrb_iff.mp hm
    rw [if_neg (by decide), if_neg (by decide)]
    obtain ⟨w1, e1, u1, f1⟩ := X_rtold (N := N) hu
    obtain ⟨T, rfl⟩ : ∃ T : Nat, x2 = T := ⟨x2.toNat, by omega⟩
    obtain ⟨w2, e2, q1, q2, q3, q4, h2, he2, u2⟩ := X_rgo (N := N) (ru := rl) (ev := ev) (du := (T : Int)) (T := T) hN (h.fr f1 rfl) (by omega) (he.fr f1 rfl) (fun s hs => u1 s (by omega)) (ruB_n hb hn6) r1 r2 (by omega) (Int.le_refl _)
    rw [e1, b1_some, e2, b1_some, if_pos ⟨r5, by omega⟩, q2 x3.toNat (by omega)]
    exact ⟨w2, rfl⟩
theorem M_came (hN : 200 ≤ N) (h : ML w n lw it) (he : evM N w k ev) (hu : MU w rl) (hb : ruB rl n k) {x1 x2 x3 : Int} : ∃ w', m_came N x1 x2 x3 w = some (a_came n it rl ev x1 x2 x3, w') := by
  unfold a_came
  have hn6 := h.2.1
  rw [m_came, mhr h.th]
  cases hm : hrb n x1 x2 x3 with
  | false => rw [if_pos rfl, if_pos rfl]; exact ⟨_, rfl⟩
  | true =>
    obtain ⟨⟨r5, r6⟩, r1, r2, r3, r4⟩ := hrb_iff.mp hm
    rw [if_neg (by decide), if_neg (by decide)]
    obtain ⟨T, rfl⟩ : ∃ T : Nat, x2 = T := ⟨x2.toNat, by omega⟩
    obtain ⟨w2, e2, h2, q1, q2, q3, q4, f2⟩ := M_run (N := N) (ru := rl) (ev := ev) (T := T) hN h.th (by omega) he.th (ruM_n hu.th hn6) (ruB_n hb hn6) r1 r2 (by omega)
    rw [e2, b1_some, if_pos ⟨r5, by omega⟩, q2 x3.toNat (by omega)]
    exact ⟨w2, rfl⟩
def a_step (n : Nat) (it rl : Nat → Int) (ev : Nat → (Nat → Int) → Int) (x1 x2 x3 x4 : Int) : Int := if hrb n x1 x2 x3 = false ∨ x4 < 0 ∨ x2 < x4 then -1000000 else (RS n it rl ev x1 x2 x4.toNat).1 x3.toNat
theorem X_step (hN : 200 ≤ N) (h : XL w n lw it) (he : evX N w k ev) (hu : XU w rl) (hb : ruB rl n k) {x1 x2 x3 x4 : Int} : ∃ w', x_step N x1 x2 x3 x4 w = some (a_step n it rl ev x1 x2 x3 x4, w') := by
  unfold a_step
  have hn6 := h.2.1
  rw [x_step, xhr h]
  cases hm : hrb n x1 x2 x3 with
  | false => rw [if_pos rfl, if_pos (Or.inl rfl)]; exact ⟨w, rfl⟩
  | true =>
    obtain ⟨⟨r5, r6⟩, r1, r2, r3, r4⟩ := hrb_iff.mp hm
    rw [if_neg (by decide)]
    by_cases c1 : x4 < 0
    · rw [if_pos c1, if_pos (Or.inr (Or.inl c1))]; exact ⟨w, rfl⟩
    · rw [if_neg c1]
      by_cases c2 : x4 ≤ x2
      · obtain ⟨w1, e1, u1, f1⟩ := X_rtold (N := N) hu
        obtain ⟨T, rfl⟩ : ∃ T : Nat, x4 = T := ⟨x4.toNat, by omega⟩
        obtain ⟨w2, e2, q1, q2, q3, q4, h2, he2, u2⟩ := X_rgo (N := N) (ru := rl) (ev := ev) (du := x2) (T := T) hN (h.fr f1 rfl) (by omega) (he.fr f1 rfl) (fun s hs => u1 s (by omega)) (ruB_n hb hn6) r1 r2 (by omega) c2
        rw [if_pos c2, if_neg (fun q => q.elim (fun q => absurd q (by decide)) (by omega)), e1, b1_some, e2, b1_some, if_pos ⟨r5, by omega⟩, q1 x3.toNat (by omega), Int.toNat_natCast]
        exact ⟨w2, rfl⟩
      · rw [if_neg c2, if_pos (Or.inr (Or.inr (by omega)))]; exact ⟨w, rfl⟩
theorem M_step (hN : 200 ≤ N) (h : ML w n lw it) (he : evM N w k ev) (hu : MU w rl) (hb : ruB rl n k) {x1 x2 x3 x4 : Int} : ∃ w', m_step N x1 x2 x3 x4 w = some (a_step n it rl ev x1 x2 x3 x4, w') := by
  unfold a_step
  have hn6 := h.2.1
  rw [m_step, mhr h.th]
  cases hm : hrb n x1 x2 x3 with
  | false => rw [if_pos rfl, if_pos (Or.inl rfl)]; exact ⟨_, rfl⟩
  | true =>
    obtain ⟨⟨r5, r6⟩, r1, r2, r3, r4⟩ := hrb_iff.mp hm
    rw [if_neg (by decide), m_isIn_ok, b2_some]
    by_cases c1 : 0 ≤ x4 ∧ x4 ≤ x2
    · obtain ⟨T, rfl⟩ : ∃ T : Nat, x2 = T := ⟨x2.toNat, by omega⟩
      obtain ⟨U, rfl⟩ : ∃ U : Nat, x4 = U := ⟨x4.toNat, by omega⟩
      obtain ⟨s, rfl⟩ : ∃ s : Nat, x3 = s := ⟨x3.toNat, by omega⟩
      obtain ⟨w2, e2, h2, q1, q2, q3, q4, f2⟩ := M_run (N := N) (ru := rl) (ev := ev) (T := T) hN h.th (by omega) he.th (ruM_n hu.th hn6) (ruB_n hb hn6) r1 r2 (by omega)
      rw [if_neg (fun z => (b2i_and.mp z) c1), if_neg (fun q => q.elim (fun q => absurd q (by decide)) (by omega)), e2, b1_some, M_goneBy (by omega) (by omega), b2_some, q1 U s (by omega) (by omega), Int.toNat_natCast, Int.toNat_natCast]
      exact ⟨w2, rfl⟩
    · rw [if_pos (b2i_and.mpr c1), if_pos (Or.inr (by omega))]; exact ⟨_, rfl⟩
def a_medal (n : Nat) (lw it rl : Nat → Int) (ev : Nat → (Nat → Int) → Int) (x1 x2 x3 : Int) : Int := if hrb n x1 x2 x3 = false then -1000000 else pm n lw (cT n it rl ev x1 x2) x3.toNat
theorem X_medal (hN : 200 ≤ N) (h : XL w n lw it) (he : evX N w k ev) (hu : XU w rl) (hb : ruB rl n k) {x1 x2 x3 : Int} : ∃ w', x_medal N x1 x2 x3 w = some (a_medal n lw it rl ev x1 x2 x3, w') := by
  unfold a_medal
  have hn6 := h.2.1
  rw [x_medal, xhr h]
  cases hm : hrb n x1 x2 x3 with
  | false => rw [if_pos rfl, if_pos rfl]; exact ⟨w, rfl⟩
  | true =>
    obtain ⟨⟨r5, r6⟩, r1, r2, r3, r4⟩ := hrb_iff.mp hm
    have hn : n ≠ 0 := by omega
    rw [if_neg (by decide), if_neg (by decide)]
    obtain ⟨w1, e1, u1, f1⟩ := X_rtold (N := N) hu
    obtain ⟨T, rfl⟩ : ∃ T : Nat, x2 = T := ⟨x2.toNat, by omega⟩
    obtain ⟨s, rfl⟩ : ∃ s : Nat, x3 = s := ⟨x3.toNat, by omega⟩
    obtain ⟨w2, e2, q1, q2, q3, q4, h2, he2, u2⟩ := X_rgo (N := N) (ru := rl) (ev := ev) (du := (T : Int)) (T := T) hN (h.fr f1 rfl) hn (he.fr f1 rfl) (fun s hs => u1 s (by omega)) (ruB_n hb hn6) r1 r2 (by omega) (Int.le_refl _)
    obtain ⟨w3, e3⟩ := X_placeOf (N := N) (by omega) h2 hn (cT_bd r1 (h.2.2.2.2.2 hn).2 (by omega)) q2 (show s < n by omega)
    rw [e1, b1_some, e2, b1_some, e3, b2_some, Int.toNat_natCast]
    exact ⟨w3, rfl⟩
theorem M_medal (hN : 200 ≤ N) (h : ML w n lw it) (he : evM N w k ev) (hu : MU w rl) (hb : ruB rl n k) {x1 x2 x3 : Int} : ∃ w', m_medal N x1 x2 x3 w = some (a_medal n lw it rl ev x1 x2 x3, w') := by
  unfold a_medal
  have hn6 := h.2.1
  rw [m_medal, mhr h.th]
  cases hm : hrb n x1 x2 x3 with
  | false => rw [if_pos rfl, if_pos rfl]; exact ⟨_, rfl⟩
  | true =>
    obtain ⟨⟨r5, r6⟩, r1, r2, r3, r4⟩ := hrb_iff.mp hm
    have hn : n ≠ 0 := by omega
    rw [if_neg (by decide), if_neg (by decide)]
    obtain ⟨T, rfl⟩ : ∃ T : Nat, x2 = T := ⟨x2.toNat, by omega⟩
    obtain ⟨s, rfl⟩ : ∃ s : Nat, x3 = s := ⟨x3.toNat, by omega⟩
    obtain ⟨w2, e2, h2, q1, q2, q3, q4, f2⟩ := M_run (N := N) (ru := rl) (ev := ev) (T := T) hN h.th hn he.th (ruM_n hu.th hn6) (ruB_n hb hn6) r1 r2 (by omega)
    rw [e2, b1_some, if_pos ⟨r5, by omega⟩, Int.toNat_natCast, (q4.2.2.1 s (by omega)).1]
    unfold pm cT
    rw [Int.toNat_natCast]
    by_cases z : (RS n it rl ev x1 T T).2 s = -1
    · have e : alR (RS n it rl ev x1 T T).2 s = false := decide_eq_false (fun q => q z)
      rw [e, if_neg (by decide), if_pos z]
      exact ⟨w2, rfl⟩
    · have e : alR (RS n it rl ev x1 T T).2 s = true := decide_eq_true z
      have hl := ct_le (fun k => ahd (lw 1) (alR (RS n it rl ev x1 T T).2) (scR (RS n it rl ev x1 T T).2) k s) n
      rw [e, if_pos (by rfl), if_neg z, mj_aheadOf (by omega) q4 (show s < n by omega), b2_some, m_medal_52, ww1 (by omega)]
      exact ⟨w2, rfl⟩
end RQ
