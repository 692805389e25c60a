/-! ===== pure: without, choice, latest ===== -/
section RW2
variable {N : Nat} {w v : aw_W} {n k : Nat} {lw it rl ru g c : Nat → Int} {ev : Nat → (Nat → Int) → Int} {tr du : Int} {S : List (Nat × Nat)}
theorem ruB_up (hb : ruB rl n k) {s0 : Nat} {v : Int} (hv : v = -1 ∨ (0 ≤ v ∧ v < (k : Int))) : ruB (updi rl s0 v) n k := by
  intro s hs
  unfold updi
  by_cases z : s = s0
  · rw [if_pos z]; exact hv
  · rw [if_neg z]; exact hb s hs
/-- who has the prize, if a striver runs by another rule -/
def hwi (n : Nat) (lw it rl : Nat → Int) (ev : Nat → (Nat → Int) → Int) (x1 x2 : Int) (s0 : Nat) (v : Int) : Int := rh n lw (cT n it (updi rl s0 v) ev x1 x2)
theorem X_holderWith (hN : 200 ≤ N) (h : XL w n lw it) (he : evX N w k ev) (hu : XU w rl) (hb : ruB rl n k) {x1 x2 : Int} {s0 : Nat} (hs0 : s0 < n) (r1 : 1 ≤ x1) (r2 : x1 ≤ 99) (r3 : 1 ≤ x2) (r4 : x2 ≤ 99) {v : Int} (hv : v = -1 ∨ (0 ≤ v ∧ v < (k : Int))) : ∃ w', x_holderWith N x1 x2 s0 v w = some (hwi n lw it rl ev x1 x2 s0 v, w') := by
  have hn6 := h.2.1
  have hn : n ≠ 0 := by omega
  obtain ⟨w1, e1, u1, f1⟩ := X_rtold (N := N) hu
  obtain ⟨T, rfl⟩ : ∃ T : Nat, x2 = T := ⟨x2.toNat, by omega⟩
  have f2 : fr_ S_x_Race_rulesAsTold w (aw_up w1 30 s0 v) := f1.upA rfl
  obtain ⟨w2, e2, q1, q2, q3, q4, h2, he2, u2⟩ := X_rgo (N := N) (ru := updi rl s0 v) (ev := ev) (du := (T : Int)) (T := T) hN (h.fr f2 rfl) hn (he.fr f2 rfl) (fun s hs => by
    unfold updi
    by_cases z : s = s0
    · subst z; simp [aw_up]
    · simp [aw_up, z]
      exact u1 s (by omega)) (ruB_n (ruB_up hb hv) hn6) r1 r2 (by omega) (Int.le_refl _)
  obtain ⟨w3, e3⟩ := X_rholder (N := N) (by omega) h2 hn (cT_bd r1 (h.2.2.2.2.2 hn).2 (by omega)) q2
  rw [x_holderWith, e1, b1_some, if_pos ⟨by omega, by omega⟩, Int.toNat_natCast, e2, b1_some, e3, b2_some]
  exact ⟨w3, rfl⟩
def a_without (n : Nat) (lw it rl : Nat → Int) (ev : Nat → (Nat → Int) → Int) (x1 x2 x3 : Int) : Int := if hrb n x1 x2 x3 = false then -1000000 else hwi n lw it rl ev x1 x2 x3.toNat (-1)
theorem X_without (hN : 200 ≤ N) (h : XL w n lw it) (he : evX N w k ev) (hu : XU w rl) (hb : ruB rl n k) {x1 x2 x3 : Int} : ∃ w', x_without N x1 x2 x3 w = some (a_without n lw it rl ev x1 x2 x3, w') := by
  unfold a_without
  rw [x_without, xhr h]
  cases hm : hrb n x1 x2 x3 with
  | false => rw [if_pos rfl, if_pos rfl]; exact ⟨w, rfl⟩
  | true =>
    obtain ⟨⟨r5, r6⟩, r1, r2, r3, r4⟩ := hrb_iff.mp hm
    obtain ⟨s, rfl⟩ : ∃ s : Nat, x3 = s := ⟨x3.toNat, by omega⟩
    obtain ⟨w1, e1⟩ := X_holderWith (N := N) hN h he hu hb (show s < n by omega) r1 r2 r3 r4 (v := -1) (Or.inl rfl)
    rw [if_neg (by decide), if_neg (by decide), e1, b2_some, Int.toNat_natCast]
    exact ⟨w1, rfl⟩
theorem M_without (hN : 200 ≤ N) (h : ML w n lw it) (he : evM N w k ev) (hu : MU w rl) (hb : ruB rl n k) {x1 x2 x3 : Int} : ∃ w', m_without N x1 x2 x3 w = some (a_without n lw it rl ev x1 x2 x3, w') ∧ MU w' rl := by
  unfold a_without
  have hn6 := h.2.1
  have h0 := h.th
  have u0 := hu.th
  rw [m_without, mhr h0]
  cases hm : hrb n x1 x2 x3 with
  | false => rw [if_pos rfl, if_pos rfl]; exact ⟨_, rfl, u0⟩
  | true =>
    obtain ⟨⟨r5, r6⟩, r1, r2, r3, r4⟩ := hrb_iff.mp hm
    have hn : n ≠ 0 := by omega
    obtain ⟨T, rfl⟩ : ∃ T : Nat, x2 = T := ⟨x2.toNat, by omega⟩
    obtain ⟨s0, rfl⟩ : ∃ s : Nat, x3 = s := ⟨x3.toNat, by omega⟩
    have fu : fr_ [(49, 32)] (aw_up w 49 0 0) (aw_up (aw_up w 49 0 0) 49 32 (s0 : Int)) := (fr_r _ _).up rfl
    obtain ⟨w2, e2, h2, q1, q2, q3, q4, f2⟩ := M_run (N := N) (ru := updi rl s0 (-1)) (ev := ev) (T := T) hN (h0.fr fu rfl) hn (he.th.fr fu rfl) (fun s hs => by
      rw [fu 58 s rfl, u0.1 s (by omega)]
      unfold updi
      by_cases z : s = s0
      · subst z
        simp [aw_up]
      · have z' : ¬ (s0 : Int) = (s : Int) := fun q => z (by omega)
        rw [if_neg z, show (aw_up (aw_up w 49 0 0) 49 32 (s0 : Int)) 49 32 = (s0 : Int) by simp [aw_up], if_neg z']) (ruB_n (ruB_up hb (Or.inl rfl)) hn6) r1 r2 (by omega)
    have f3 : fr_ [(49, 32)] w2 (aw_up w2 49 32 (-1)) := (fr_r _ _).up rfl
    have q5 : mst (aw_up w2 49 32 (-1)) n (alR (RS n it (updi rl s0 (-1)) ev x1 T T).2) (scR (RS n it (updi rl s0 (-1)) ev x1 T T).2) (lw 1) (lw 0) := by
      obtain ⟨a1, a2, a3, a4, a5, a6, a7⟩ := q4
      exact ⟨by rw [f3 49 22 rfl]; exact a1, a2, fun s hs => by rw [f3 60 s rfl, f3 59 s rfl]; exact a3 s hs, by rw [f3 56 1 rfl]; exact a4, a5, by rw [f3 56 0 rfl]; exact a6, a7⟩
    rw [if_neg (by decide), if_neg (by decide), e2, b1_some, rh_w (by omega) q5, b2_some]
    unfold hwi cT
    rw [Int.toNat_natCast, Int.toNat_natCast]
    exact ⟨_, rfl, fun s hs => by rw [f3 58 s rfl, f2 58 s rfl, fu 58 s rfl]; exact u0.1 s hs, by simp [aw_up]⟩
def chp (n : Nat) (lw it rl : Nat → Int) (ev : Nat → (Nat → Int) → Int) (x1 x2 : Int) (s0 : Nat) : Nat → Bool := fun r => decide (hwi n lw it rl ev x1 x2 s0 (r : Int) = (s0 : Int))
def a_choice (n k : Nat) (lw it rl : Nat → Int) (ev : Nat → (Nat → Int) → Int) (x1 x2 x3 : Int) : Int := if hrb n x1 x2 x3 = false then -1000000 else fsel (chp n lw it rl ev x1 x2 x3.toNat) k 0
theorem xch_l (hN : 200 ≤ N) (hb : ruB rl n k) (hk : k ≤ 4) {x1 x2 : Int} {s0 : Nat} (hs0 : s0 < n) (r1 : 1 ≤ x1) (r2 : x1 ≤ 99) (r3 : 1 ≤ x2) (r4 : x2 ≤ 99) : ∀ (d f r : Nat) (w : aw_W), d < f → r + d = k → XL w n lw it → evX N w k ev → XU w rl → ∃ w', x_choice_25 N f x1 x2 s0 r w = some (fsel (chp n lw it rl ev x1 x2 s0) d r, w') := by
  intro d
  induction d with
  | zero =>
    intro f r w hf hr h he hu
    obtain ⟨f, rfl⟩ : ∃ g, f = g + 1 := ⟨f - 1, by omega⟩
    rw [x_choice_25, he.1, if_pos (by omega)]
    exact ⟨w, rfl⟩
  | succ d ih =>
    intro f r w hf hr h he hu
    obtain ⟨f, rfl⟩ : ∃ g, f = g + 1 := ⟨f - 1, by omega⟩
    obtain ⟨w1, e1⟩ := X_holderWith (N := N) hN h he hu hb hs0 r1 r2 r3 r4 (v := (r : Int)) (Or.inr ⟨by omega, by omega⟩)
    have f1 := f_x_holderWith N _ _ _ _ _ _ _ e1
    rw [x_choice_25, he.1, if_neg (by omega), e1, b2_some, fsel_s]
    by_cases z : hwi n lw it rl ev x1 x2 s0 (r : Int) = (s0 : Int)
    · rw [if_pos z, if_pos (show chp n lw it rl ev x1 x2 s0 r = true from decide_eq_true z)]
      exact ⟨w1, rfl⟩
    · have z' : ¬ chp n lw it rl ev x1 x2 s0 r = true := fun q => z (of_decide_eq_true q)
      rw [if_neg z, if_neg z', ww1 (by omega)]
      exact ih f (r + 1) w1 (by omega) (by omega) (h.fr f1 rfl) (he.fr f1 rfl) (hu.fr f1 rfl)
theorem X_choice (hN : 200 ≤ N) (h : XL w n lw it) (he : evX N w k ev) (hu : XU w rl) (hb : ruB rl n k) {x1 x2 x3 : Int} : ∃ w', x_choice N x1 x2 x3 w = some (a_choice n k lw it rl ev x1 x2 x3, w') := by
  unfold a_choice
  have hk := he.2.1
  rw [x_choice, xhr h]
  cases hm : hrb n x1 x2 x3 with
  | false => rw [if_pos rfl, if_pos rfl]; exact ⟨w, rfl⟩
  | true =>
    obtain ⟨⟨r5, r6⟩, r1, r2, r3, r4⟩ := hrb_iff.mp hm
    obtain ⟨s, rfl⟩ : ∃ s : Nat, x3 = s := ⟨x3.toNat, by omega⟩
    rw [if_neg (by decide), if_neg (by decide), Int.toNat_natCast]
    exact xch_l (N := N) hN hb hk (show s < n by omega) r1 r2 r3 r4 k N 0 w (by omega) (by omega) h he hu
theorem mchc_l (hN : 200 ≤ N) (hb : ruB rl n k) (hk : k ≤ 4) {x1 : Int} {s0 T : Nat} (hs0 : s0 < n) (r1 : 1 ≤ x1) (r2 : x1 ≤ 99) (r4 : T ≤ 99) : ∀ (d f r : Nat) (w : aw_W), d + 1 < f → r + d = k → ML w n lw it → evM N w k ev → (∀ s, s < 6 → s ≠ s0 → w 58 s = rl s) → w 49 32 = -1 → ∃ w', m_choice_40 N f x1 T s0 (rl s0) (-1) r w = some (fsel (chp n lw it rl ev x1 T s0) d r, w') ∧ MU w' rl := by
  intro d
  induction d with
  | zero =>
    intro f r w hf hr h he hu hst
    obtain ⟨f, rfl⟩ : ∃ g, f = g + 1 := ⟨f - 1, by omega⟩
    have hn6 := h.2.1
    rw [m_choice_40, he.1, if_pos (by omega), m_choice_87, if_pos ⟨by omega, by omega⟩, Int.toNat_natCast]
    refine ⟨_, rfl, fun s hs => ?_, by simp [aw_up]; exact hst⟩
    by_cases z : s = s0
    · subst z; simp [aw_up]
    · simp [aw_up, z]
      exact hu s hs z
  | succ d ih =>
    intro f r w hf hr h he hu hst
    obtain ⟨f, rfl⟩ : ∃ g, f = g + 2 := ⟨f - 2, by omega⟩
    have hn6 := h.2.1
    have hn : n ≠ 0 := by omega
    have fu : fr_ [(58, 1000000)] w (aw_up w 58 s0 (r : Int)) := (fr_r _ _).upA rfl
    obtain ⟨w2, e2, h2, q1, q2, q3, q4, f2⟩ := M_run (N := N) (ru := updi rl s0 (r : Int)) (ev := ev) (T := T) hN (h.fr fu rfl) hn (he.fr fu rfl) (fun s hs => by
      rw [fu 49 32 rfl, hst, if_neg (by omega)]
      unfold updi
      by_cases z : s = s0
      · subst z
        simp [aw_up]
      · simp [aw_up, z]
        rw [hu s (by omega) z]) (ruB_n (ruB_up hb (Or.inr ⟨by omega, by omega⟩)) hn6) r1 r2 r4
    have ehw : rh n lw (RS n it (updi rl s0 (r : Int)) ev x1 T T).2 = hwi n lw it rl ev x1 T s0 (r : Int) := by
      unfold hwi cT
      rw [Int.toNat_natCast]
    have u2 : ∀ s, s < 6 → s ≠ s0 → w2 58 s = rl s := fun s hs z => by
      rw [f2 58 s rfl]
      simp [aw_up, z]
      exact hu s hs z
    have st2 : w2 49 32 = -1 := by rw [f2 49 32 rfl, fu 49 32 rfl]; exact hst
    have he2 := (he.fr fu rfl).fr f2 rfl
    rw [m_choice_40, he.1, if_neg (by omega), if_pos rfl, if_pos ⟨by omega, by omega⟩, Int.toNat_natCast, e2, b1_some, rh_w (by omega) q4, b2_some, ehw, fsel_s]
    by_cases z : hwi n lw it rl ev x1 T s0 (r : Int) = (s0 : Int)
    · have fin : ∃ w', m_choice_87 N s0 (rl s0) r w2 = some ((r : Int), w') ∧ MU w' rl := by
        rw [m_choice_87, if_pos ⟨by omega, by omega⟩, Int.toNat_natCast]
        refine ⟨_, rfl, fun s hs => ?_, by simp [aw_up]; exact st2⟩
        by_cases y : s = s0
        · subst y; simp [aw_up]
        · simp [aw_up, y]
          exact u2 s hs y
      rw [if_pos z, if_pos (show chp n lw it rl ev x1 T s0 r = true from decide_eq_true z), m_choice_81, m_choice_40, he2.1, if_neg (show ¬ (r : Int) = -1 by omega)]
      by_cases y : (k : Int) ≤ aw_w ((r : Int) + 1)
      · rw [if_pos y]; exact fin
      · rw [if_neg y]; exact fin
    · have z' : ¬ chp n lw it rl ev x1 T s0 r = true := fun q => z (of_decide_eq_true q)
      rw [if_neg z, if_neg z', m_choice_81, ww1 (by omega)]
      exact ih (f + 1) (r + 1) w2 (by omega) (by omega) h2 he2 u2 st2
theorem M_choice (hN : 200 ≤ N) (h : ML w n lw it) (he : evM N w k ev) (hu : MU w rl) (hb : ruB rl n k) {x1 x2 x3 : Int} : ∃ w', m_choice N x1 x2 x3 w = some (a_choice n k lw it rl ev x1 x2 x3, w') ∧ MU w' rl := by
  unfold a_choice
  have hn6 := h.2.1
  have hk := he.2.1
  have h0 := h.th
  have u0 := hu.th
  rw [m_choice, mhr h0]
  cases hm : hrb n x1 x2 x3 with
  | false => rw [if_pos rfl, if_pos rfl]; exact ⟨_, rfl, u0⟩
  | true =>
    obtain ⟨⟨r5, r6⟩, r1, r2, r3, r4⟩ := hrb_iff.mp hm
    obtain ⟨T, rfl⟩ : ∃ T : Nat, x2 = T := ⟨x2.toNat, by omega⟩
    obtain ⟨s0, rfl⟩ : ∃ s : Nat, x3 = s := ⟨x3.toNat, by omega⟩
    rw [if_neg (by decide), if_pos ⟨by omega, by omega⟩, if_neg (by decide), Int.toNat_natCast, u0.1 s0 (by omega)]
    exact mchc_l (N := N) hN hb hk (show s0 < n by omega) r1 r2 (by omega) k N 0 _ (by omega) (by omega) h0 he.th (fun s hs _ => u0.1 s hs) u0.2
def lap (n : Nat) (lw it rl : Nat → Int) (ev : Nat → (Nat → Int) → Int) (x1 : Int) : Nat → Bool := fun d => decide (rh n lw (cT n it rl ev x1 (d : Int)) ≠ -1)
def a_latest (n : Nat) (lw it rl : Nat → Int) (ev : Nat → (Nat → Int) → Int) (x1 : Int) : Int := if (decide (n ≠ 0) && mrb x1 1) = false then -1000000 else fsel (lap n lw it rl ev x1) 99 1
theorem xla_l (hN : 200 ≤ N) (hb : ruB rl n k) (hn : n ≠ 0) {x1 : Int} (r1 : 1 ≤ x1) (r2 : x1 ≤ 99) : ∀ (d f u : Nat) (w : aw_W), d < f → u + d = 100 → XL w n lw it → evX N w k ev → (∀ s, s < n → w 30 s = rl s) → ∃ w', x_latest_30 N f x1 u w = some (fsel (lap n lw it rl ev x1) d u, w') := by
  intro d
  induction d with
  | zero =>
    intro f u w hf hr h he hu
    obtain ⟨f, rfl⟩ : ∃ g, f = g + 1 := ⟨f - 1, by omega⟩
    rw [x_latest_30, if_pos (by omega)]
    exact ⟨w, rfl⟩
  | succ d ih =>
    intro f u w hf hr h he hu
    obtain ⟨f, rfl⟩ : ∃ g, f = g + 1 := ⟨f - 1, by omega⟩
    have hn6 := h.2.1
    obtain ⟨w2, e2, q1, q2, q3, q4, h2, he2, u2⟩ := X_rgo (N := N) (ru := rl) (ev := ev) (du := (u : Int)) (T := u) hN h hn he hu (ruB_n hb hn6) r1 r2 (by omega) (Int.le_refl _)
    obtain ⟨w3, e3⟩ := X_rholder (N := N) (by omega) h2 hn (cT_bd r1 (h.2.2.2.2.2 hn).2 (by omega)) q2
    have f3 := f_x_Race_holder N _ _ _ e3
    have ec : rh n lw (RS n it rl ev x1 u u).2 = rh n lw (cT n it rl ev x1 (u : Int)) := by
      unfold cT
      rw [Int.toNat_natCast]
    rw [x_latest_30, if_neg (by omega), e2, b1_some, e3, b2_some, ec, fsel_s]
    by_cases z : rh n lw (cT n it rl ev x1 (u : Int)) = -1
    · have z' : ¬ lap n lw it rl ev x1 u = true := fun q => (of_decide_eq_true q) z
      rw [if_pos z, if_neg z', ww1 (by omega)]
      exact ih f (u + 1) w3 (by omega) (by omega) (h2.fr f3 rfl) (he2.fr f3 rfl) (fun s hs => by rw [f3 30 s rfl]; exact u2 s hs)
    · rw [if_neg z, if_pos (show lap n lw it rl ev x1 u = true from decide_eq_true z)]
      exact ⟨w3, rfl⟩
theorem X_latest (hN : 200 ≤ N) (h : XL w n lw it) (he : evX N w k ev) (hu : XU w rl) (hb : ruB rl n k) {x1 : Int} : ∃ w', x_latest N x1 w = some (a_latest n lw it rl ev x1, w') := by
  unfold a_latest
  have hn6 := h.2.1
  rw [x_latest, h.1]
  by_cases c0 : n = 0
  · rw [if_pos (by omega), if_pos (by rw [decide_eq_false (fun q => q c0)]; rfl)]
    exact ⟨w, rfl⟩
  · rw [if_neg (by omega), X_mayRun, b2_some, decide_eq_true c0, Bool.true_and]
    cases hm : mrb x1 1 with
    | false => rw [if_pos b2i_f, if_pos rfl]; exact ⟨w, rfl⟩
    | true =>
      obtain ⟨r1, r2, -, -⟩ := mrb_iff.mp hm
      obtain ⟨w1, e1, u1, f1⟩ := X_rtold (N := N) hu
      rw [if_neg b2i_t, if_neg (by decide), e1, b1_some]
      exact xla_l (N := N) hN hb c0 r1 r2 99 N 1 w1 (by omega) (by omega) (h.fr f1 rfl) (he.fr f1 rfl) (fun s hs => u1 s (by omega))
theorem mla_l (hN : 200 ≤ N) (hb : ruB rl n k) (hn : n ≠ 0) {x1 : Int} (r1 : 1 ≤ x1) (r2 : x1 ≤ 99) : ∀ (d f u : Nat) (w : aw_W), d < f → u + d = 100 → ML w n lw it → evM N w k ev → MU w rl → ∃ w', m_latest_20 N f x1 u w = some (fsel (lap n lw it rl ev x1) d u, w') := by
  intro d
  induction d with
  | zero =>
    intro f u w hf hr h he hu
    obtain ⟨f, rfl⟩ : ∃ g, f = g + 1 := ⟨f - 1, by omega⟩
    rw [m_latest_20, if_pos (by omega)]
    exact ⟨w, rfl⟩
  | succ d ih =>
    intro f u w hf hr h he hu
    obtain ⟨f, rfl⟩ : ∃ g, f = g + 1 := ⟨f - 1, by omega⟩
    have hn6 := h.2.1
    obtain ⟨w2, e2, h2, q1, q2, q3, q4, f2⟩ := M_run (N := N) (ru := rl) (ev := ev) (T := u) hN h hn he (ruM_n hu hn6) (ruB_n hb hn6) r1 r2 (by omega)
    have ec : rh n lw (RS n it rl ev x1 u u).2 = rh n lw (cT n it rl ev x1 (u : Int)) := by
      unfold cT
      rw [Int.toNat_natCast]
    rw [m_latest_20, if_neg (by omega), e2, b1_some, rh_w (by omega) q4, b2_some, ec, fsel_s]
    by_cases z : rh n lw (cT n it rl ev x1 (u : Int)) = -1
    · have z' : ¬ lap n lw it rl ev x1 u = true := fun q => (of_decide_eq_true q) z
      rw [if_pos z, if_neg z', ww1 (by omega)]
      exact ih f (u + 1) w2 (by omega) (by omega) h2 (he.fr f2 rfl) (hu.fr f2 rfl)
    · rw [if_neg z, if_pos (show lap n lw it rl ev x1 u = true from decide_eq_true z)]
      exact ⟨w2, rfl⟩
theorem M_latest (hN : 200 ≤ N) (h : ML w n lw it) (he : evM N w k ev) (hu : MU w rl) (hb : ruB rl n k) {x1 : Int} : ∃ w', m_latest N x1 w = some (a_latest n lw it rl ev x1, w') := by
  unfold a_latest
  rw [m_latest, M_isRace h.th, b2_some]
  cases hm : (decide (n ≠ 0) && mrb x1 1) with
  | false => rw [if_pos b2i_f, if_pos rfl]; exact ⟨_, rfl⟩
  | true =>
    obtain ⟨c0, r1, r2, -, -⟩ := nrb_iff.mp hm
    rw [if_neg b2i_t, if_neg (by decide)]
    exact mla_l (N := N) hN hb c0 r1 r2 99 N 1 _ (by omega) (by omega) h.th he.th hu.th
end RW2
