/-! ===== pure: the law, rules, images, counts ===== -/
section SM
variable {N : Nat} {w v : aw_W} {n k m km : Nat} {lw it rl kl ku : Nat → Int} {r kr : Nat → Nat} {ev : Nat → (Nat → Int) → Int} {S : List (Nat × Nat)} {kp : Bool}
def a_law (n : Nat) (lw : Nat → Int) (x1 : Int) : Int := if n = 0 ∨ x1 < 0 ∨ 5 ≤ x1 then -1 else lw x1.toNat
theorem X_law (h : XL w n lw it) {x1 : Int} : ∃ w', x_law N x1 w = some (a_law n lw x1, w') := by
  unfold a_law
  rw [x_law, h.1]
  by_cases c0 : n = 0
  · rw [if_pos (by omega), if_pos (Or.inl c0)]; exact ⟨w, rfl⟩
  · rw [if_neg (by omega)]
    by_cases c1 : x1 < 0
    · rw [if_pos c1, if_pos (Or.inr (Or.inl c1))]; exact ⟨w, rfl⟩
    · rw [if_neg c1]
      by_cases c2 : x1 < 5
      · rw [if_pos c2, if_pos ⟨by omega, c2⟩, if_neg (by omega), x_law_32, h.2.2.2.1 _ (by omega)]; exact ⟨w, rfl⟩
      · rw [if_neg c2, if_pos (by omega)]; exact ⟨w, rfl⟩
theorem M_law (h : ML w n lw it) {x1 : Int} : ∃ w', m_law N x1 w = some (a_law n lw x1, w') := by
  unfold a_law
  rw [m_law, h.1]
  by_cases c0 : n = 0
  · rw [if_pos (by omega), if_pos (Or.inl c0)]; exact ⟨_, rfl⟩
  · rw [if_neg (by omega), m_isIn_ok, b2_some]
    by_cases c1 : 0 ≤ x1 ∧ x1 ≤ 4
    · rw [if_neg (fun z => (b2i_and.mp z) c1), if_pos ⟨c1.1, by omega⟩, if_neg (by omega), m_law_34, h.th.2.2.2.1 _ (by omega)]; exact ⟨_, rfl⟩
    · rw [if_pos (b2i_and.mpr c1), if_pos (by omega)]; exact ⟨_, rfl⟩
/-! change -/
def lwo (x : Int) : Int := if x = 0 then 1 else 0
def hwo (x : Int) : Int := if x = 0 then 6 else if x = 1 then 1 else if x = 2 then 2 else if x = 3 then 99 else 9
def cok (n : Nat) (x1 x2 : Int) : Bool := decide (n ≠ 0 ∧ 0 ≤ x1 ∧ x1 < 5 ∧ lwo x1 ≤ x2 ∧ x2 ≤ hwo x1)
theorem cok_iff {x1 x2 : Int} : cok n x1 x2 = true ↔ n ≠ 0 ∧ 0 ≤ x1 ∧ x1 < 5 ∧ lwo x1 ≤ x2 ∧ x2 ≤ hwo x1 := decide_eq_true_iff
theorem cok_no {x1 x2 : Int} (h : ¬ (n ≠ 0 ∧ 0 ≤ x1 ∧ x1 < 5 ∧ lwo x1 ≤ x2 ∧ x2 ≤ hwo x1)) : cok n x1 x2 = false := decide_eq_false h
def lwc (n : Nat) (lw : Nat → Int) (x1 x2 : Int) : Nat → Int := if cok n x1 x2 then updi lw x1.toNat x2 else lw
theorem tlo {x : Int} (h0 : 0 ≤ x) (h1 : x < 5) : (List.getD [1, 0, 0, 0, 0] (x.toNat) 0 : Int) = lwo x := by
  obtain ⟨k, rfl⟩ : ∃ k : Nat, x = k := ⟨x.toNat, by omega⟩
  rw [Int.toNat_natCast]
  have hk : k < 5 := by omega
  have key : ∀ k : Nat, k < 5 → (List.getD [1, 0, 0, 0, 0] k 0 : Int) = lwo (k : Int) := by decide
  exact key k hk
theorem thi {x : Int} (h0 : 0 ≤ x) (h1 : x < 5) : (List.getD [6, 1, 2, 99, 9] (x.toNat) 0 : Int) = hwo x := by
  obtain ⟨k, rfl⟩ : ∃ k : Nat, x = k := ⟨x.toNat, by omega⟩
  rw [Int.toNat_natCast]
  have hk : k < 5 := by omega
  have key : ∀ k : Nat, k < 5 → (List.getD [6, 1, 2, 99, 9] k 0 : Int) = hwo (k : Int) := by decide
  exact key k hk
theorem LB_up (h : LB lw) {x1 x2 : Int} (h0 : 0 ≤ x1) (h5 : x1 < 5) (hl : lwo x1 ≤ x2) (hh : x2 ≤ hwo x1) : LB (updi lw x1.toNat x2) := by
  obtain ⟨k, rfl⟩ : ∃ k : Nat, x1 = k := ⟨x1.toNat, by omega⟩
  rw [Int.toNat_natCast]
  unfold LB at h ⊢
  unfold updi
  unfold lwo at hl
  unfold hwo at hh
  by_cases e0 : k = 0
  · subst e0
    simp at hl hh ⊢
    omega
  · by_cases e1 : k = 1
    · subst e1
      simp at hl hh ⊢
      omega
    · by_cases e2 : k = 2
      · subst e2
        simp at hl hh ⊢
        omega
      · by_cases e3 : k = 3
        · subst e3
          simp at hl hh ⊢
          omega
        · have e4 : k = 4 := by omega
          subst e4
          simp at hl hh ⊢
          omega
theorem X_change (h : XL w n lw it) {x1 x2 : Int} : ∃ w', x_change N x1 x2 w = some (b2i (cok n x1 x2), w') ∧ XL w' n (lwc n lw x1 x2) it ∧ (w' = w ∧ cok n x1 x2 = false ∨ w' 23 4 = 0) := by
  unfold lwc
  have no : ¬ (n ≠ 0 ∧ 0 ≤ x1 ∧ x1 < 5 ∧ lwo x1 ≤ x2 ∧ x2 ≤ hwo x1) → ∃ w', (some ((0 : Int), w) : Option (Int × aw_W)) = some (b2i (cok n x1 x2), w') ∧ XL w' n (if cok n x1 x2 = true then updi lw x1.toNat x2 else lw) it ∧ (w' = w ∧ cok n x1 x2 = false ∨ w' 23 4 = 0) := by
    intro z
    rw [cok_no z]
    exact ⟨w, rfl, by rw [if_neg (by decide)]; exact h, Or.inl ⟨rfl, rfl⟩⟩
  rw [x_change, h.1]
  by_cases c0 : n = 0
  · rw [if_pos (by omega)]; exact no (fun z => z.1 c0)
  · rw [if_neg (by omega)]
    by_cases c1 : x1 < 0
    · rw [if_pos c1]; exact no (by omega)
    · rw [if_neg c1]
      by_cases c2 : x1 < 5
      · have b5 : 0 ≤ x1 ∧ x1 < 5 := ⟨by omega, c2⟩
        rw [if_pos c2, if_pos b5, if_pos b5, if_pos b5, tlo b5.1 b5.2, thi b5.1 b5.2]
        by_cases c3 : x2 < lwo x1
        · rw [if_pos c3]; exact no (fun z => by omega)
        · rw [if_neg c3]
          by_cases c4 : x2 ≤ hwo x1
          · have hc : cok n x1 x2 = true := cok_iff.mpr ⟨c0, b5.1, c2, by omega, c4⟩
            rw [if_pos c4, hc, if_pos rfl]
            obtain ⟨q0, q1, q2, q3, q4, q5⟩ := h
            refine ⟨_, rfl, ⟨by simp [aw_up]; exact q0, q1, q2, fun j hj => ?_, fun j hj => by simp [aw_up]; exact q4 j hj, fun _ => ⟨LB_up (q5 c0).1 b5.1 c2 (by omega) c4, (q5 c0).2⟩⟩, Or.inr (by simp [aw_up])⟩
            unfold updi
            by_cases e : j = x1.toNat
            · simp [aw_up, e]
            · simp [aw_up, e]
              exact q3 j hj
          · rw [if_neg c4]; exact no (fun z => c4 z.2.2.2.2)
      · rw [if_neg c2]; exact no (fun z => c2 z.2.2.1)
theorem M_leastOf {x : Int} : m_leastOf N 1 x w = some (lwo x, w) := by
  rw [m_leastOf]
  unfold lwo
  split <;> rfl
theorem M_mostOf {x : Int} : m_mostOf N 1 x w = some (hwo x, w) := by
  rw [m_mostOf, if_neg (by decide)]
  unfold hwo
  split
  · rfl
  · split
    · rfl
    · split
      · rfl
      · split <;> rfl
theorem M_change (h : ML w n lw it) {x1 x2 : Int} : ∃ w', m_change N x1 x2 w = some (b2i (cok n x1 x2), w') ∧ ML w' n (lwc n lw x1 x2) it := by
  unfold lwc
  have no : ¬ (n ≠ 0 ∧ 0 ≤ x1 ∧ x1 < 5 ∧ lwo x1 ≤ x2 ∧ x2 ≤ hwo x1) → ∃ w', (some ((0 : Int), aw_up w 49 0 0) : Option (Int × aw_W)) = some (b2i (cok n x1 x2), w') ∧ ML w' n (if cok n x1 x2 = true then updi lw x1.toNat x2 else lw) it := by
    intro z
    rw [cok_no z]
    exact ⟨_, rfl, by rw [if_neg (by decide)]; exact h.th⟩
  rw [m_change, h.1]
  by_cases c0 : n = 0
  · rw [if_pos (by omega)]; exact no (fun z => z.1 c0)
  · rw [if_neg (by omega), m_isIn_ok, b2_some]
    by_cases c1 : 0 ≤ x1 ∧ x1 ≤ 4
    · rw [if_neg (fun z => (b2i_and.mp z) c1), M_leastOf, b2_some, M_mostOf, b2_some, m_isIn_ok, b2_some]
      by_cases c4 : lwo x1 ≤ x2 ∧ x2 ≤ hwo x1
      · have hc : cok n x1 x2 = true := cok_iff.mpr ⟨c0, c1.1, by omega, c4⟩
        rw [if_neg (fun z => (b2i_and.mp z) c4), if_pos ⟨c1.1, by omega⟩, hc, if_pos rfl]
        obtain ⟨q0, q1, q2, q3, q4, q5⟩ := h.th
        refine ⟨_, rfl, ⟨by simp [aw_up]; simp [aw_up] at q0; exact q0, q1, q2, fun j hj => ?_, fun j hj => by simp [aw_up]; have := q4 j hj; simp [aw_up] at this; exact this, fun _ => ⟨LB_up (q5 c0).1 c1.1 (by omega) c4.1 c4.2, (q5 c0).2⟩⟩⟩
        unfold updi
        by_cases e : j = x1.toNat
        · simp [aw_up, e]
        · simp [aw_up, e]
          have := q3 j hj
          simp [aw_up] at this
          exact this
      · rw [if_pos (b2i_and.mpr c4)]; exact no (fun z => c4 z.2.2.2)
    · rw [if_pos (b2i_and.mpr c1)]; exact no (fun z => by omega)
/-! rule -/
def rok1 (n k : Nat) (x1 x2 : Int) : Bool := decide (0 ≤ x1 ∧ x1 < (n : Int) ∧ (x2 = -1 ∨ (0 ≤ x2 ∧ x2 < (k : Int))))
theorem rok1_iff {x1 x2 : Int} : rok1 n k x1 x2 = true ↔ 0 ≤ x1 ∧ x1 < (n : Int) ∧ (x2 = -1 ∨ (0 ≤ x2 ∧ x2 < (k : Int))) := decide_eq_true_iff
theorem rok1_no {x1 x2 : Int} (h : ¬ (0 ≤ x1 ∧ x1 < (n : Int) ∧ (x2 = -1 ∨ (0 ≤ x2 ∧ x2 < (k : Int))))) : rok1 n k x1 x2 = false := decide_eq_false h
def rlc (n k : Nat) (rl : Nat → Int) (x1 x2 : Int) : Nat → Int := if rok1 n k x1 x2 then updi rl x1.toNat x2 else rl
theorem ruB_rlc (hb : ruB rl n k) {x1 x2 : Int} : ruB (rlc n k rl x1 x2) n k := by
  unfold rlc
  split
  · next z => exact ruB_up hb (rok1_iff.mp z).2.2
  · exact hb
theorem X_rholds (he : w 11 6 = (k : Int)) {x : Int} : x_Rules_holds N x w = some (b2i (decide (0 ≤ x) && decide (x < (k : Int))), w) := by
  rw [x_Rules_holds, he]
  by_cases c : x < 0
  · have : ¬ 0 ≤ x := by omega
    rw [if_pos c]
    simp [x_Rules_holds_16, x_Rules_holds_17, b2i, this]
  · rw [if_neg c]
    by_cases c2 : (k : Int) ≤ x
    · have : ¬ x < (k : Int) := by omega
      rw [if_pos c2]
      simp [x_Rules_holds_16, x_Rules_holds_17, b2i, this]
    · have h1 : 0 ≤ x := by omega
      have h2 : x < (k : Int) := by omega
      rw [if_neg c2]
      simp [x_Rules_holds_17, b2i, h1, h2]
theorem X_rule (h : XL w n lw it) (he : w 11 6 = (k : Int)) (hu : XU w rl) {x1 x2 : Int} : ∃ w', x_rule N x1 x2 w = some (b2i (rok1 n k x1 x2), w') ∧ XU w' (rlc n k rl x1 x2) := by
  unfold rlc
  have hn6 := h.2.1
  have no : ¬ (0 ≤ x1 ∧ x1 < (n : Int) ∧ (x2 = -1 ∨ (0 ≤ x2 ∧ x2 < (k : Int)))) → ∃ w', x_rule_27 N w = some (b2i (rok1 n k x1 x2), w') ∧ XU w' (if rok1 n k x1 x2 = true then updi rl x1.toNat x2 else rl) := by
    intro z
    rw [rok1_no z, if_neg (by decide)]
    exact ⟨w, rfl, hu⟩
  have yes : 0 ≤ x1 ∧ x1 < (n : Int) ∧ (x2 = -1 ∨ (0 ≤ x2 ∧ x2 < (k : Int))) → ∃ w', x_rule_29 N x1 x2 w = some (b2i (rok1 n k x1 x2), w') ∧ XU w' (if rok1 n k x1 x2 = true then updi rl x1.toNat x2 else rl) := by
    intro z
    rw [rok1_iff.mpr z, if_pos rfl, x_rule_29, if_pos ⟨z.1, by omega⟩]
    refine ⟨_, rfl, fun s hs => ?_⟩
    unfold updi
    by_cases e : s = x1.toNat
    · simp [aw_up, e]
    · simp [aw_up, e]
      exact hu s hs
  rw [x_rule, xl_holds, b2_some, h.1]
  by_cases c : x1 < 0 ∨ (n : Int) ≤ x1
  · rw [if_pos (b2i_rng.mpr c)]; exact no (fun z => by omega)
  · rw [if_neg (fun z => c (b2i_rng.mp z))]
    by_cases c2 : x2 = -1
    · rw [if_pos c2]; exact yes ⟨by omega, by omega, Or.inl c2⟩
    · rw [if_neg c2, X_rholds he, b2_some]
      by_cases c3 : x2 < 0 ∨ (k : Int) ≤ x2
      · rw [if_pos (b2i_rng.mpr c3)]; exact no (fun z => by omega)
      · rw [if_neg (fun z => c3 (b2i_rng.mp z))]; exact yes ⟨by omega, by omega, Or.inr (by omega)⟩
theorem M_rule (h : ML w n lw it) (he : w 49 7 = (k : Int)) (hk : k ≤ 4) (hu : MU w rl) {x1 x2 : Int} : ∃ w', m_rule N x1 x2 w = some (b2i (rok1 n k x1 x2), w') ∧ MU w' (rlc n k rl x1 x2) := by
  unfold rlc
  have hn6 := h.2.1
  have u0 := hu.th
  have e0 : (aw_up w 49 0 0) 49 7 = (k : Int) := by simp [aw_up]; exact he
  have no : ¬ (0 ≤ x1 ∧ x1 < (n : Int) ∧ (x2 = -1 ∨ (0 ≤ x2 ∧ x2 < (k : Int)))) → ∃ w', m_rule_34 N (aw_up w 49 0 0) = some (b2i (rok1 n k x1 x2), w') ∧ MU w' (if rok1 n k x1 x2 = true then updi rl x1.toNat x2 else rl) := by
    intro z
    rw [rok1_no z, if_neg (by decide)]
    exact ⟨_, rfl, u0⟩
  have yes : 0 ≤ x1 ∧ x1 < (n : Int) ∧ (x2 = -1 ∨ (0 ≤ x2 ∧ x2 < (k : Int))) → ∃ w', m_rule_36 N x1 x2 (aw_up w 49 0 0) = some (b2i (rok1 n k x1 x2), w') ∧ MU w' (if rok1 n k x1 x2 = true then updi rl x1.toNat x2 else rl) := by
    intro z
    rw [rok1_iff.mpr z, if_pos rfl, m_rule_36, if_pos ⟨z.1, by omega⟩]
    refine ⟨_, rfl, fun s hs => ?_, by have := u0.2; simp [aw_up] at this ⊢; exact this⟩
    unfold updi
    by_cases e : s = x1.toNat
    · simp [aw_up, e]
    · simp [aw_up, e]
      have := u0.1 s hs
      simp [aw_up] at this
      exact this
  rw [m_rule, m_isStriver_ok, b2_some, h.th.1]
  by_cases c : x1 < 0 ∨ (n : Int) ≤ x1
  · rw [if_pos (b2i_rng.mpr c)]; exact no (fun z => by omega)
  · rw [if_neg (fun z => c (b2i_rng.mp z))]
    by_cases c2 : x2 = -1
    · rw [if_pos c2]; exact yes ⟨by omega, by omega, Or.inl c2⟩
    · rw [if_neg c2, e0, ww (x := (k : Int) - 1) (by omega) (by omega), m_isIn_ok, b2_some]
      by_cases c3 : 0 ≤ x2 ∧ x2 ≤ (k : Int) - 1
      · rw [if_neg (fun z => (b2i_and.mp z) c3)]; exact yes ⟨by omega, by omega, Or.inr (by omega)⟩
      · rw [if_pos (b2i_and.mpr c3)]; exact no (fun z => by omega)
/-! images -/
def XI (w : aw_W) (kp : Bool) (km : Nat) (kr : Nat → Nat) (kl ku : Nat → Int) : Prop := w 0 14 = b2i kp ∧ (kp = true → w 44 4 = km ∧ km ≤ 40 ∧ (∀ j, j < 40 → w 45 j = (kr j : Int) ∧ kr j < 2147483648) ∧ (∀ j, j < 5 → w 47 j = kl j) ∧ (∀ j, j < 6 → w 48 j = ku j))
def MI (w : aw_W) (kp : Bool) (km : Nat) (kr : Nat → Nat) (kl ku : Nat → Int) : Prop := w 49 51 = b2i kp ∧ (kp = true → w 49 50 = km ∧ km ≤ 40 ∧ (∀ j, j < 40 → w 70 j = (kr j : Int) ∧ kr j < 2147483648) ∧ (∀ j, j < 5 → w 72 j = kl j) ∧ (∀ j, j < 6 → w 71 j = ku j))
def P_XI : List (Nat × Nat) := [(0, 14), (44, 4), (45, 1000000), (47, 1000000), (48, 1000000)]
def P_MI : List (Nat × Nat) := [(49, 51), (49, 50), (70, 1000000), (71, 1000000), (72, 1000000)]
theorem XI.fr (h : XI w kp km kr kl ku) (hf : fr_ S w v) (ha : avd S P_XI = true) : XI v kp km kr kl ku := by
  refine ⟨by rw [avd_fr ha hf rfl]; exact h.1, fun q => ?_⟩
  obtain ⟨h1, h2, h3, h4, h5⟩ := h.2 q
  exact ⟨by rw [avd_fr ha hf rfl]; exact h1, h2, fun j hj => by rw [avd_fr ha hf (fr_inA rfl j)]; exact h3 j hj, fun j hj => by rw [avd_fr ha hf (fr_inA rfl j)]; exact h4 j hj, fun j hj => by rw [avd_fr ha hf (fr_inA rfl j)]; exact h5 j hj⟩
theorem MI.fr (h : MI w kp km kr kl ku) (hf : fr_ S w v) (ha : avd S P_MI = true) : MI v kp km kr kl ku := by
  refine ⟨by rw [avd_fr ha hf rfl]; exact h.1, fun q => ?_⟩
  obtain ⟨h1, h2, h3, h4, h5⟩ := h.2 q
  exact ⟨by rw [avd_fr ha hf rfl]; exact h1, h2, fun j hj => by rw [avd_fr ha hf (fr_inA rfl j)]; exact h3 j hj, fun j hj => by rw [avd_fr ha hf (fr_inA rfl j)]; exact h4 j hj, fun j hj => by rw [avd_fr ha hf (fr_inA rfl j)]; exact h5 j hj⟩
theorem MI.th (h : MI w kp km kr kl ku) : MI (aw_up w 49 0 0) kp km kr kl ku := h.fr (S := [(49, 0)]) ((fr_r _ w).up rfl) rfl
theorem cpy_in {f : Nat → Int} {i nn a b : Nat} (ha : a = i) (hb : b < nn) : aw_cpy f w i 0 0 nn a b = f b := by
  unfold aw_cpy
  rw [if_pos ⟨ha, by omega, by omega⟩, Nat.sub_zero, Nat.zero_add]
theorem cpy_out {f : Nat → Int} {i nn a b : Nat} (ha : a ≠ i) : aw_cpy f w i 0 0 nn a b = w a b := by
  unfold aw_cpy
  rw [if_neg (fun q => ha q.1)]
theorem up_out {i j a b : Nat} {x : Int} (h : a ≠ i ∨ b ≠ j) : aw_up w i j x a b = w a b := by
  unfold aw_up
  rw [if_neg (fun q => h.elim (fun z => z q.1) (fun z => z q.2))]
theorem up_in {i j : Nat} {x : Int} : aw_up w i j x i j = x := by
  unfold aw_up
  rw [if_pos ⟨rfl, rfl⟩]
def a_image (n m : Nat) : Int := if n = 0 then -1 else (m : Int)
theorem X_image (h : XL w n lw it) (hb : XB w m r) (hu : XU w rl) (hi : XI w kp km kr kl ku) : ∃ w', x_image N w = some (a_image n m, w') ∧ (n ≠ 0 → XI w' true m r lw rl) ∧ (n = 0 → w' = w) := by
  unfold a_image
  rw [x_image, h.1]
  by_cases c0 : n = 0
  · rw [if_pos (by omega), if_pos c0]
    exact ⟨w, rfl, fun q => absurd c0 q, fun _ => rfl⟩
  · obtain ⟨b1, b2, b3⟩ := hb
    rw [if_neg (by omega), if_neg c0, x_Book_become_44_41, b1_some]
    have e41 : aw_up (aw_cpy (w 42) w 45 0 0 40) 44 4 (w 41 4) 41 4 = (m : Int) := by rw [up_out (Or.inl (by decide)), cpy_out (by decide), b1]
    rw [e41]
    refine ⟨_, rfl, fun _ => ⟨up_in, fun _ => ⟨?_, b2, fun j hj => ?_, fun j hj => ?_, fun j hj => ?_⟩⟩, fun q => absurd q c0⟩
    · rw [up_out (Or.inl (by decide)), cpy_out (by decide), cpy_out (by decide), up_in, b1]
    · rw [up_out (Or.inl (by decide)), cpy_out (by decide), cpy_out (by decide), up_out (Or.inl (by decide)), cpy_in rfl hj]
      exact b3 j hj
    · rw [up_out (Or.inl (by decide)), cpy_out (by decide), cpy_in rfl hj, up_out (Or.inl (by decide)), cpy_out (by decide)]
      exact h.2.2.2.1 j hj
    · rw [up_out (Or.inl (by decide)), cpy_in rfl hj, cpy_out (by decide), up_out (Or.inl (by decide)), cpy_out (by decide)]
      exact hu j hj
def a_back (kp : Bool) (km : Nat) : Int := if kp then (km : Int) else -1
theorem X_back (h : XL w n lw it) (hn : kp = true → n ≠ 0 ∧ LB kl) (hi : XI w kp km kr kl ku) : ∃ w', x_back N w = some (a_back kp km, w') ∧ (kp = true → XL w' n kl it ∧ XB w' km kr ∧ XU w' ku ∧ w' 23 4 = 0) ∧ (kp = false → w' = w) := by
  unfold a_back
  rw [x_back, hi.1]
  cases hk : kp with
  | false =>
    rw [if_pos b2i_f, if_neg (by decide)]
    exact ⟨w, rfl, fun q => absurd q (by decide), fun _ => rfl⟩
  | true =>
    obtain ⟨h1, h2, h3, h4, h5⟩ := hi.2 hk
    obtain ⟨n0, lb⟩ := hn hk
    obtain ⟨q0, q1, q2, q3, q4, q5⟩ := h
    rw [if_neg b2i_t, if_pos rfl, x_Book_become, b1_some]
    have e41 : aw_up (aw_cpy (w 45) w 42 0 0 40) 41 4 (w 44 4) 41 4 = (km : Int) := by rw [up_in, h1]
    rw [e41]
    refine ⟨_, rfl, fun _ => ⟨⟨?_, q1, q2, fun j hj => ?_, fun j hj => ?_, fun _ => ⟨lb, (q5 n0).2⟩⟩, ⟨?_, h2, fun j hj => ?_⟩, fun j hj => ?_, up_in⟩, fun q => absurd q (by decide)⟩
    · rw [up_out (Or.inl (by decide)), cpy_out (by decide), cpy_out (by decide), up_out (Or.inl (by decide)), cpy_out (by decide)]
      exact q0
    · rw [up_out (Or.inl (by decide)), cpy_out (by decide), cpy_in rfl hj, up_out (Or.inl (by decide)), cpy_out (by decide)]
      exact h4 j hj
    · rw [up_out (Or.inl (by decide)), cpy_out (by decide), cpy_out (by decide), up_out (Or.inl (by decide)), cpy_out (by decide)]
      exact q4 j hj
    · rw [up_out (Or.inl (by decide)), cpy_out (by decide), cpy_out (by decide), up_in]
      exact h1
    · rw [up_out (Or.inl (by decide)), cpy_out (by decide), cpy_out (by decide), up_out (Or.inl (by decide)), cpy_in rfl hj]
      exact h3 j hj
    · rw [up_out (Or.inl (by decide)), cpy_in rfl hj, cpy_out (by decide), up_out (Or.inl (by decide)), cpy_out (by decide)]
      exact h5 j hj
/-- a loop that copies: d from s, cell by cell -/
theorem mi16 {L : Nat} : ∀ (k f i : Nat) (w : aw_W), k < f → i + k = 40 → (∀ j, j < i → w 70 j = w 69 j) → ∃ w', m_image_16 N f i w = m_image_40 N w' ∧ (∀ j, j < 40 → w' 70 j = w 69 j) ∧ fr_ [(70, 1000000)] w w' := by
  intro k
  induction k with
  | zero =>
    intro f i w hf hi h
    obtain ⟨f, rfl⟩ : ∃ g, f = g + 1 := ⟨f - 1, by omega⟩
    rw [m_image_16, if_pos (by omega)]
    exact ⟨w, rfl, fun j hj => h j (by omega), fr_r _ _⟩
  | succ k ih =>
    intro f i w hf hi h
    obtain ⟨f, rfl⟩ : ∃ g, f = g + 1 := ⟨f - 1, by omega⟩
    have b : 0 ≤ (i : Int) ∧ (i : Int) < 40 := ⟨by omega, by omega⟩
    rw [m_image_16, if_neg (by omega), if_pos b, if_pos b, ww1 (by omega), Int.toNat_natCast]
    obtain ⟨w', a1, a2, a3⟩ := ih f (i + 1) (aw_up w 70 i (w 69 i)) (by omega) (by omega) (fun j hj => by
      by_cases e : j = i
      · subst e
        rw [up_in, up_out (Or.inl (by decide))]
      · rw [up_out (Or.inr e), up_out (Or.inl (by decide))]
        exact h j (by omega))
    exact ⟨w', a1, fun j hj => by rw [a2 j hj, up_out (Or.inl (by decide))], ((fr_r _ _).upA rfl).trans a3⟩
theorem mi42 : ∀ (k f i : Nat) (w : aw_W), k < f → i + k = 6 → (∀ j, j < i → w 71 j = w 58 j) → ∃ w', m_image_42 N f i w = m_image_66 N w' ∧ (∀ j, j < 6 → w' 71 j = w 58 j) ∧ fr_ [(71, 1000000)] w w' := by
  intro k
  induction k with
  | zero =>
    intro f i w hf hi h
    obtain ⟨f, rfl⟩ : ∃ g, f = g + 1 := ⟨f - 1, by omega⟩
    rw [m_image_42, if_pos (by omega)]
    exact ⟨w, rfl, fun j hj => h j (by omega), fr_r _ _⟩
  | succ k ih =>
    intro f i w hf hi h
    obtain ⟨f, rfl⟩ : ∃ g, f = g + 1 := ⟨f - 1, by omega⟩
    have b : 0 ≤ (i : Int) ∧ (i : Int) < 6 := ⟨by omega, by omega⟩
    rw [m_image_42, if_neg (by omega), if_pos b, if_pos b, ww1 (by omega), Int.toNat_natCast]
    obtain ⟨w', a1, a2, a3⟩ := ih f (i + 1) (aw_up w 71 i (w 58 i)) (by omega) (by omega) (fun j hj => by
      by_cases e : j = i
      · subst e
        rw [up_in, up_out (Or.inl (by decide))]
      · rw [up_out (Or.inr e), up_out (Or.inl (by decide))]
        exact h j (by omega))
    exact ⟨w', a1, fun j hj => by rw [a2 j hj, up_out (Or.inl (by decide))], ((fr_r _ _).upA rfl).trans a3⟩
theorem mi68 : ∀ (k f i : Nat) (w : aw_W), k < f → i + k = 5 → (∀ j, j < i → w 72 j = w 56 j) → ∃ w', m_image_68 N f i w = m_image_91 N w' ∧ (∀ j, j < 5 → w' 72 j = w 56 j) ∧ fr_ [(72, 1000000)] w w' := by
  intro k
  induction k with
  | zero =>
    intro f i w hf hi h
    obtain ⟨f, rfl⟩ : ∃ g, f = g + 1 := ⟨f - 1, by omega⟩
    rw [m_image_68, if_pos (by omega)]
    exact ⟨w, rfl, fun j hj => h j (by omega), fr_r _ _⟩
  | succ k ih =>
    intro f i w hf hi h
    obtain ⟨f, rfl⟩ : ∃ g, f = g + 1 := ⟨f - 1, by omega⟩
    have b : 0 ≤ (i : Int) ∧ (i : Int) < 5 := ⟨by omega, by omega⟩
    rw [m_image_68, if_neg (by omega), if_pos b, if_pos b, ww1 (by omega), Int.toNat_natCast]
    obtain ⟨w', a1, a2, a3⟩ := ih f (i + 1) (aw_up w 72 i (w 56 i)) (by omega) (by omega) (fun j hj => by
      by_cases e : j = i
      · subst e
        rw [up_in, up_out (Or.inl (by decide))]
      · rw [up_out (Or.inr e), up_out (Or.inl (by decide))]
        exact h j (by omega))
    exact ⟨w', a1, fun j hj => by rw [a2 j hj, up_out (Or.inl (by decide))], ((fr_r _ _).upA rfl).trans a3⟩
theorem M_image (hN : 100 ≤ N) (h : ML w n lw it) (hb : MB w m r) (hu : MU w rl) (hi : MI w kp km kr kl ku) : ∃ w', m_image N w = some (a_image n m, w') ∧ (n ≠ 0 → MI w' true m r lw rl) ∧ (n = 0 → w' = aw_up w 49 0 0) := by
  unfold a_image
  rw [m_image, h.1]
  by_cases c0 : n = 0
  · rw [if_pos (by omega), if_pos c0]
    exact ⟨_, rfl, fun q => absurd c0 q, fun _ => rfl⟩
  · obtain ⟨w1, e1, d1, f1⟩ := mi16 (N := N) (L := 0) 40 N 0 (aw_up w 49 0 0) (by omega) (by omega) (fun j hj => absurd hj (Nat.not_lt_zero _))
    obtain ⟨w2, e2, d2, f2⟩ := mi42 (N := N) 6 N 0 w1 (by omega) (by omega) (fun j hj => absurd hj (Nat.not_lt_zero _))
    obtain ⟨w3, e3, d3, f3⟩ := mi68 (N := N) 5 N 0 w2 (by omega) (by omega) (fun j hj => absurd hj (Nat.not_lt_zero _))
    have hb0 := hb.th
    have hu0 := hu.th
    have h0 := h.th
    have e : m_image_16 N N 0 (aw_up w 49 0 0) = m_image_91 N w3 := by
      refine Eq.trans e1 ?_
      rw [m_image_40]
      refine Eq.trans e2 ?_
      rw [m_image_66]
      exact e3
    have z43 : w3 49 43 = (m : Int) := by rw [f3 49 43 rfl, f2 49 43 rfl, f1 49 43 rfl]; exact hb0.1
    rw [if_neg (by omega), if_neg c0, e, m_image_91, z43]
    refine ⟨_, rfl, fun _ => ⟨up_in, fun _ => ⟨?_, hb.2.1, fun j hj => ?_, fun j hj => ?_, fun j hj => ?_⟩⟩, fun q => absurd q c0⟩
    · rw [up_out (Or.inr (by decide)), up_in]
    · rw [up_out (Or.inl (by decide)), up_out (Or.inl (by decide)), f3 70 j rfl, f2 70 j rfl, d1 j hj]
      exact hb0.2.2 j hj
    · rw [up_out (Or.inl (by decide)), up_out (Or.inl (by decide)), d3 j hj, f2 56 j rfl, f1 56 j rfl]
      exact h0.2.2.2.1 j hj
    · rw [up_out (Or.inl (by decide)), up_out (Or.inl (by decide)), f3 71 j rfl, d2 j hj, f1 58 j rfl]
      exact hu0.1 j hj
theorem mb16 : ∀ (k f i : Nat) (w : aw_W), k < f → i + k = 40 → (∀ j, j < i → w 69 j = w 70 j) → ∃ w', m_back_16 N f i w = m_back_40 N w' ∧ (∀ j, j < 40 → w' 69 j = w 70 j) ∧ fr_ [(69, 1000000)] w w' := by
  intro k
  induction k with
  | zero =>
    intro f i w hf hi h
    obtain ⟨f, rfl⟩ : ∃ g, f = g + 1 := ⟨f - 1, by omega⟩
    rw [m_back_16, if_pos (by omega)]
    exact ⟨w, rfl, fun j hj => h j (by omega), fr_r _ _⟩
  | succ k ih =>
    intro f i w hf hi h
    obtain ⟨f, rfl⟩ : ∃ g, f = g + 1 := ⟨f - 1, by omega⟩
    have b : 0 ≤ (i : Int) ∧ (i : Int) < 40 := ⟨by omega, by omega⟩
    rw [m_back_16, if_neg (by omega), if_pos b, if_pos b, ww1 (by omega), Int.toNat_natCast]
    obtain ⟨w', a1, a2, a3⟩ := ih f (i + 1) (aw_up w 69 i (w 70 i)) (by omega) (by omega) (fun j hj => by
      by_cases e : j = i
      · subst e
        rw [up_in, up_out (Or.inl (by decide))]
      · rw [up_out (Or.inr e), up_out (Or.inl (by decide))]
        exact h j (by omega))
    exact ⟨w', a1, fun j hj => by rw [a2 j hj, up_out (Or.inl (by decide))], ((fr_r _ _).upA rfl).trans a3⟩
theorem mb42 : ∀ (k f i : Nat) (w : aw_W), k < f → i + k = 6 → (∀ j, j < i → w 58 j = w 71 j) → ∃ w', m_back_42 N f i w = m_back_66 N w' ∧ (∀ j, j < 6 → w' 58 j = w 71 j) ∧ fr_ [(58, 1000000)] w w' := by
  intro k
  induction k with
  | zero =>
    intro f i w hf hi h
    obtain ⟨f, rfl⟩ : ∃ g, f = g + 1 := ⟨f - 1, by omega⟩
    rw [m_back_42, if_pos (by omega)]
    exact ⟨w, rfl, fun j hj => h j (by omega), fr_r _ _⟩
  | succ k ih =>
    intro f i w hf hi h
    obtain ⟨f, rfl⟩ : ∃ g, f = g + 1 := ⟨f - 1, by omega⟩
    have b : 0 ≤ (i : Int) ∧ (i : Int) < 6 := ⟨by omega, by omega⟩
    rw [m_back_42, if_neg (by omega), if_pos b, if_pos b, ww1 (by omega), Int.toNat_natCast]
    obtain ⟨w', a1, a2, a3⟩ := ih f (i + 1) (aw_up w 58 i (w 71 i)) (by omega) (by omega) (fun j hj => by
      by_cases e : j = i
      · subst e
        rw [up_in, up_out (Or.inl (by decide))]
      · rw [up_out (Or.inr e), up_out (Or.inl (by decide))]
        exact h j (by omega))
    exact ⟨w', a1, fun j hj => by rw [a2 j hj, up_out (Or.inl (by decide))], ((fr_r _ _).upA rfl).trans a3⟩
theorem mb68 : ∀ (k f i : Nat) (w : aw_W), k < f → i + k = 5 → (∀ j, j < i → w 56 j = w 72 j) → ∃ w', m_back_68 N f i w = m_back_91 N w' ∧ (∀ j, j < 5 → w' 56 j = w 72 j) ∧ fr_ [(56, 1000000)] w w' := by
  intro k
  induction k with
  | zero =>
    intro f i w hf hi h
    obtain ⟨f, rfl⟩ : ∃ g, f = g + 1 := ⟨f - 1, by omega⟩
    rw [m_back_68, if_pos (by omega)]
    exact ⟨w, rfl, fun j hj => h j (by omega), fr_r _ _⟩
  | succ k ih =>
    intro f i w hf hi h
    obtain ⟨f, rfl⟩ : ∃ g, f = g + 1 := ⟨f - 1, by omega⟩
    have b : 0 ≤ (i : Int) ∧ (i : Int) < 5 := ⟨by omega, by omega⟩
    rw [m_back_68, if_neg (by omega), if_pos b, if_pos b, ww1 (by omega), Int.toNat_natCast]
    obtain ⟨w', a1, a2, a3⟩ := ih f (i + 1) (aw_up w 56 i (w 72 i)) (by omega) (by omega) (fun j hj => by
      by_cases e : j = i
      · subst e
        rw [up_in, up_out (Or.inl (by decide))]
      · rw [up_out (Or.inr e), up_out (Or.inl (by decide))]
        exact h j (by omega))
    exact ⟨w', a1, fun j hj => by rw [a2 j hj, up_out (Or.inl (by decide))], ((fr_r _ _).upA rfl).trans a3⟩
theorem M_back (hN : 100 ≤ N) (h : ML w n lw it) (hu : MU w rl) (hn : kp = true → n ≠ 0 ∧ LB kl) (hi : MI w kp km kr kl ku) : ∃ w', m_back N w = some (a_back kp km, w') ∧ (kp = true → ML w' n kl it ∧ MB w' km kr ∧ MU w' ku) ∧ (kp = false → w' = aw_up w 49 0 0) := by
  unfold a_back
  rw [m_back, hi.1]
  have hi0 := hi.th
  have h0 := h.th
  have hu0 := hu.th
  cases hk : kp with
  | false =>
    rw [if_pos b2i_f, if_neg (by decide)]
    exact ⟨_, rfl, fun q => absurd q (by decide), fun _ => rfl⟩
  | true =>
    obtain ⟨h1, h2, h3, h4, h5⟩ := hi0.2 hk
    obtain ⟨n0, lb⟩ := hn hk
    obtain ⟨w1, e1, d1, f1⟩ := mb16 (N := N) 40 N 0 (aw_up w 49 0 0) (by omega) (by omega) (fun j hj => absurd hj (Nat.not_lt_zero _))
    obtain ⟨w2, e2, d2, f2⟩ := mb42 (N := N) 6 N 0 w1 (by omega) (by omega) (fun j hj => absurd hj (Nat.not_lt_zero _))
    obtain ⟨w3, e3, d3, f3⟩ := mb68 (N := N) 5 N 0 w2 (by omega) (by omega) (fun j hj => absurd hj (Nat.not_lt_zero _))
    have e : m_back_16 N N 0 (aw_up w 49 0 0) = m_back_91 N w3 := by
      refine Eq.trans e1 ?_
      rw [m_back_40]
      refine Eq.trans e2 ?_
      rw [m_back_66]
      exact e3
    obtain ⟨q0, q1, q2, q3, q4, q5⟩ := h0
    have z50 : w3 49 50 = (km : Int) := by rw [f3 49 50 rfl, f2 49 50 rfl, f1 49 50 rfl]; exact h1
    rw [if_neg b2i_t, if_pos rfl, e, m_back_91, z50]
    refine ⟨_, rfl, fun _ => ⟨⟨?_, q1, q2, fun j hj => ?_, fun j hj => ?_, fun _ => ⟨lb, (q5 n0).2⟩⟩, ⟨up_in, h2, fun j hj => ?_⟩, fun j hj => ?_, ?_⟩, fun q => absurd q (by decide)⟩
    · rw [up_out (Or.inr (by decide)), f3 49 22 rfl, f2 49 22 rfl, f1 49 22 rfl]; exact q0
    · rw [up_out (Or.inl (by decide)), d3 j hj, f2 72 j rfl, f1 72 j rfl]; exact h4 j hj
    · rw [up_out (Or.inl (by decide)), f3 54 j rfl, f2 54 j rfl, f1 54 j rfl]; exact q4 j hj
    · rw [up_out (Or.inl (by decide)), f3 69 j rfl, f2 69 j rfl, d1 j hj]; exact h3 j hj
    · rw [up_out (Or.inl (by decide)), f3 58 j rfl, d2 j hj, f1 71 j rfl]; exact h5 j hj
    · rw [up_out (Or.inr (by decide)), f3 49 32 rfl, f2 49 32 rfl, f1 49 32 rfl]; exact hu0.2
/-! count, striver -/
def a_count (n k tl m : Nat) (x : Int) : Int := if x = 0 then (n : Int) else if x = 1 then (k : Int) else if x = 2 then (tl : Int) else if x = 3 then (m : Int) else -1000000
theorem X_count (h : w 3 4 = (n : Int)) (hk : w 11 6 = (k : Int)) {tl : Nat} (ht : w 1 1 = (tl : Int)) (hm : w 41 4 = (m : Int)) {x : Int} : x_count N x w = some (a_count n k tl m x, w) := by
  rw [x_count, h, hk, ht, hm]
  unfold a_count
  split
  · rfl
  · split
    · rfl
    · split
      · rfl
      · split <;> rfl
theorem M_count (h : w 49 22 = (n : Int)) (hk : w 49 7 = (k : Int)) {tl : Nat} (ht : w 49 6 = (tl : Int)) (hm : w 49 43 = (m : Int)) {x : Int} : m_count N x w = some (a_count n k tl m x, aw_up w 49 0 0) := by
  rw [m_count, h, hk, ht, hm]
  unfold a_count
  split
  · rfl
  · split
    · rfl
    · split
      · rfl
      · split <;> rfl
def sok (n : Nat) (x1 x2 : Int) : Bool := decide (0 ≤ x1 ∧ x1 < (n : Int) ∧ 0 ≤ x2 ∧ x2 ≤ 4)
def a_str (n : Nat) (it rl : Nat → Int) (x1 x2 : Int) : Int := if x2 = 4 then rl x1.toNat else it (4 * x1.toNat + x2.toNat)
theorem M_striver (h : ML w n lw it) (hu : MU w rl) {x1 x2 : Int} : ∃ w', m_striver N x1 x2 w = some (if sok n x1 x2 then a_str n it rl x1 x2 else 0, w') ∧ w' 49 0 = b2i (!(sok n x1 x2)) := by
  have hn6 := h.2.1
  have no : ¬ (0 ≤ x1 ∧ x1 < (n : Int) ∧ 0 ≤ x2 ∧ x2 ≤ 4) → ∃ w', m_striver_25 N x1 x2 w = some (if sok n x1 x2 then a_str n it rl x1 x2 else 0, w') ∧ w' 49 0 = b2i (!(sok n x1 x2)) := by
    intro z
    have e : sok n x1 x2 = false := decide_eq_false z
    rw [e, m_striver_25, m_striver_26, if_neg (by decide), if_neg (by decide)]
    exact ⟨_, rfl, up_in⟩
  rw [m_striver, m_isStriver_ok, b2_some, h.1]
  by_cases c : x1 < 0 ∨ (n : Int) ≤ x1
  · rw [if_pos (b2i_rng.mpr c)]; exact no (fun z => by omega)
  · rw [if_neg (fun z => c (b2i_rng.mp z)), m_isIn_ok, b2_some]
    by_cases c2 : 0 ≤ x2 ∧ x2 ≤ 4
    · have e : sok n x1 x2 = true := decide_eq_true ⟨by omega, by omega, c2⟩
      rw [if_neg (fun z => (b2i_and.mp z) c2), m_striver_26, if_pos (Int.le_refl _), e, if_pos rfl]
      unfold a_str
      obtain ⟨s, rfl⟩ : ∃ s : Nat, x1 = s := ⟨x1.toNat, by omega⟩
      obtain ⟨q, rfl⟩ : ∃ q : Nat, x2 = q := ⟨x2.toNat, by omega⟩
      by_cases c4 : (q : Int) = 4
      · rw [if_pos c4, if_pos c4, if_pos ⟨by omega, by omega⟩, m_striver_64, Int.toNat_natCast, hu.1 s (by omega)]
        exact ⟨_, rfl, up_in⟩
      · rw [if_neg c4, if_neg c4, ww (x := 4 * (s : Int)) (by omega) (by omega), ww (x := 4 * (s : Int) + (q : Int)) (by omega) (by omega), if_pos ⟨by omega, by omega⟩, m_striver_64, show (4 * (s : Int) + (q : Int)).toNat = 4 * s + q by omega, h.2.2.2.2.1 _ (by omega), Int.toNat_natCast, Int.toNat_natCast]
        exact ⟨_, rfl, up_in⟩
    · rw [if_pos (b2i_and.mpr c2)]; exact no (fun z => c2 z.2.2)
end SM
