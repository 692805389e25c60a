/-! ===== pure: ranks, who has it, who is first ===== -/
/-- F enumerates those of the first n that have al, in order -/
def en (n : Nat) (al : Nat → Bool) (sc : Nat → Int) (m : Nat) (F : Nat → Nat) : Prop := m ≤ n ∧ (∀ a, a < m → F a < n ∧ al (F a) = true) ∧ (∀ a b, a < b → b < m → bf sc (F a) (F b) = true) ∧ ∀ s, s < n → al s = true → ∃ a, a < m ∧ F a = s
theorem bf_irr (sc : Nat → Int) (s : Nat) : bf sc s s = false := by rw [bf_no]; omega
theorem bf_asym {sc : Nat → Int} {a b : Nat} (h : bf sc a b = true) : bf sc b a = false := by
  rw [bf_iff] at h
  rw [bf_no]
  omega
theorem bf_tot {sc : Nat → Int} {a b : Nat} (h : a ≠ b) : bf sc a b = true ∨ bf sc b a = true := by
  rw [bf_iff, bf_iff]
  omega
def rk (al : Nat → Bool) (sc : Nat → Int) (n s : Nat) : Nat := ct (fun k => al k && bf sc k s) n
theorem en_inj {n m : Nat} {al : Nat → Bool} {sc : Nat → Int} {F : Nat → Nat} (h : en n al sc m F) : ∀ a b, a < b → b < m → F a ≠ F b := by
  intro a b hab hb e
  have := h.2.2.1 a b hab hb
  rw [e, bf_irr] at this
  cases this
theorem en_rk {n m : Nat} {al : Nat → Bool} {sc : Nat → Int} {F : Nat → Nat} (h : en n al sc m F) {a : Nat} (ha : a < m) : rk al sc n (F a) = a := by
  unfold rk
  refine Eq.trans (ct_cong (fun k hk => ?_)) (ct_enum (p := al) (n := n) F a (fun b hb => (h.2.1 b (by omega)).1) (fun b c hbc hc => en_inj h b c hbc (by omega)))
  rw [Bool.eq_iff_iff, Bool.and_eq_true, List.any_eq_true]
  constructor
  · rintro ⟨h1, h2⟩
    obtain ⟨b, hb, rfl⟩ := h.2.2.2 k hk h1
    refine ⟨b, List.mem_range.mpr ?_, by simp⟩
    rcases Nat.lt_trichotomy b a with q | q | q
    · exact q
    · subst q
      rw [bf_irr] at h2
      cases h2
    · have := bf_asym (h.2.2.1 a b q hb)
      rw [h2] at this
      cases this
  · rintro ⟨b, hb, e⟩
    have e1 : F b = k := by simpa using e
    subst e1
    have hb' := List.mem_range.mp hb
    exact ⟨(h.2.1 b (by omega)).2, h.2.2.1 b a hb' ha⟩
theorem en_m {n m : Nat} {al : Nat → Bool} {sc : Nat → Int} {F : Nat → Nat} (h : en n al sc m F) : ct al n = m := by
  refine Eq.trans (ct_cong (fun k hk => ?_)) (ct_enum (p := al) (n := n) F m (fun b hb => (h.2.1 b hb).1) (fun b c hbc hc => en_inj h b c hbc hc))
  rw [Bool.eq_iff_iff, List.any_eq_true]
  constructor
  · intro h1
    obtain ⟨b, hb, rfl⟩ := h.2.2.2 k hk h1
    exact ⟨b, List.mem_range.mpr hb, by simp⟩
  · rintro ⟨b, hb, e⟩
    have e1 : F b = k := by simpa using e
    subst e1
    exact (h.2.1 b (List.mem_range.mp hb)).2
/-- k is ahead of s as the reference asks -/
def ahd (ti : Int) (al : Nat → Bool) (sc : Nat → Int) (k s : Nat) : Bool := !(k == s) && al k && (!(al s) || decide (sc s < sc k) || (decide (sc k = sc s) && decide (ti = 0) && decide (k < s)))
def alk (ti : Int) (al : Nat → Bool) (sc : Nat → Int) (k s : Nat) : Bool := !(k == s) && al k && al s && decide (sc k = sc s) && decide (ti = 1)
theorem ahd_0 {al : Nat → Bool} {sc : Nat → Int} {k s : Nat} (hs : al s = true) : ahd 0 al sc k s = (al k && bf sc k s) := by
  by_cases e : k = s
  · subst e
    rw [bf_irr]
    unfold ahd
    simp
  · unfold ahd
    rw [Bool.eq_iff_iff]
    simp [hs, bf_iff, e]
theorem ahd_1 {al : Nat → Bool} {sc : Nat → Int} {k s : Nat} (hs : al s = true) : ahd 1 al sc k s = (al k && decide (sc s < sc k)) := by
  unfold ahd
  rw [Bool.eq_iff_iff]
  simp [hs]
  intro _ h e
  subst e
  omega
def good (pl ti : Int) (al : Nat → Bool) (sc : Nat → Int) (n s : Nat) : Prop := al s = true ∧ (ct (fun k => ahd ti al sc k s) n : Int) = pl - 1 ∧ ∀ k, k < n → alk ti al sc k s = false
/-- who has it, as the class finds it in its order -/
def hold (pl ti : Int) (sc : Nat → Int) (m : Nat) (F : Nat → Nat) : Int :=
  if pl - 1 < 0 ∨ (m : Int) ≤ pl - 1 then -1 else if ti = 1 ∧ ((0 < (pl - 1).toNat ∧ sc (F ((pl - 1).toNat - 1)) = sc (F (pl - 1).toNat)) ∨ ((pl - 1).toNat + 1 < m ∧ sc (F (pl - 1).toNat) = sc (F ((pl - 1).toNat + 1)))) then -1 else (F (pl - 1).toNat : Int)
theorem en_mono {n m : Nat} {al : Nat → Bool} {sc : Nat → Int} {F : Nat → Nat} (h : en n al sc m F) {a b : Nat} (hab : a ≤ b) (hb : b < m) : sc (F b) ≤ sc (F a) := by
  rcases Nat.lt_or_ge a b with q | q
  · have := bf_iff.mp (h.2.2.1 a b q hb)
    omega
  · have : a = b := by omega
    subst this
    exact Int.le_refl _
/-- no other one is alike: then the rank by scores alone is the rank -/
theorem sr_rk {n : Nat} {al : Nat → Bool} {sc : Nat → Int} {s : Nat} (hs : al s = true) (h : ∀ k, k < n → alk 1 al sc k s = false) : ct (fun k => ahd 1 al sc k s) n = rk al sc n s := by
  refine ct_cong (fun k hk => ?_)
  rw [ahd_1 hs, Bool.eq_iff_iff]
  simp only [Bool.and_eq_true, decide_eq_true_eq, bf_iff]
  have hk2 := h k hk
  constructor
  · rintro ⟨a, b⟩
    exact ⟨a, Or.inl b⟩
  · rintro ⟨a, b⟩
    refine ⟨a, ?_⟩
    rcases b with b | b
    · exact b
    · exfalso
      have : alk 1 al sc k s = true := by
        unfold alk
        simp [hs, a, b.1]
        omega
      rw [this] at hk2
      cases hk2
theorem good_rk {pl ti : Int} {n : Nat} {al : Nat → Bool} {sc : Nat → Int} {s : Nat} (hti : ti = 0 ∨ ti = 1) (h : good pl ti al sc n s) : (rk al sc n s : Int) = pl - 1 := by
  obtain ⟨h1, h2, h3⟩ := h
  rcases hti with rfl | rfl
  · rw [← h2]
    congr 1
    exact (ct_cong (fun k _ => (ahd_0 h1).symm))
  · rw [← h2, sr_rk h1 h3]
theorem hold_some {pl ti : Int} {n m : Nat} {al : Nat → Bool} {sc : Nat → Int} {F : Nat → Nat} (h : en n al sc m F) (hti : ti = 0 ∨ ti = 1) {s : Nat} (hs : s < n) (hg : good pl ti al sc n s) : hold pl ti sc m F = (s : Int) := by
  obtain ⟨a, ha, rfl⟩ := h.2.2.2 s hs hg.1
  have hr := good_rk hti hg
  rw [en_rk h ha] at hr
  have e : (pl - 1).toNat = a := by omega
  unfold hold
  rw [if_neg (by omega), e, if_neg]
  rintro ⟨rfl, q⟩
  have key : ∀ b, b < m → b ≠ a → sc (F b) = sc (F a) → False := by
    intro b hb hne hsc
    have h1 := hg.2.2 (F b) (h.2.1 b hb).1
    have hne2 : F b ≠ F a := by
      rcases Nat.lt_or_gt_of_ne hne with q | q
      · exact en_inj h b a q ha
      · exact fun e => en_inj h a b q hb e.symm
    have : alk 1 al sc (F b) (F a) = true := by
      unfold alk
      simp [hne2, (h.2.1 b hb).2, (h.2.1 a ha).2, hsc]
    rw [this] at h1
    cases h1
  rcases q with q | q
  · exact key (a - 1) (by omega) (by omega) q.2
  · exact key (a + 1) q.1 (by omega) q.2.symm
theorem hold_good {pl ti : Int} {n m : Nat} {al : Nat → Bool} {sc : Nat → Int} {F : Nat → Nat} (h : en n al sc m F) (hti : ti = 0 ∨ ti = 1) (hno : ∀ s, s < n → ¬ good pl ti al sc n s) : hold pl ti sc m F = -1 := by
  unfold hold
  by_cases c : pl - 1 < 0 ∨ (m : Int) ≤ pl - 1
  · rw [if_pos c]
  · rw [if_neg c]
    by_cases c2 : ti = 1 ∧ ((0 < (pl - 1).toNat ∧ sc (F ((pl - 1).toNat - 1)) = sc (F (pl - 1).toNat)) ∨ ((pl - 1).toNat + 1 < m ∧ sc (F (pl - 1).toNat) = sc (F ((pl - 1).toNat + 1))))
    · rw [if_pos c2]
    · exfalso
      obtain ⟨a, ea⟩ : ∃ a : Nat, pl - 1 = a := ⟨(pl - 1).toNat, by omega⟩
      have ha : a < m := by omega
      have ea' : (pl - 1).toNat = a := by omega
      rw [ea'] at c2
      have hF := h.2.1 a ha
      have hr := en_rk h ha
      refine hno (F a) hF.1 ⟨hF.2, ?_, ?_⟩
      · rcases hti with rfl | rfl
        · rw [ct_cong (fun k _ => ahd_0 (sc := sc) (k := k) hF.2)]
          show ((rk al sc n (F a) : Nat) : Int) = _
          rw [hr, ea]
        · rw [sr_rk hF.2 ?_, hr, ea]
          intro k hk
          cases e : alk 1 al sc k (F a) with
          | false => rfl
          | true =>
            exfalso
            unfold alk at e
            simp at e
            obtain ⟨⟨⟨e1, e2⟩, e3⟩, e4⟩ := e
            obtain ⟨b, hb, rfl⟩ := h.2.2.2 k hk e2
            apply c2
            refine ⟨rfl, ?_⟩
            have hne : b ≠ a := fun q => e1 (by rw [q])
            rcases Nat.lt_or_gt_of_ne hne with q | q
            · refine Or.inl ⟨by omega, ?_⟩
              have t1 := en_mono h (show b ≤ a - 1 by omega) (by omega)
              have t2 := en_mono h (show a - 1 ≤ a by omega) ha
              omega
            · refine Or.inr ⟨by omega, ?_⟩
              have t1 := en_mono h (show a ≤ a + 1 by omega) (by omega)
              have t2 := en_mono h (show a + 1 ≤ b by omega) hb
              omega
      · rcases hti with rfl | rfl
        · intro k hk
          unfold alk
          simp
        · intro k hk
          cases e : alk 1 al sc k (F a) with
          | false => rfl
          | true =>
            exfalso
            unfold alk at e
            simp at e
            obtain ⟨⟨⟨e1, e2⟩, e3⟩, e4⟩ := e
            obtain ⟨b, hb, rfl⟩ := h.2.2.2 k hk e2
            apply c2
            refine ⟨rfl, ?_⟩
            have hne : b ≠ a := fun q => e1 (by rw [q])
            rcases Nat.lt_or_gt_of_ne hne with q | q
            · refine Or.inl ⟨by omega, ?_⟩
              have t1 := en_mono h (show b ≤ a - 1 by omega) (by omega)
              have t2 := en_mono h (show a - 1 ≤ a by omega) ha
              omega
            · refine Or.inr ⟨by omega, ?_⟩
              have t1 := en_mono h (show a ≤ a + 1 by omega) (by omega)
              have t2 := en_mono h (show a + 1 ≤ b by omega) hb
              omega
/-- who is first: rank 0, or with ties as many points as that one -/
theorem first_iff {ti : Int} {n m : Nat} {al : Nat → Bool} {sc : Nat → Int} {F : Nat → Nat} (h : en n al sc m F) (hti : ti = 0 ∨ ti = 1) {a : Nat} (ha : a < m) : ct (fun k => ahd ti al sc k (F a)) n = 0 ↔ (a = 0 ∨ (ti = 1 ∧ sc (F a) = sc (F 0))) := by
  have hF := h.2.1 a ha
  rcases hti with rfl | rfl
  · rw [ct_cong (fun k _ => ahd_0 (sc := sc) (k := k) hF.2)]
    show rk al sc n (F a) = 0 ↔ _
    rw [en_rk h ha]
    simp
  · rw [ct_cong (fun k _ => ahd_1 (sc := sc) (k := k) hF.2)]
    constructor
    · intro q
      have h0 := ct_0 q (F 0) (h.2.1 0 (by omega)).1
      simp [(h.2.1 0 (by omega)).2] at h0
      have h1 := en_mono h (Nat.zero_le a) ha
      exact Or.inr ⟨rfl, by omega⟩
    · intro q
      have q2 : sc (F a) = sc (F 0) := by rcases q with rfl | q; rfl; exact q.2
      refine ct_z (fun k hk => ?_)
      cases e : al k with
      | false => rfl
      | true =>
        obtain ⟨b, hb, rfl⟩ := h.2.2.2 k hk e
        have := en_mono h (Nat.zero_le b) hb
        simp
        omega
