/-! ===== pure: sums, in the reference ===== -/
/-- a chain of tight signs, its first link read -/
def ptA (tp : List Nat) (isT : Nat → Bool) (pa : Nat → Rz) (A : Rz) : Rz :=
  if A.1 = false then no_ A.2.1
  else if (trr tp isT pa (tp.length + 1) A.2.1 A.2.2.2).1 = false then no_ (trr tp isT pa (tp.length + 1) A.2.1 A.2.2.2).2.1
  else (true, (trr tp isT pa (tp.length + 1) A.2.1 A.2.2.2).2.1, A.2.2.1 ++ (trr tp isT pa (tp.length + 1) A.2.1 A.2.2.2).2.2.1, (trr tp isT pa (tp.length + 1) A.2.1 A.2.2.2).2.2.2)
def bnd (R : Rz) : Prop := R.1 = true → ∀ L, LO L → -1000000 ≤ R.2.2.2 L ∧ R.2.2.2 L ≤ 1000000
def bdt (t : Dn) : Prop := ∀ L, LO L → -1000000 ≤ t L ∧ t L ≤ 1000000
section PB
variable {tp : List Nat} {isT isL : Nat → Bool} {pa : Nat → Rz} {p f : Nat} {s : Dn} {A : Rz}
theorem ptA_f (h : A.1 = false) : ptA tp isT pa A = no_ A.2.1 := by
  unfold ptA
  rw [if_pos h]
theorem ptA_g {T : Rz} (h : A.1 = true) (hT : trr tp isT pa (tp.length + 1) A.2.1 A.2.2.2 = T) (h2 : T.1 = false) : ptA tp isT pa A = no_ T.2.1 := by
  subst hT
  unfold ptA
  rw [if_neg (by rw [h]; decide), if_pos h2]
theorem ptA_y {T : Rz} (h : A.1 = true) (hT : trr tp isT pa (tp.length + 1) A.2.1 A.2.2.2 = T) (h2 : T.1 = true) : ptA tp isT pa A = (true, T.2.1, A.2.2.1 ++ T.2.2.1, T.2.2.2) := by
  subst hT
  unfold ptA
  rw [if_neg (by rw [h]; decide), if_neg (by rw [h2]; decide)]
theorem chn_Pf (h : (ptA tp isT pa A).1 = false) : (chn tp isT isL pa A).1 = false ∧ (chn tp isT isL pa A).2.1 = (ptA tp isT pa A).2.1 := by
  cases h1 : A.1 with
  | false => rw [chn_f h1, ptA_f h1]; exact ⟨rfl, rfl⟩
  | true =>
    obtain ⟨T, hT⟩ : ∃ T, trr tp isT pa (tp.length + 1) A.2.1 A.2.2.2 = T := ⟨_, rfl⟩
    cases h2 : T.1 with
    | false => rw [chn_g h1 hT h2, ptA_g h1 hT h2]; exact ⟨rfl, rfl⟩
    | true => rw [ptA_y h1 hT h2] at h; exact Bool.noConfusion (show true = false from h)
theorem chn_Py (h : (ptA tp isT pa A).1 = true) : (chn tp isT isL pa A).1 = (srr tp isT isL pa (tp.length + 1) (ptA tp isT pa A).2.1 (ptA tp isT pa A).2.2.2).1 ∧ (chn tp isT isL pa A).2.1 = (srr tp isT isL pa (tp.length + 1) (ptA tp isT pa A).2.1 (ptA tp isT pa A).2.2.2).2.1 ∧ (chn tp isT isL pa A).2.2.2 = (srr tp isT isL pa (tp.length + 1) (ptA tp isT pa A).2.1 (ptA tp isT pa A).2.2.2).2.2.2 := by
  cases h1 : A.1 with
  | false => rw [ptA_f h1] at h; exact nof h
  | true =>
    obtain ⟨T, hT⟩ : ∃ T, trr tp isT pa (tp.length + 1) A.2.1 A.2.2.2 = T := ⟨_, rfl⟩
    cases h2 : T.1 with
    | false => rw [ptA_g h1 hT h2] at h; exact nof h
    | true =>
      rw [ptA_y h1 hT h2, chn_y h1 hT h2 rfl]
      exact ⟨rfl, rfl, rfl⟩
theorem srr_Pf (h : isL (gb tp (sk tp p)) = true) (h1 : (ptA tp isT pa (pa (sk tp p + 1))).1 = false) : (srr tp isT isL pa (f + 1) p s).1 = false ∧ (srr tp isT isL pa (f + 1) p s).2.1 = (ptA tp isT pa (pa (sk tp p + 1))).2.1 := by
  cases hA : (pa (sk tp p + 1)).1 with
  | false => rw [srr_f h hA, ptA_f hA]; exact ⟨rfl, rfl⟩
  | true =>
    obtain ⟨T, hT⟩ : ∃ T, trr tp isT pa (tp.length + 1) (pa (sk tp p + 1)).2.1 (pa (sk tp p + 1)).2.2.2 = T := ⟨_, rfl⟩
    cases h2 : T.1 with
    | false => rw [srr_g h rfl hA hT h2, ptA_g hA hT h2]; exact ⟨rfl, rfl⟩
    | true => rw [ptA_y hA hT h2] at h1; exact Bool.noConfusion (show true = false from h1)
theorem srr_Py (h : isL (gb tp (sk tp p)) = true) (h1 : (ptA tp isT pa (pa (sk tp p + 1))).1 = true) : (srr tp isT isL pa (f + 1) p s).1 = (srr tp isT isL pa f (ptA tp isT pa (pa (sk tp p + 1))).2.1 (opd (gb tp (sk tp p)) s (ptA tp isT pa (pa (sk tp p + 1))).2.2.2)).1 ∧ (srr tp isT isL pa (f + 1) p s).2.1 = (srr tp isT isL pa f (ptA tp isT pa (pa (sk tp p + 1))).2.1 (opd (gb tp (sk tp p)) s (ptA tp isT pa (pa (sk tp p + 1))).2.2.2)).2.1 ∧ (srr tp isT isL pa (f + 1) p s).2.2.2 = (srr tp isT isL pa f (ptA tp isT pa (pa (sk tp p + 1))).2.1 (opd (gb tp (sk tp p)) s (ptA tp isT pa (pa (sk tp p + 1))).2.2.2)).2.2.2 := by
  cases hA : (pa (sk tp p + 1)).1 with
  | false => rw [ptA_f hA] at h1; exact nof h1
  | true =>
    obtain ⟨T, hT⟩ : ∃ T, trr tp isT pa (tp.length + 1) (pa (sk tp p + 1)).2.1 (pa (sk tp p + 1)).2.2.2 = T := ⟨_, rfl⟩
    cases h2 : T.1 with
    | false => rw [ptA_g hA hT h2] at h1; exact nof h1
    | true =>
      rw [ptA_y hA hT h2, srr_y h rfl hA hT h2 rfl]
      exact ⟨rfl, rfl, rfl⟩
theorem ptA_p (h0 : isT 0 = false) (hpa : okps tp pa) (hA : okr_ tp p A) : okr_ tp p (ptA tp isT pa A) ∧ ((ptA tp isT pa A).1 = true → A.1 = true ∧ A.2.1 ≤ (ptA tp isT pa A).2.1) := by
  obtain ⟨a1, a2, a3⟩ := hA
  cases h1 : A.1 with
  | false => rw [ptA_f h1]; exact ⟨okr_no a1 a2, fun z => nof z⟩
  | true =>
    have a5 := a3 h1
    obtain ⟨T, hT⟩ : ∃ T, trr tp isT pa (tp.length + 1) A.2.1 A.2.2.2 = T := ⟨_, rfl⟩
    have b := trr_p h0 hpa (tp.length + 1) A.2.1 A.2.2.2 a2
    rw [hT] at b
    obtain ⟨b1, b2, b3⟩ := b
    cases h2 : T.1 with
    | false => rw [ptA_g h1 hT h2]; exact ⟨okr_no (by omega) b2, fun z => nof z⟩
    | true =>
      have b5 := b3 h2
      rw [ptA_y h1 hT h2]
      refine ⟨⟨show p ≤ T.2.1 by omega, b2, fun _ => ?_⟩, fun _ => ⟨rfl, b1⟩⟩
      show (A.2.2.1 ++ T.2.2.1).length + p ≤ T.2.1
      rw [List.length_append]
      omega
/-! bounds -/
theorem clm_b (x : Int) : -1000000 ≤ clm x ∧ clm x ≤ 1000000 := by
  unfold clm
  split
  · omega
  · split <;> omega
theorem opv_b (c : Nat) (x y : Int) : -1000000 ≤ opv c x y ∧ opv c x y ≤ 1000000 := by
  unfold opv
  split
  · exact clm_b _
  · split
    · exact clm_b _
    · split
      · exact clm_b _
      · split
        · split
          · omega
          · exact clm_b _
        · split
          · split <;> omega
          · split
            · split <;> omega
            · split
              · split <;> omega
              · split
                · split
                  · omega
                  · split <;> omega
                · split
                  · split <;> omega
                  · omega
theorem opd_b {c : Nat} {t s : Dn} : bdt (opd c t s) := fun L _ => opv_b c (t L) (s L)
theorem trr_b : ∀ (f p : Nat) (t : Dn), bdt t → (trr tp isT pa f p t).1 = true → bdt (trr tp isT pa f p t).2.2.2
  | 0, p, t, ht, _ => ht
  | f + 1, p, t, ht, h => by
    cases hT : isT (gb tp (sk tp p)) with
    | false => rw [trr_n hT]; exact ht
    | true =>
      cases hA : (pa (sk tp p + 1)).1 with
      | false => rw [trr_f hT hA] at h; exact nof h
      | true =>
        rw [trr_y hT hA] at h ⊢
        exact trr_b f _ _ opd_b h
theorem srr_b : ∀ (f p : Nat) (s : Dn), bdt s → (srr tp isT isL pa f p s).1 = true → bdt (srr tp isT isL pa f p s).2.2.2
  | 0, p, s, hs, _ => hs
  | f + 1, p, s, hs, h => by
    cases hL : isL (gb tp (sk tp p)) with
    | false => rw [srr_n hL]; exact hs
    | true =>
      cases hP : (ptA tp isT pa (pa (sk tp p + 1))).1 with
      | false =>
        rw [(srr_Pf hL hP).1] at h
        cases h
      | true =>
        obtain ⟨r1, r2, r3⟩ := srr_Py (isL := isL) (f := f) (s := s) hL hP
        rw [r1] at h
        rw [r3]
        exact srr_b f _ _ opd_b h
theorem ptA_b (hA : bnd A) : bnd (ptA tp isT pa A) := by
  intro h
  cases h1 : A.1 with
  | false => rw [ptA_f h1] at h; exact nof h
  | true =>
    obtain ⟨T, hT⟩ : ∃ T, trr tp isT pa (tp.length + 1) A.2.1 A.2.2.2 = T := ⟨_, rfl⟩
    cases h2 : T.1 with
    | false => rw [ptA_g h1 hT h2] at h; exact nof h
    | true =>
      rw [ptA_y h1 hT h2]
      have := trr_b (tp := tp) (isT := isT) (pa := pa) (tp.length + 1) A.2.1 A.2.2.2 (hA h1) (by rw [hT]; exact h2)
      rw [hT] at this
      exact this
theorem chn_b (hA : bnd A) : bnd (chn tp isT isL pa A) := by
  intro h
  cases hP : (ptA tp isT pa A).1 with
  | false =>
    rw [(chn_Pf hP).1] at h
    cases h
  | true =>
    obtain ⟨r1, r2, r3⟩ := chn_Py (isL := isL) hP
    rw [r1] at h
    rw [r3]
    exact srr_b _ _ _ (ptA_b hA hP) h
theorem nmb_v : ∀ (r k : Nat) (a : Bool) (v : Int) (p : Nat), r + k ≤ 4 → 0 ≤ v → v < 10 ^ k → -1 ≤ (nmb tp r a v p).1 ∧ (nmb tp r a v p).1 < 10 ^ 4
  | 0, k, a, v, p, hk, h0, h1 => by
    have hp : (10 : Int) ^ k ≤ 10 ^ 4 := by
      have : (10 : Nat) ^ k ≤ 10 ^ 4 := Nat.pow_le_pow_right (by decide) (by omega)
      exact_mod_cast this
    rw [nmb_0]
    split
    · exact ⟨Int.le_refl _, by show (-1 : Int) < 10000; omega⟩
    · split
      · exact ⟨by show -1 ≤ v; omega, by show v < 10 ^ 4; omega⟩
      · exact ⟨Int.le_refl _, by show (-1 : Int) < 10000; omega⟩
  | r + 1, k, a, v, p, hk, h0, h1 => by
    have hp : (10 : Int) ^ k ≤ 10 ^ 4 := by
      have : (10 : Nat) ^ k ≤ 10 ^ 4 := Nat.pow_le_pow_right (by decide) (by omega)
      exact_mod_cast this
    have hs : (10 : Int) ^ (k + 1) = 10 ^ k * 10 := Int.pow_succ 10 k
    rw [nmb_s]
    by_cases c : isd tp p = true
    · have d := isd_iff.mp c
      rw [if_pos c]
      exact nmb_v r (k + 1) true _ _ (by omega) (by omega) (by rw [hs]; omega)
    · rw [if_neg c]
      split
      · exact ⟨by show -1 ≤ v; omega, by show v < 10 ^ 4; omega⟩
      · exact ⟨Int.le_refl _, by show (-1 : Int) < 10000; omega⟩
theorem patm_bd {sub : Option (Nat → Rz)} (hs : ∀ s, sub = some s → ∀ p, bnd (s p)) (p : Nat) : bnd (patm tp sub p) := by
  intro h L hL
  by_cases c1 : gb tp (sk tp p) = 91
  · cases sub with
    | none => rw [patm_b0 c1] at h; exact nof h
    | some s =>
      rw [patm_b c1 rfl] at h ⊢
      have hb := hs s rfl (sk tp p + 1)
      generalize s (sk tp p + 1) = R at h hb ⊢
      cases hR : R.1 with
      | false => rw [hR, if_pos rfl] at h; exact nof h
      | true =>
        rw [hR, if_neg (by decide)] at h
        rw [if_neg (by decide)]
        by_cases c2 : gb tp (sk tp R.2.1) = 93
        · rw [if_pos c2]; exact hb hR L hL
        · rw [if_neg c2] at h; exact nof h
  · rw [patm_n c1] at h ⊢
    by_cases c2 : fi T6 (gb tp (sk tp p)) 6 0 = -1
    · rw [if_pos c2] at h ⊢
      by_cases c3 : (nmb tp 4 false 0 (sk tp p)).1 = -1
      · rw [if_pos c3] at h; exact nof h
      · rw [if_neg c3]
        have := nmb_v (tp := tp) 4 0 false 0 (sk tp p) (by decide) (Int.le_refl _) (by decide)
        have h4 : (10 : Int) ^ 4 = 10000 := by decide
        show -1000000 ≤ (nmb tp 4 false 0 (sk tp p)).1 ∧ (nmb tp 4 false 0 (sk tp p)).1 ≤ 1000000
        omega
    · rw [if_neg c2]
      rcases fi_r T6 (gb tp (sk tp p)) 6 0 with q | ⟨k, -, k2, k3, k4⟩
      · exact absurd q c2
      · have := hL k (by omega)
        show -1000000 ≤ L (fi T6 (gb tp (sk tp p)) 6 0).toNat ∧ L (fi T6 (gb tp (sk tp p)) 6 0).toNat ≤ 1000000
        rw [k3, Int.toNat_natCast]
        omega
theorem psm_b : ∀ d, (∀ p, bnd (atd tp d p)) ∧ (∀ p, bnd (psm tp d p))
  | 0 => by
    have ha : ∀ p, bnd (atd tp 0 p) := patm_bd (fun s h => by cases h)
    exact ⟨ha, fun p => by rw [psm_e]; exact chn_b (ha p)⟩
  | d + 1 => by
    have ih := psm_b d
    have ha : ∀ p, bnd (atd tp (d + 1) p) := patm_bd (fun s h => by cases h; exact ih.2)
    exact ⟨ha, fun p => by rw [psm_e]; exact chn_b (ha p)⟩
end PB
