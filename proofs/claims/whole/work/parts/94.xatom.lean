/-! ===== pure: atoms and sums, in the class ===== -/
section XA
variable {N : Nat} {w v : aw_W} {tp : List Nat} {p : Nat} {S : List (Nat × Nat)} {cs : List Int}
theorem patm_b0 (h : gb tp (sk tp p) = 91) : patm tp none p = no_ (sk tp p) := by
  unfold patm
  rw [if_pos h]
theorem patm_b {s : Nat → Rz} {R : Rz} (h : gb tp (sk tp p) = 91) (hR : s (sk tp p + 1) = R) : patm tp (some s) p = if R.1 = false then no_ R.2.1 else if gb tp (sk tp R.2.1) = 93 then (true, sk tp R.2.1 + 1, R.2.2.1, R.2.2.2) else no_ (sk tp R.2.1) := by
  subst hR
  unfold patm
  rw [if_pos h]
theorem patm_n {sub : Option (Nat → Rz)} (h : gb tp (sk tp p) ≠ 91) : patm tp sub p = if fi T6 (gb tp (sk tp p)) 6 0 = -1 then (if (nmb tp 4 false 0 (sk tp p)).1 = -1 then no_ (nmb tp 4 false 0 (sk tp p)).2 else (true, (nmb tp 4 false 0 (sk tp p)).2, [(nmb tp 4 false 0 (sk tp p)).1], fun _ => (nmb tp 4 false 0 (sk tp p)).1)) else (true, sk tp p + 1, [-1 - fi T6 (gb tp (sk tp p)) 6 0], fun L => L (fi T6 (gb tp (sk tp p)) 6 0).toNat) := by
  unfold patm
  rw [if_neg h]
theorem nof {α : Prop} (z : (no_ p).1 = true) : α := Bool.noConfusion (show false = true from z)
/-- an atom that isn't in brackets -/
theorem X_atn (hN : 200 ≤ N) {ca cc : Int → aw_W → Option (Int × aw_W)} {wi : Int} {sub : Option (Nat → Rz)} (hp : p ≤ tp.length) (hb : gb tp (sk tp p) ≠ 91) : xsp tp (x_Rules_readAtom_b ca cc N wi) p (patm tp sub p) := by
  intro w cs h hc hcs
  have h160 := h.1.2.1.1
  have hk := sk_le hp
  obtain ⟨w1, e1, h1, f1⟩ := X_sign (N := N) hN h
  have hc1 := hc.fr f1 rfl
  rw [patm_n hb, x_Rules_readAtom_b, e1, b2_some, if_neg (by omega), X_ix6 (by omega), b2_some]
  by_cases c2 : fi T6 (gb tp (sk tp p)) 6 0 = -1
  · rw [if_pos c2, if_pos c2]
    obtain ⟨w2, e2, h2, f2⟩ := X_number (N := N) hN h1 (D := 4) (by decide)
    have e2' : x_Tape_number N 4 w1 = some ((nmb tp 4 false 0 (sk tp p)).1, w2) := e2
    have hc2 := hc1.fr f2 rfl
    rw [e2', b2_some]
    by_cases c3 : (nmb tp 4 false 0 (sk tp p)).1 = -1
    · rw [if_pos c3, if_pos c3]
      exact ⟨w2, rfl, h2, fun z => nof z, (fr_m rfl f1).trans (fr_m rfl f2)⟩
    · have hlt := nmb4_p c3
      have hle := h2.2.2
      obtain ⟨w3, e3, c4, f3⟩ := X_rput (N := N) (c := (nmb tp 4 false 0 (sk tp p)).1) hc2 (by omega)
      rw [if_neg c3, if_neg c3, e3, b1_some]
      exact ⟨w3, rfl, h2.fr f3 rfl, fun _ => c4, (fr_m rfl f1).trans ((fr_m rfl f2).trans (fr_m rfl f3))⟩
  · rcases fi_r T6 (gb tp (sk tp p)) 6 0 with q | ⟨k, -, k2, k3, k4⟩
    · exact absurd q c2
    · have kpos : ∀ k : Nat, k < 6 → 1 ≤ T6.getD k 0 := by decide
      have hk1 := kpos k (by omega)
      have hql : sk tp p < tp.length := gb_lt rfl (by omega)
      obtain ⟨w3, e3, c4, f3⟩ := X_rput (N := N) (w := aw_up w1 1 2 ((sk tp p + 1 : Nat) : Int)) (c := -1 - (k : Int)) (hc1.fr (S := [(1, 2)]) ((fr_r _ _).up rfl) rfl) (by omega)
      rw [if_neg c2, if_neg c2, k3, h1.2.1, ww1 (i := sk tp p) (by omega), ww (x := -1 - (k : Int)) (by omega) (by omega), e3, b1_some]
      exact ⟨w3, rfl, (h1.to (q := sk tp p + 1) (by omega)).fr f3 rfl, fun _ => c4, ((fr_m rfl f1).up rfl).trans (fr_m rfl f3)⟩
theorem X_at0 (hN : 200 ≤ N) {ca cc : Int → aw_W → Option (Int × aw_W)} (hp : p ≤ tp.length) : xsp tp (x_Rules_readAtom_b ca cc N ((6 - 0 : Nat) : Int)) p (atd tp 0 p) := by
  by_cases hb : gb tp (sk tp p) = 91
  · intro w cs h hc hcs
    obtain ⟨w1, e1, h1, f1⟩ := X_sign (N := N) hN h
    rw [show atd tp 0 p = no_ (sk tp p) from patm_b0 hb, x_Rules_readAtom_b, e1, b2_some, if_pos (by omega), if_neg (by decide)]
    exact ⟨w1, rfl, h1, fun z => nof z, fr_m rfl f1⟩
  · exact X_atn hN hp hb
theorem X_at1 (hN : 200 ≤ N) {ca cc : Int → aw_W → Option (Int × aw_W)} {d : Nat} (hd : d < 6) (hcc : ∀ p, p ≤ tp.length → xsp tp (cc ((6 - d : Nat) : Int)) p (psm tp d p)) (hp : p ≤ tp.length) : xsp tp (x_Rules_readAtom_b ca cc N ((6 - (d + 1) : Nat) : Int)) p (atd tp (d + 1) p) := by
  by_cases hb : gb tp (sk tp p) = 91
  · intro w cs h hc hcs
    have h160 := h.1.2.1.1
    have hk := sk_le hp
    have hql : sk tp p < tp.length := gb_lt hb (by decide)
    obtain ⟨w1, e1, h1, f1⟩ := X_sign (N := N) hN h
    have hc1 := hc.fr f1 rfl
    have ew : aw_w (((6 - (d + 1) : Nat) : Int) + 1) = ((6 - d : Nat) : Int) := by rw [ww (by omega) (by omega)]; omega
    obtain ⟨w2, e2, h2, g2, f2⟩ := hcc (sk tp p + 1) (by omega) (aw_up w1 1 2 ((sk tp p + 1 : Nat) : Int)) cs (h1.to (by omega)) (hc1.fr (S := [(1, 2)]) ((fr_r _ _).up rfl) rfl) (by omega)
    have fA : fr_ S_PX w w2 := ((fr_m rfl f1).up rfl).trans f2
    rw [show atd tp (d + 1) p = _ from patm_b (s := psm tp d) hb rfl, x_Rules_readAtom_b, e1, b2_some, if_pos (by omega), if_pos (by omega), h1.2.1, ww1 (i := sk tp p) (by omega), ew, e2, b2_some]
    generalize psm tp d (sk tp p + 1) = R at h2 g2 ⊢
    cases hR : R.1 with
    | false =>
      rw [if_pos b2i_f, if_pos rfl]
      exact ⟨w2, rfl, h2, fun z => nof z, fA⟩
    | true =>
      obtain ⟨w3, e3, h3, f3⟩ := X_tk (N := N) hN h2 (c := 93) (by decide)
      have e3' : x_Tape_take N 93 w2 = some (b2i (decide (gb tp (sk tp R.2.1) = 93)), w3) := e3
      rw [if_neg b2i_t, if_neg (by decide), e3', b2_some]
      by_cases c : gb tp (sk tp R.2.1) = 93
      · rw [if_pos c] at h3
        rw [decide_eq_true c, if_neg b2i_t, if_pos c]
        exact ⟨w3, rfl, h3, fun _ => (g2 hR).fr f3 rfl, fA.trans (fr_m rfl f3)⟩
      · rw [if_neg c] at h3
        rw [decide_eq_false c, if_pos b2i_f, if_neg c]
        exact ⟨w3, rfl, h3, fun z => nof z, fA.trans (fr_m rfl f3)⟩
  · exact X_atn hN hp hb
theorem X_smb (hN : 200 ≤ N) {ca cc : Int → aw_W → Option (Int × aw_W)} {wi : Int} {d : Nat} (hca : ∀ p, p ≤ tp.length → xsp tp (ca wi) p (atd tp d p)) (hp : p ≤ tp.length) : xsp tp (x_Rules_readSum_b ca cc N wi) p (psm tp d p) := by
  intro w cs h hc hcs
  have h160 := h.1.2.1.1
  obtain ⟨w1, e1, h1, g1, f1⟩ := hca p hp w cs h hc hcs
  have hok := (psm_at_p (tp := tp) d).1
  obtain ⟨⟨a1, a2, a3⟩, a4⟩ := hok p hp
  rw [psm_e, x_Rules_readSum_b, e1, b2_some]
  cases hA : (atd tp d p).1 with
  | false =>
    rw [if_pos b2i_f, chn_f hA]
    exact ⟨w1, rfl, h1, fun z => nof z, f1⟩
  | true =>
    have a5 := a3 hA
    obtain ⟨r1, r2, r3⟩ := flt_c (tp := tp) (isT := isM) (isL := isA) (pa := atd tp d) (s := dz) hA
    rw [if_neg b2i_t]
    obtain ⟨w2, e2, h2, g2, f2⟩ := xsl (N := N) (cc := cc) hN hok hca (tp.length - (atd tp d p).2.1 + 1) (atd tp d p).2.1 (tp.length + 1) (tp.length + 1) 0 0 N w1 (cs ++ (atd tp d p).2.2.1) (atd tp d p).2.2.2 dz (by omega) a2 (by omega) (by omega) (by omega) (by omega) (Or.inl rfl) h1 (g1 hA) (by rw [List.length_append]; show cs.length + (atd tp d p).2.2.1.length + 0 ≤ _; omega)
    rw [r1, r2]
    refine ⟨w2, e2, h2, fun z => ?_, f1.trans f2⟩
    have := g2 z
    rw [r3 (by rw [r1]; exact z), ← List.append_assoc]
    exact this
theorem X_gs (hN : 200 ≤ N) : ∀ d, d ≤ 6 → (∀ D, 2 * d + 1 ≤ D → ∀ p, p ≤ tp.length → xsp tp ((g_x_Rules_readAtom N D).1 ((6 - d : Nat) : Int)) p (atd tp d p)) ∧ (∀ D, 2 * d + 2 ≤ D → ∀ p, p ≤ tp.length → xsp tp ((g_x_Rules_readAtom N D).2 ((6 - d : Nat) : Int)) p (psm tp d p))
  | 0, hd => by
    have ha : ∀ D, 2 * 0 + 1 ≤ D → ∀ p, p ≤ tp.length → xsp tp ((g_x_Rules_readAtom N D).1 ((6 - 0 : Nat) : Int)) p (atd tp 0 p) := by
      intro D hD p hp
      obtain ⟨D, rfl⟩ : ∃ E, D = E + 1 := ⟨D - 1, by omega⟩
      exact X_at0 hN hp
    refine ⟨ha, fun D hD p hp => ?_⟩
    obtain ⟨D, rfl⟩ : ∃ E, D = E + 1 := ⟨D - 1, by omega⟩
    exact X_smb hN (fun p hp => ha D (by omega) p hp) hp
  | d + 1, hd => by
    have ih := X_gs hN d (by omega)
    have ha : ∀ D, 2 * (d + 1) + 1 ≤ D → ∀ p, p ≤ tp.length → xsp tp ((g_x_Rules_readAtom N D).1 ((6 - (d + 1) : Nat) : Int)) p (atd tp (d + 1) p) := by
      intro D hD p hp
      obtain ⟨D, rfl⟩ : ∃ E, D = E + 1 := ⟨D - 1, by omega⟩
      exact X_at1 hN (by omega) (fun p hp => ih.2 D (by omega) p hp) hp
    refine ⟨ha, fun D hD p hp => ?_⟩
    obtain ⟨D, rfl⟩ : ∃ E, D = E + 1 := ⟨D - 1, by omega⟩
    exact X_smb hN (fun p hp => ha D (by omega) p hp) hp
theorem X_rsum (hN : 200 ≤ N) {d : Nat} (hd : d ≤ 6) (hp : p ≤ tp.length) : xsp tp (x_Rules_readSum N ((6 - d : Nat) : Int)) p (psm tp d p) := (X_gs hN d hd).2 60 (by omega) p hp
end XA
