/-! ===== pure: conditions, in the class ===== -/
section XCD
variable {N : Nat} {w v : aw_W} {tp : List Nat} {p : Nat} {S : List (Nat × Nat)} {cs : List Int}
/-- the class's loop over a condition -/
theorem xcl {pa : Nat → Rz} {co cu cc : Int → Int → aw_W → Option (Int × aw_W)} {wi : Int} (hN : 200 ≤ N) (hpa : okps tp pa) (hcu : ∀ p, p ≤ tp.length → xsp tp (cu wi 0) p (pa p)) : ∀ (n p f f' o i F : Nat) (w : aw_W) (cs : List Int) (t s : Dn), tp.length - p < n → p ≤ tp.length → tp.length < p + f → tp.length < p + f' → n < F → 2 * i ≤ p → (o = 0 ∨ o = 124) → XP w tp p → XC w cs → cs.length + (opc o).length ≤ p → ∃ w', x_Rules_readCondition_18 co cu cc N F wi (b2i (decide (o ≠ 0))) i w = some (b2i (flt tp isN isO pa f f' o p t s).1, w') ∧ XP w' tp (flt tp isN isO pa f f' o p t s).2.1 ∧ ((flt tp isN isO pa f f' o p t s).1 = true → XC w' (cs ++ (flt tp isN isO pa f f' o p t s).2.2.1)) ∧ fr_ S_PX w w' := by
  intro n
  induction n with
  | zero => intro p f f' o i F w cs t s hn; omega
  | succ n ih =>
    intro p f f' o i F w cs t s hn hp hf hf' hF hi ho h hc hcs
    obtain ⟨F, rfl⟩ : ∃ g, F = g + 1 := ⟨F - 1, by omega⟩
    obtain ⟨f, rfl⟩ : ∃ g, f = g + 1 := ⟨f - 1, by omega⟩
    obtain ⟨f', rfl⟩ : ∃ g, f' = g + 1 := ⟨f' - 1, by omega⟩
    have h160 := h.1.2.1.1
    have hk := sk_le hp
    obtain ⟨w1, e1, h1, f1⟩ := X_sign (N := N) hN h
    have hc1 := hc.fr f1 rfl
    have ol := opc_len o
    rw [x_Rules_readCondition_18, if_neg (by omega), e1, b2_some]
    have h2 : ∀ {q}, sk tp p < tp.length → q = sk tp p + 1 → XP (aw_up w1 1 2 (q : Int)) tp q ∧ XC (aw_up w1 1 2 (q : Int)) cs ∧ fr_ S_PX w (aw_up w1 1 2 (q : Int)) := by
      intro q hq e
      subst e
      exact ⟨h1.to (by omega), hc1.fr (S := [(1, 2)]) ((fr_r _ _).up rfl) rfl, (fr_m rfl f1).up rfl⟩
    cases cM : isN (gb tp (sk tp p)) with
    | true =>
      have cm : gb tp (sk tp p) = 38 := of_decide_eq_true cM
      have hq := isT_lt isN0 cM
      obtain ⟨x2, c2, fr2⟩ := h2 hq rfl
      rw [if_pos (by omega), x_Rules_readCondition_49, if_neg (by omega), h1.2.1, ww1 (i := sk tp p) (by omega), x_Rules_readCondition_80]
      obtain ⟨w3, e3, h3, g3, f3⟩ := hcu (sk tp p + 1) (by omega) _ cs x2 c2 (by omega)
      obtain ⟨⟨a1, a2, a3⟩, a4⟩ := hpa (sk tp p + 1) (by omega)
      rw [e3, b2_some]
      cases hA : (pa (sk tp p + 1)).1 with
      | false =>
        rw [if_pos b2i_f, flt_1f cM hA]
        exact ⟨w3, rfl, h3, fun z => nof z, fr2.trans f3⟩
      | true =>
        have a5 := a3 hA
        have a6 := a4 hA
        obtain ⟨r1, r2, r3⟩ := flt_1 (tp := tp) (isT := isN) (isL := isO) (pa := pa) (f := f) (f' := f' + 1) (o := o) (p := p) (t := t) (s := s) cM rfl hA rfl
        have hc3 := g3 hA
        obtain ⟨w4, e4, c4, f4⟩ := X_rput (N := N) (c := -38) hc3 (by rw [List.length_append]; omega)
        rw [if_neg b2i_t, if_pos (by omega), e4, b1_some, x_Rules_readCondition_105, ww1 (by omega), r1, r2]
        obtain ⟨w', b1, b2, b3, b4⟩ := ih (pa (sk tp p + 1)).2.1 f (f' + 1) o (i + 1) F w4 _ (opd (gb tp (sk tp p)) t (pa (sk tp p + 1)).2.2.2) s (by omega) a2 (by omega) (by omega) (by omega) (by omega) ho (h3.fr f4 rfl) c4 (by rw [List.length_append, List.length_append, List.length_singleton]; omega)
        refine ⟨w', b1, b2, fun z => ?_, fr2.trans (f3.trans ((fr_m rfl f4).trans b4))⟩
        have := b3 z
        rw [r3 z, cm]
        simp only [List.append_assoc, List.singleton_append] at this ⊢
        rw [cm] at this
        exact this
    | false =>
      have nm : ¬ gb tp (sk tp p) = 38 := of_decide_eq_false cM
      cases cA : isO (gb tp (sk tp p)) with
      | true =>
        have ca' : gb tp (sk tp p) = 124 := of_decide_eq_true cA
        have hq := isT_lt isO0 cA
        obtain ⟨x2, c2, fr2⟩ := h2 hq rfl
        have hc0 : gb tp (sk tp p) ≠ 0 := by omega
        have olc : (opc (gb tp (sk tp p))).length = 1 := by unfold opc; rw [if_neg hc0]; rfl
        have put : ∃ w3, x_Rules_readCondition_49 co cu cc N (x_Rules_readCondition_18 co cu cc N F) wi (b2i (decide (o ≠ 0))) i (gb tp (sk tp p)) w1 = x_Rules_readCondition_77 co cu cc N (x_Rules_readCondition_18 co cu cc N F) wi i (gb tp (sk tp p)) w3 ∧ XP w3 tp (sk tp p + 1) ∧ XC w3 (cs ++ opc o) ∧ fr_ S_PX w w3 := by
          rw [x_Rules_readCondition_49, if_pos (by omega), h1.2.1, ww1 (i := sk tp p) (by omega)]
          by_cases z : o = 0
          · subst z
            rw [if_pos (by rfl)]
            exact ⟨_, rfl, x2, by unfold opc; rw [if_pos rfl, List.append_nil]; exact c2, fr2⟩
          · have olo : opc o = [-124] := by unfold opc; rw [if_neg z]; rcases ho with y | y; exact absurd y z; rw [y]; rfl
            obtain ⟨w3, e3, c3, f3⟩ := X_rput (N := N) (c := -124) c2 (by omega)
            rw [decide_eq_true z, if_neg b2i_t, e3, b1_some, olo]
            exact ⟨w3, rfl, x2.fr f3 rfl, c3, fr2.trans (fr_m rfl f3)⟩
        obtain ⟨w3, e3, h3, c3, f3⟩ := put
        rw [if_neg (by omega), if_pos (by omega), e3, x_Rules_readCondition_77, x_Rules_readCondition_80]
        obtain ⟨w4, e4, h4, g4, f4⟩ := hcu (sk tp p + 1) (by omega) _ _ h3 c3 (by rw [List.length_append]; omega)
        obtain ⟨⟨a1, a2, a3⟩, a4⟩ := hpa (sk tp p + 1) (by omega)
        rw [e4, b2_some]
        cases hA : (pa (sk tp p + 1)).1 with
        | false =>
          obtain ⟨r1, r2⟩ := flt_2f (tp := tp) (isT := isN) (isL := isO) (pa := pa) (f := f + 1) (f' := f') (o := o) (p := p) (t := t) (s := s) hp cM cA hA
          rw [if_pos b2i_f, r1, r2]
          exact ⟨w4, rfl, h4, fun z => Bool.noConfusion z, f3.trans f4⟩
        | true =>
          have a5 := a3 hA
          have a6 := a4 hA
          obtain ⟨r1, r2, r3⟩ := flt_2 (tp := tp) (isT := isN) (isL := isO) (pa := pa) (f := f + 1) (f' := f') (o := o) (p := p) (t := t) (s := s) hp cM cA hc0 rfl hA rfl
          have hc4 := g4 hA
          rw [if_neg b2i_t, if_neg (by omega), x_Rules_readCondition_105, ww1 (by omega), r1, r2]
          have ih' := ih (pa (sk tp p + 1)).2.1 (tp.length + 1) f' (gb tp (sk tp p)) (i + 1) F w4 _ (pa (sk tp p + 1)).2.2.2 (if o = 0 then t else opd o s t) (by omega) a2 (by omega) (by omega) (by omega) (by omega) (Or.inr ca') h4 hc4 (by rw [List.length_append, List.length_append, olc]; omega)
          rw [decide_eq_true hc0] at ih'
          obtain ⟨w', b1, b2, b3, b4⟩ := ih'
          refine ⟨w', b1, b2, fun z => ?_, f3.trans (f4.trans b4)⟩
          have := b3 z
          rw [r3 z]
          simp only [List.append_assoc] at this ⊢
          exact this
      | false =>
        have na : ¬ gb tp (sk tp p) = 124 := of_decide_eq_false cA
        rw [if_neg (by omega), if_neg (by omega), x_Rules_readCondition_46, x_Rules_readCondition_111, flt_3 hp cM cA]
        by_cases z : o = 0
        · subst z
          rw [if_pos (by rfl)]
          exact ⟨w1, rfl, h1, fun _ => by unfold opc; rw [if_pos rfl]; show XC w1 (cs ++ []); rw [List.append_nil]; exact hc1, fr_m rfl f1⟩
        · have olo : opc o = [-124] := by unfold opc; rw [if_neg z]; rcases ho with y | y; exact absurd y z; rw [y]; rfl
          rw [olo, List.length_singleton] at hcs
          obtain ⟨w3, e3, c3, f3⟩ := X_rput (N := N) (c := -124) hc1 (by omega)
          rw [decide_eq_true z, if_neg b2i_t, e3, b1_some, olo]
          exact ⟨w3, rfl, h1.fr f3 rfl, fun _ => c3, (fr_m rfl f1).trans (fr_m rfl f3)⟩
/-- .. from its first unit on -/
theorem X_cdb (hN : 200 ≤ N) {co cu cc : Int → Int → aw_W → Option (Int × aw_W)} {wi b : Int} {pa : Nat → Rz} {A : Rz} (hpa : okps tp pa) (hcu : ∀ p, p ≤ tp.length → xsp tp (cu wi 0) p (pa p)) (hp : p ≤ tp.length) (hA : xsp tp (cu wi b) p A) (hok : okr_ tp p A) : xsp tp (x_Rules_readCondition_b co cu cc N wi b) p (chn tp isN isO pa A) := by
  intro w cs h hc hcs
  have h160 := h.1.2.1.1
  obtain ⟨w1, e1, h1, g1, f1⟩ := hA w cs h hc hcs
  obtain ⟨a1, a2, a3⟩ := hok
  rw [x_Rules_readCondition_b, e1, b2_some]
  cases h0 : A.1 with
  | false =>
    rw [if_pos b2i_f, chn_f h0]
    exact ⟨w1, rfl, h1, fun z => nof z, f1⟩
  | true =>
    have a5 := a3 h0
    obtain ⟨r1, r2, r3⟩ := flt_c (tp := tp) (isT := isN) (isL := isO) (pa := pa) (s := dz) h0
    rw [if_neg b2i_t]
    obtain ⟨w2, e2, h2, g2, f2⟩ := xcl (N := N) (co := co) (cc := cc) hN hpa hcu (tp.length - A.2.1 + 1) A.2.1 (tp.length + 1) (tp.length + 1) 0 0 N w1 (cs ++ A.2.2.1) A.2.2.2 dz (by omega) a2 (by omega) (by omega) (by omega) (by omega) (Or.inl rfl) h1 (g1 h0) (by rw [List.length_append]; show cs.length + A.2.2.1.length + 0 ≤ _; omega)
    rw [r1, r2]
    refine ⟨w2, e2, h2, fun z => ?_, f1.trans f2⟩
    have := g2 z
    rw [r3 (by rw [r1]; exact z), ← List.append_assoc]
    exact this
theorem X_isC {c : Nat} : x_Rules_isComparison N (c : Int) w = some (b2i (isC c), w) := by
  rw [x_Rules_isComparison]
  by_cases c1 : c = 61
  · subst c1; rfl
  · rw [if_neg (by omega)]
    by_cases c2 : c = 60
    · subst c2; rfl
    · rw [if_neg (by omega)]
      by_cases c3 : c = 62
      · subst c3; rfl
      · have : isC c = false := decide_eq_false (by omega)
        rw [if_neg (by omega), this]
        rfl
theorem cmp_f {d : Nat} {A : Rz} (h : A.1 = false) : cmp tp d A = no_ A.2.1 := by
  unfold cmp
  rw [if_pos h]
theorem cmp_g {d : Nat} {A : Rz} (h : A.1 = true) (h2 : isC (gb tp (sk tp A.2.1)) = false) : cmp tp d A = no_ (sk tp A.2.1) := by
  unfold cmp
  rw [if_neg (by rw [h]; decide), if_pos h2]
theorem cmp_h {d : Nat} {A B : Rz} (h : A.1 = true) (h2 : isC (gb tp (sk tp A.2.1)) = true) (hB : psm tp d (sk tp A.2.1 + 1) = B) (h3 : B.1 = false) : cmp tp d A = no_ B.2.1 := by
  subst hB
  unfold cmp
  rw [if_neg (by rw [h]; decide), if_neg (by rw [h2]; decide), if_pos h3]
theorem cmp_y {d : Nat} {A B : Rz} (h : A.1 = true) (h2 : isC (gb tp (sk tp A.2.1)) = true) (hB : psm tp d (sk tp A.2.1 + 1) = B) (h3 : B.1 = true) : cmp tp d A = (true, B.2.1, A.2.2.1 ++ (B.2.2.1 ++ [-(gb tp (sk tp A.2.1) : Int)]), opd (gb tp (sk tp A.2.1)) A.2.2.2 B.2.2.2) := by
  subst hB
  unfold cmp
  rw [if_neg (by rw [h]; decide), if_neg (by rw [h2]; decide), if_neg (by rw [h3]; decide)]
/-- a comparison, from behind its first sum on -/
theorem X_u60 (hN : 200 ≤ N) {co cu cc : Int → Int → aw_W → Option (Int × aw_W)} {d : Nat} (hd : d ≤ 6) (hp : p ≤ tp.length) {dn : Dn} : xsp tp (x_Rules_readUnit_60 co cu cc N ((6 - d : Nat) : Int)) p (cmp tp d (true, p, [], dn)) := by
  intro w cs h hc hcs
  have h160 := h.1.2.1.1
  have hk := sk_le hp
  obtain ⟨w1, e1, h1, f1⟩ := X_sign (N := N) hN h
  have hc1 := hc.fr f1 rfl
  rw [x_Rules_readUnit_60, e1, b2_some, X_isC, b2_some]
  cases hC : isC (gb tp (sk tp p)) with
  | false =>
    rw [if_pos b2i_f, cmp_g (A := (true, p, [], dn)) rfl hC]
    exact ⟨w1, rfl, h1, fun z => nof z, fr_m rfl f1⟩
  | true =>
    have hql := isT_lt isC0 hC
    have hcc : gb tp (sk tp p) = 61 ∨ gb tp (sk tp p) = 60 ∨ gb tp (sk tp p) = 62 := of_decide_eq_true hC
    obtain ⟨w2, e2, h2, g2, f2⟩ := X_rsum (N := N) hN hd (p := sk tp p + 1) (by omega) (aw_up w1 1 2 ((sk tp p + 1 : Nat) : Int)) cs (h1.to (by omega)) (hc1.fr (S := [(1, 2)]) ((fr_r _ _).up rfl) rfl) (by omega)
    obtain ⟨⟨b1, b2, b3⟩, b4⟩ := (psm_at_p (tp := tp) d).2 (sk tp p + 1) (by omega)
    have fA : fr_ S_PX w w2 := ((fr_m rfl f1).up rfl).trans f2
    rw [if_neg b2i_t, h1.2.1, ww1 (by omega), e2, b2_some]
    cases hB : (psm tp d (sk tp p + 1)).1 with
    | false =>
      rw [if_pos b2i_f, cmp_h (A := (true, p, [], dn)) rfl hC rfl hB]
      exact ⟨w2, rfl, h2, fun z => nof z, fA⟩
    | true =>
      have b5 := b3 hB
      obtain ⟨w3, e3, c3, f3⟩ := X_rput (N := N) (c := -(gb tp (sk tp p) : Int)) (g2 hB) (by rw [List.length_append]; omega)
      rw [if_neg b2i_t, wneg (by omega), e3, b1_some, cmp_y (A := (true, p, [], dn)) rfl hC rfl hB]
      exact ⟨w3, rfl, h2.fr f3 rfl, fun _ => by show XC w3 (cs ++ ([] ++ ((psm tp d (sk tp p + 1)).2.2.1 ++ [-(gb tp (sk tp p) : Int)]))); rw [List.nil_append, ← List.append_assoc]; exact c3, fA.trans (fr_m rfl f3)⟩
theorem cmp_j {d : Nat} {A : Rz} (h : A.1 = true) : (cmp tp d A).1 = (cmp tp d (true, A.2.1, [], A.2.2.2)).1 ∧ (cmp tp d A).2.1 = (cmp tp d (true, A.2.1, [], A.2.2.2)).2.1 ∧ ((cmp tp d A).1 = true → (cmp tp d A).2.2.1 = A.2.2.1 ++ (cmp tp d (true, A.2.1, [], A.2.2.2)).2.2.1) := by
  cases hC : isC (gb tp (sk tp A.2.1)) with
  | false =>
    rw [cmp_g h hC, cmp_g (A := (true, A.2.1, [], A.2.2.2)) rfl hC]
    exact ⟨rfl, rfl, fun z => nof z⟩
  | true =>
    cases hB : (psm tp d (sk tp A.2.1 + 1)).1 with
    | false =>
      rw [cmp_h h hC rfl hB, cmp_h (A := (true, A.2.1, [], A.2.2.2)) rfl hC rfl hB]
      exact ⟨rfl, rfl, fun z => nof z⟩
    | true =>
      rw [cmp_y h hC rfl hB, cmp_y (A := (true, A.2.1, [], A.2.2.2)) rfl hC rfl hB]
      exact ⟨rfl, rfl, fun _ => rfl⟩
end XCD
