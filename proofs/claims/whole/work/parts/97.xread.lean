/-! ===== pure: a rule is read, in the class ===== -/
section XRD
variable {N : Nat} {w v : aw_W} {tp : List Nat} {p : Nat} {S : List (Nat × Nat)} {cs : List Int}
theorem nof5 {α : Prop} (z : (no5 p).1 = true) : α := Bool.noConfusion (show false = true from z)
/-- of a clause: its place, its codes -/
def okc (tp : List Nat) (p : Nat) (R : Rc) : Prop := p ≤ R.2.1 ∧ R.2.1 ≤ tp.length ∧ (R.1 = true → R.2.2.1.length + p + 1 ≤ R.2.1)
theorem clq_f {pre : List Int} {C : Rz} (h : C.1 = false) : clq tp pre C = no5 C.2.1 := by
  unfold clq
  rw [if_pos h]
theorem clq_g {pre : List Int} {C : Rz} (h : C.1 = true) (h2 : gb tp (sk tp C.2.1) ≠ 63) : clq tp pre C = no5 (sk tp C.2.1) := by
  unfold clq
  rw [if_neg (by rw [h]; decide), if_pos h2]
theorem clq_h {pre : List Int} {C B : Rz} (h : C.1 = true) (h2 : gb tp (sk tp C.2.1) = 63) (hB : psm tp 6 (sk tp C.2.1 + 1) = B) (h3 : B.1 = false) : clq tp pre C = no5 B.2.1 := by
  subst hB
  unfold clq
  rw [if_neg (by rw [h]; decide), if_neg (fun q => q h2), if_pos h3]
theorem clq_y {pre : List Int} {C B : Rz} (h : C.1 = true) (h2 : gb tp (sk tp C.2.1) = 63) (hB : psm tp 6 (sk tp C.2.1 + 1) = B) (h3 : B.1 = true) : clq tp pre C = (true, B.2.1, pre ++ (C.2.2.1 ++ (-63) :: (B.2.2.1 ++ [-59])), C.2.2.2, B.2.2.2) := by
  subst hB
  unfold clq
  rw [if_neg (by rw [h]; decide), if_neg (fun q => q h2), if_neg (by rw [h3]; decide)]
theorem X_110 (hc : XC w cs) (hl : cs.length < 160) (h : XP w tp p) : ∃ w', x_Rules_readClause_110 N w = some (1, w') ∧ XP w' tp p ∧ XC w' (cs ++ [-59]) ∧ fr_ S_PX w w' := by
  obtain ⟨w1, e1, c1, f1⟩ := X_rput (N := N) (c := -59) hc hl
  rw [x_Rules_readClause_110, e1, b1_some]
  exact ⟨w1, rfl, h.fr f1 rfl, c1, fr_m rfl f1⟩
/-- from the condition on; pre: the codes of the sum that has been read -/
theorem X_72 (hN : 200 ≤ N) {b : Int} {pre : List Int} {C : Rz} {q : Nat} (hC : xsp tp (x_Rules_readCondition N 0 b) q C) (hok : okr_ tp q C) (h : XP w tp q) (hc : XC w (cs ++ pre)) (hl : (cs ++ pre).length + 1 ≤ q) : ∃ w', x_Rules_readClause_72 N b w = some (b2i (clq tp pre C).1, w') ∧ XP w' tp (clq tp pre C).2.1 ∧ ((clq tp pre C).1 = true → XC w' (cs ++ (clq tp pre C).2.2.1)) ∧ fr_ S_PX w w' := by
  have h160 := h.1.2.1.1
  obtain ⟨a1, a2, a3⟩ := hok
  obtain ⟨w1, e1, h1, g1, f1⟩ := hC w _ h hc (by omega)
  rw [x_Rules_readClause_72, e1, b2_some]
  cases h0 : C.1 with
  | false =>
    rw [if_pos b2i_f, clq_f h0]
    exact ⟨w1, rfl, h1, fun z => nof5 z, f1⟩
  | true =>
    have a5 := a3 h0
    have hk := sk_le a2
    obtain ⟨w2, e2, h2, f2⟩ := X_tk (N := N) hN h1 (c := 63) (by decide)
    have e2' : x_Tape_take N 63 w1 = some (b2i (decide (gb tp (sk tp C.2.1) = 63)), w2) := e2
    rw [if_neg b2i_t, e2', b2_some]
    by_cases y : gb tp (sk tp C.2.1) = 63
    · have hql := gb_lt y (by decide)
      rw [if_pos y] at h2
      obtain ⟨w3, e3, c3, f3⟩ := X_rput (N := N) (c := -63) ((g1 h0).fr f2 rfl) (by rw [List.length_append]; omega)
      have h3 := h2.fr f3 rfl
      obtain ⟨w4, e4, h4, g4, f4⟩ := X_rsum (N := N) hN (show 6 ≤ 6 by decide) (p := sk tp C.2.1 + 1) (by omega) w3 _ h3 c3 (by rw [List.length_append, List.length_append, List.length_singleton]; omega)
      have e4' : x_Rules_readSum N 0 w3 = some (b2i (psm tp 6 (sk tp C.2.1 + 1)).1, w4) := e4
      obtain ⟨⟨b1, b2, b3⟩, b4⟩ := (psm_at_p (tp := tp) 6).2 (sk tp C.2.1 + 1) (by omega)
      have fA : fr_ S_PX w w4 := f1.trans ((fr_m rfl f2).trans ((fr_m rfl f3).trans f4))
      rw [decide_eq_true y, if_neg b2i_t, e3, b1_some, e4', b2_some]
      cases hB : (psm tp 6 (sk tp C.2.1 + 1)).1 with
      | false =>
        rw [if_pos b2i_f, clq_h h0 y rfl hB]
        exact ⟨w4, rfl, h4, fun z => nof5 z, fA⟩
      | true =>
        have b5 := b3 hB
        obtain ⟨w5, e5, h5, c5, f5⟩ := X_110 (N := N) (g4 hB) (by rw [List.length_append, List.length_append, List.length_append, List.length_singleton]; omega) h4
        rw [if_neg b2i_t, clq_y h0 y rfl hB, e5]
        refine ⟨w5, rfl, h5, fun _ => ?_, fA.trans f5⟩
        show XC w5 (cs ++ (pre ++ (C.2.2.1 ++ (-63) :: ((psm tp 6 (sk tp C.2.1 + 1)).2.2.1 ++ [-59]))))
        simp only [List.append_assoc, List.singleton_append, List.cons_append, List.nil_append] at c5 ⊢
        exact c5
    · rw [if_neg y] at h2
      rw [decide_eq_false y, if_pos b2i_f, clq_g h0 y]
      exact ⟨w2, rfl, h2, fun z => nof5 z, f1.trans (fr_m rfl f2)⟩
theorem clq_ok {pre : List Int} {C : Rz} {q : Nat} (hok : okr_ tp q C) : q ≤ (clq tp pre C).2.1 ∧ (clq tp pre C).2.1 ≤ tp.length ∧ ((clq tp pre C).1 = true → (clq tp pre C).2.2.1.length + q ≤ (clq tp pre C).2.1 + pre.length + 1) := by
  obtain ⟨a1, a2, a3⟩ := hok
  have hk := sk_le a2
  cases h0 : C.1 with
  | false => rw [clq_f h0]; exact ⟨a1, a2, fun z => nof5 z⟩
  | true =>
    have a5 := a3 h0
    by_cases y : gb tp (sk tp C.2.1) = 63
    · have hql := gb_lt y (by decide)
      obtain ⟨⟨b1, b2, b3⟩, b4⟩ := (psm_at_p (tp := tp) 6).2 (sk tp C.2.1 + 1) (by omega)
      cases hB : (psm tp 6 (sk tp C.2.1 + 1)).1 with
      | false => rw [clq_h h0 y rfl hB]; exact ⟨by show q ≤ (psm tp 6 (sk tp C.2.1 + 1)).2.1; omega, b2, fun z => nof5 z⟩
      | true =>
        have b5 := b3 hB
        rw [clq_y h0 y rfl hB]
        refine ⟨by show q ≤ (psm tp 6 (sk tp C.2.1 + 1)).2.1; omega, b2, fun _ => ?_⟩
        show (pre ++ (C.2.2.1 ++ (-63) :: ((psm tp 6 (sk tp C.2.1 + 1)).2.2.1 ++ [-59]))).length + q ≤ (psm tp 6 (sk tp C.2.1 + 1)).2.1 + pre.length + 1
        simp only [List.length_append, List.length_cons, List.length_nil]
        omega
    · rw [clq_g h0 y]
      exact ⟨by show q ≤ sk tp C.2.1; omega, hk.2, fun z => nof5 z⟩
theorem cla_ok {q : Nat} (hq : q ≤ tp.length) : q ≤ (cla tp q).2.1 ∧ (cla tp q).2.1 ≤ tp.length ∧ ((cla tp q).1 = true → (cla tp q).2.2.1.length + q ≤ (cla tp q).2.1 + 1) := by
  unfold cla
  by_cases c1 : gb tp q = 33 ∨ gb tp q = 40
  · rw [if_pos c1]
    have := clq_ok (tp := tp) (pre := []) ((pun_p (tp := tp) 6).2 q hq).1
    exact this
  · rw [if_neg c1]
    obtain ⟨⟨b1, b2, b3⟩, b4⟩ := (psm_at_p (tp := tp) 6).2 q hq
    generalize psm tp 6 q = B at b1 b2 b3 b4 ⊢
    have hk := sk_le b2
    cases hB : B.1 with
    | false => rw [if_pos rfl]; exact ⟨b1, b2, fun z => nof5 z⟩
    | true =>
      have b5 := b3 hB
      rw [if_neg (by decide)]
      cases hC : isC (gb tp (sk tp B.2.1)) with
      | true =>
        rw [if_pos rfl]
        obtain ⟨c1, c2, c3⟩ := clq_ok (tp := tp) (pre := B.2.2.1) (chn_p isN0 isO0 (pun_p (tp := tp) 6).1 (cmp_p (d := 6) (okr_b (dn := B.2.2.2) hk.2)).1).1
        exact ⟨by omega, c2, fun z => by have := c3 z; omega⟩
      | false =>
        rw [if_neg (by decide)]
        refine ⟨by show q ≤ sk tp B.2.1; omega, hk.2, fun _ => ?_⟩
        show (B.2.2.1 ++ [-59]).length + q ≤ sk tp B.2.1 + 1
        rw [List.length_append, List.length_singleton]
        omega
theorem pcz_ok (hp : p ≤ tp.length) : okc tp p (pcz tp p) := by
  unfold pcz
  have hk := sk_le hp
  by_cases c1 : gb tp (sk tp p) = 121
  · have h1 := gb_lt c1 (by decide)
    have hk2 := sk_le (tp := tp) (p := sk tp p + 1) (by omega)
    rw [if_neg (fun q => q c1)]
    by_cases c2 : gb tp (sk tp (sk tp p + 1)) = 58
    · have h2 := gb_lt c2 (by decide)
      have hk3 := sk_le (tp := tp) (p := sk tp (sk tp p + 1) + 1) (by omega)
      obtain ⟨a1, a2, a3⟩ := cla_ok (tp := tp) hk3.2
      rw [if_neg (fun q => q c2)]
      exact ⟨by omega, a2, fun z => by have := a3 z; omega⟩
    · rw [if_pos c2]
      exact ⟨by show p ≤ sk tp (sk tp p + 1); omega, hk2.2, fun z => nof5 z⟩
  · rw [if_pos c1]
    exact ⟨hk.1, hk.2, fun z => nof5 z⟩
theorem X_rclause (hN : 200 ≤ N) (hp : p ≤ tp.length) (h : XP w tp p) (hc : XC w cs) (hcs : cs.length ≤ p) : ∃ w', x_Rules_readClause N w = some (b2i (pcz tp p).1, w') ∧ XP w' tp (pcz tp p).2.1 ∧ ((pcz tp p).1 = true → XC w' (cs ++ (pcz tp p).2.2.1)) ∧ fr_ S_PX w w' := by
  have h160 := h.1.2.1.1
  have hk := sk_le hp
  obtain ⟨w1, e1, h1, f1⟩ := X_tk (N := N) hN h (c := 121) (by decide)
  have e1' : x_Tape_take N 121 w = some (b2i (decide (gb tp (sk tp p) = 121)), w1) := e1
  unfold pcz
  rw [x_Rules_readClause, e1', b2_some]
  by_cases c1 : gb tp (sk tp p) = 121
  · have hl1 := gb_lt c1 (by decide)
    have hk2 := sk_le (tp := tp) (p := sk tp p + 1) (by omega)
    rw [if_pos c1] at h1
    rw [decide_eq_true c1, if_neg b2i_t, if_neg (fun q => q c1)]
    obtain ⟨w2, e2, h2, f2⟩ := X_tk (N := N) hN h1 (c := 58) (by decide)
    have e2' : x_Tape_take N 58 w1 = some (b2i (decide (gb tp (sk tp (sk tp p + 1)) = 58)), w2) := e2
    rw [e2', b2_some]
    by_cases c2 : gb tp (sk tp (sk tp p + 1)) = 58
    · have hl2 := gb_lt c2 (by decide)
      have hk3 := sk_le (tp := tp) (p := sk tp (sk tp p + 1) + 1) (by omega)
      rw [if_pos c2] at h2
      obtain ⟨w3, e3, h3, f3⟩ := X_sign (N := N) hN h2
      have c3 := ((hc.fr f1 rfl).fr f2 rfl).fr f3 rfl
      have fA : fr_ S_PX w w3 := (fr_m rfl f1).trans ((fr_m rfl f2).trans (fr_m rfl f3))
      rw [decide_eq_true c2, if_neg b2i_t, if_neg (fun q => q c2), e3, b2_some]
      have hcs3 : cs.length + 2 ≤ sk tp (sk tp (sk tp p + 1) + 1) := by omega
      have hq3 := hk3.2
      generalize sk tp (sk tp (sk tp p + 1) + 1) = q at h3 hcs3 hq3 ⊢
      unfold cla
      by_cases d1 : gb tp q = 33 ∨ gb tp q = 40
      · have go : ∃ w', x_Rules_readClause_41 N w3 = some (b2i (clq tp [] (pcd tp 6 q)).1, w') ∧ XP w' tp (clq tp [] (pcd tp 6 q)).2.1 ∧ ((clq tp [] (pcd tp 6 q)).1 = true → XC w' (cs ++ (clq tp [] (pcd tp 6 q)).2.2.1)) ∧ fr_ S_PX w w' := by
          obtain ⟨w', a1, a2, a3, a4⟩ := X_72 (N := N) (pre := []) (b := 0) hN (X_cond hN hq3) ((pun_p (tp := tp) 6).2 q hq3).1 h3 (by rw [List.append_nil]; exact c3) (by rw [List.append_nil]; omega)
          rw [x_Rules_readClause_41, x_Rules_readClause_42, if_pos rfl, x_Rules_readClause_58, if_pos rfl]
          exact ⟨w', a1, a2, a3, fA.trans a4⟩
        rw [if_pos d1]
        rcases d1 with z | z
        · rw [if_pos (by omega)]; exact go
        · rw [if_neg (by omega), if_pos (by omega)]; exact go
      · rw [if_neg d1, if_neg (by omega), if_neg (by omega), x_Rules_readClause_42, if_neg (by decide)]
        obtain ⟨w4, e4, h4, g4, f4⟩ := X_rsum (N := N) hN (show 6 ≤ 6 by decide) (p := q) hq3 w3 cs h3 c3 (by omega)
        have e4' : x_Rules_readSum N 0 w3 = some (b2i (psm tp 6 q).1, w4) := e4
        obtain ⟨⟨b1, b2, b3⟩, b4⟩ := (psm_at_p (tp := tp) 6).2 q hq3
        rw [e4', b2_some]
        generalize psm tp 6 q = B at h4 g4 b1 b2 b3 b4 ⊢
        cases hB : B.1 with
        | false =>
          rw [if_pos b2i_f, if_pos rfl]
          exact ⟨w4, rfl, h4, fun z => nof5 z, fA.trans f4⟩
        | true =>
          have b5 := b3 hB
          have hk5 := sk_le b2
          obtain ⟨w5, e5, h5, f5⟩ := X_sign (N := N) hN h4
          have c5 := (g4 hB).fr f5 rfl
          have fB : fr_ S_PX w w5 := fA.trans (f4.trans (fr_m rfl f5))
          rw [if_neg b2i_t, if_neg (by decide), x_Rules_readClause_58, if_neg (by decide), e5, b2_some, X_isC, b2_some]
          cases hC : isC (gb tp (sk tp B.2.1)) with
          | true =>
            obtain ⟨w', a1, a2, a3, a4⟩ := X_72 (N := N) (pre := B.2.2.1) (b := 1) hN (X_condb (dn := B.2.2.2) hN hk5.2) (chn_p isN0 isO0 (pun_p (tp := tp) 6).1 (cmp_p (d := 6) (okr_b (dn := B.2.2.2) hk5.2)).1).1 h5 c5 (by rw [List.length_append]; omega)
            rw [if_neg b2i_t, if_pos rfl]
            exact ⟨w', a1, a2, a3, fB.trans a4⟩
          | false =>
            obtain ⟨w6, e6, h6, c6, f6⟩ := X_110 (N := N) c5 (by rw [List.length_append]; omega) h5
            rw [if_pos b2i_f, if_neg (by decide), e6]
            exact ⟨w6, rfl, h6, fun _ => by show XC w6 (cs ++ (B.2.2.1 ++ [-59])); rw [← List.append_assoc]; exact c6, fB.trans f6⟩
    · rw [if_neg c2] at h2
      rw [decide_eq_false c2, if_pos b2i_f, if_pos c2]
      exact ⟨w2, rfl, h2, fun z => nof5 z, (fr_m rfl f1).trans (fr_m rfl f2)⟩
  · rw [if_neg c1] at h1
    rw [decide_eq_false c1, if_pos b2i_f, if_pos c1]
    exact ⟨w1, rfl, h1, fun z => nof5 z, fr_m rfl f1⟩
theorem prl_s (tp : List Nat) (f p : Nat) : prl tp (f + 1) p = if (pcz tp p).1 = false then (((pcz tp p).2.1 : Int), [], dz) else if gb tp (sk tp (pcz tp p).2.1) = 59 then ((prl tp f (sk tp (pcz tp p).2.1 + 1)).1, (pcz tp p).2.2.1 ++ (prl tp f (sk tp (pcz tp p).2.1 + 1)).2.1, fun L => if (pcz tp p).2.2.2.1 L = 0 then (prl tp f (sk tp (pcz tp p).2.1 + 1)).2.2 L else (pcz tp p).2.2.2.2 L) else if gb tp (sk tp (pcz tp p).2.1) = 0 then (-1, (pcz tp p).2.2.1, fun L => if (pcz tp p).2.2.2.1 L = 0 then 0 else (pcz tp p).2.2.2.2 L) else ((sk tp (pcz tp p).2.1 : Int), [], dz) := rfl
theorem xrd_l (hN : 200 ≤ N) : ∀ (f p i F : Nat) (w : aw_W) (cs : List Int), f + 1 < F → p ≤ tp.length → tp.length < p + f → 2 * i ≤ p → XP w tp p → XC w cs → cs.length ≤ p → ∃ w', x_Rules_read_14 N F 1 i w = some ((prl tp f p).1, w') ∧ ((prl tp f p).1 = -1 → XC w' (cs ++ (prl tp f p).2.1)) ∧ fr_ S_PX w w' := by
  intro f
  induction f with
  | zero => intro p i F w cs hF hp hf; omega
  | succ f ih =>
    intro p i F w cs hF hp hf hi h hc hcs
    obtain ⟨F, rfl⟩ : ∃ g, F = g + 2 := ⟨F - 2, by omega⟩
    have h160 := h.1.2.1.1
    obtain ⟨w1, e1, h1, g1, f1⟩ := X_rclause (N := N) hN hp h hc hcs
    obtain ⟨a1, a2, a3⟩ := pcz_ok (tp := tp) hp
    rw [x_Rules_read_14, if_neg (by decide), if_neg (by omega), e1, b2_some, prl_s]
    generalize pcz tp p = r at h1 g1 a1 a2 a3 ⊢
    cases hr : r.1 with
    | false =>
      rw [if_pos b2i_f, if_pos rfl, x_Rules_read_33, h1.2.1]
      exact ⟨w1, rfl, fun z => by have z' : (r.2.1 : Int) = -1 := z; omega, f1⟩
    | true =>
      have a5 := a3 hr
      obtain ⟨w2, e2, h2, f2⟩ := X_tk (N := N) hN h1 (c := 59) (by decide)
      have e2' : x_Tape_take N 59 w1 = some (b2i (decide (gb tp (sk tp r.2.1) = 59)), w2) := e2
      have hk := sk_le a2
      have c2 := (g1 hr).fr f2 rfl
      rw [if_neg b2i_t, if_neg (by decide), e2', b2_some, ww1 (by omega)]
      by_cases c : gb tp (sk tp r.2.1) = 59
      · have hl := gb_lt c (by decide)
        rw [if_pos c] at h2
        rw [decide_eq_true c, if_pos c]
        obtain ⟨w', b1, b2, b3⟩ := ih (sk tp r.2.1 + 1) (i + 1) (F + 1) w2 (cs ++ r.2.2.1) (by omega) (by omega) (by omega) (by omega) h2 c2 (by rw [List.length_append]; omega)
        exact ⟨w', b1, fun z => by rw [← List.append_assoc]; exact b2 z, f1.trans ((fr_m rfl f2).trans b3)⟩
      · rw [if_neg c] at h2
        obtain ⟨w3, e3, h3, f3⟩ := X_sign (N := N) hN h2
        rw [sk_sk a2] at e3 h3
        have fA : fr_ S_PX w w3 := f1.trans ((fr_m rfl f2).trans (fr_m rfl f3))
        rw [decide_eq_false c, if_neg c, x_Rules_read_14, if_pos b2i_f, x_Rules_read_51, e3, b2_some]
        by_cases c2' : gb tp (sk tp r.2.1) = 0
        · rw [if_pos (by omega), if_pos c2']
          exact ⟨w3, rfl, fun _ => c2.fr f3 rfl, fA⟩
        · rw [if_neg (by omega), if_neg c2', x_Rules_read_66, h3.2.1]
          exact ⟨w3, rfl, fun z => by have z' : (sk tp r.2.1 : Int) = -1 := z; omega, fA⟩
theorem X_readRule (hN : 200 ≤ N) (h : XT w tp) : ∃ w', x_Rules_read N w = some ((prlT tp).1, w') ∧ ((prlT tp).1 = -1 → XC w' (prlT tp).2.1) ∧ fr_ S_PX w w' := by
  have h160 := h.2.1.1
  have fu : fr_ S_PX w (aw_up (aw_up w 11 5 0) 1 2 0) := ((fr_r _ _).up rfl).up rfl
  obtain ⟨w', a1, a2, a3⟩ := xrd_l (N := N) (tp := tp) hN (tp.length + 1) 0 0 N (aw_up (aw_up w 11 5 0) 1 2 0) [] (by omega) (Nat.zero_le _) (by omega) (Nat.le_refl _) ⟨h.fr fu rfl, by rw [up_in]; rfl, Nat.zero_le _⟩ ⟨by rw [up_out (Or.inl (by decide)), up_in]; rfl, fun j hj => absurd hj (Nat.not_lt_zero _)⟩ (Nat.zero_le _)
  exact ⟨w', a1, fun z => by have := a2 z; rw [List.nil_append] at this; exact this, fu.trans a3⟩
end XRD
