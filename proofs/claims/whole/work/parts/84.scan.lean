/-! ===== pure: reading a text, sign by sign ===== -/
def gb (tp : List Nat) (p : Nat) : Nat := tp.getD p 0
def skn (tp : List Nat) : Nat → Nat → Nat
  | 0, p => p
  | f + 1, p => if gb tp p = 32 then skn tp f (p + 1) else p
/-- behind blanks -/
def sk (tp : List Nat) (p : Nat) : Nat := skn tp (tp.length - p) p
def isd (tp : List Nat) (p : Nat) : Bool := decide (48 ≤ gb tp p) && decide (gb tp p ≤ 57)
def lk (tp : List Nat) (p : Nat) : Int := if p < tp.length then (gb tp p : Int) else -1
/-- a number of at most r digits more -/
def nmb (tp : List Nat) : Nat → Bool → Int → Nat → Int × Nat
  | 0, a, v, p => if isd tp p then (-1, p) else ((if a then v else -1), p)
  | r + 1, a, v, p => if isd tp p then nmb tp r true (v * 10 + (gb tp p : Int) - 48) (p + 1) else ((if a then v else -1), p)
theorem nmb_0 (tp : List Nat) (a : Bool) (v : Int) (p : Nat) : nmb tp 0 a v p = if isd tp p then (-1, p) else ((if a then v else -1), p) := rfl
theorem nmb_s (tp : List Nat) (r : Nat) (a : Bool) (v : Int) (p : Nat) : nmb tp (r + 1) a v p = if isd tp p then nmb tp r true (v * 10 + (gb tp p : Int) - 48) (p + 1) else ((if a then v else -1), p) := rfl
section SC
variable {N : Nat} {w v : aw_W} {tp : List Nat} {p B o : Nat} {S : List (Nat × Nat)}
theorem gb_out (h : tp.length ≤ p) : gb tp p = 0 := by
  unfold gb
  rw [List.getD_eq_getElem?_getD, List.getElem?_eq_none h]
  rfl
theorem gb_in (h : tpk tp) (hp : p < tp.length) : 1 ≤ gb tp p ∧ gb tp p ≤ 255 := by
  unfold gb
  rw [List.getD_eq_getElem?_getD, List.getElem?_eq_getElem hp]
  exact h.2 _ (List.getElem_mem hp)
theorem gb_le (h : tpk tp) (p : Nat) : gb tp p ≤ 255 := by
  by_cases c : p < tp.length
  · exact (gb_in h c).2
  · rw [gb_out (by omega)]; decide
theorem gb_lt {c : Nat} (h : gb tp p = c) (hc : 1 ≤ c) : p < tp.length := by
  rcases Nat.lt_or_ge p tp.length with q | q
  · exact q
  · rw [gb_out q] at h
    omega
theorem sk_b (h : gb tp p = 32) : sk tp p = sk tp (p + 1) := by
  have hp := gb_lt h (by decide)
  unfold sk
  rw [show tp.length - p = (tp.length - (p + 1)) + 1 by omega, skn, if_pos h]
theorem sk_n (h : gb tp p ≠ 32) : sk tp p = p := by
  unfold sk
  cases tp.length - p with
  | zero => rfl
  | succ f => rw [skn, if_neg h]
theorem sk_i : ∀ (d p : Nat), p + d = tp.length → p ≤ sk tp p ∧ sk tp p ≤ tp.length ∧ gb tp (sk tp p) ≠ 32
  | 0, p, h => by
    have e : gb tp p ≠ 32 := by rw [gb_out (by omega)]; decide
    rw [sk_n e]
    exact ⟨Nat.le_refl _, by omega, e⟩
  | d + 1, p, h => by
    by_cases c : gb tp p = 32
    · rw [sk_b c]
      have := sk_i d (p + 1) (by omega)
      exact ⟨by omega, this.2⟩
    · rw [sk_n c]
      exact ⟨Nat.le_refl _, by omega, c⟩
theorem sk_le (hp : p ≤ tp.length) : p ≤ sk tp p ∧ sk tp p ≤ tp.length := by
  have := sk_i (tp := tp) (tp.length - p) p (by omega)
  exact ⟨this.1, this.2.1⟩
theorem sk_sk (hp : p ≤ tp.length) : sk tp (sk tp p) = sk tp p := sk_n (sk_i (tp := tp) (tp.length - p) p (by omega)).2.2
theorem lk_is (h : tpk tp) {c : Nat} (hc : 1 ≤ c) : lk tp p = (c : Int) ↔ gb tp p = c := by
  unfold lk
  by_cases z : p < tp.length
  · rw [if_pos z]; omega
  · rw [if_neg z, gb_out (by omega)]; omega
theorem lk_no (h : tpk tp) : lk tp p = -1 ↔ gb tp p = 0 := by
  unfold lk
  by_cases z : p < tp.length
  · have := gb_in h z
    rw [if_pos z]; omega
  · rw [if_neg z, gb_out (by omega)]; omega
theorem isd_iff : isd tp p = true ↔ 48 ≤ gb tp p ∧ gb tp p ≤ 57 := by
  unfold isd
  rw [Bool.and_eq_true, decide_eq_true_eq, decide_eq_true_eq]
theorem isd_no (h : ¬ (48 ≤ gb tp p ∧ gb tp p ≤ 57)) : isd tp p = false := by
  rw [Bool.eq_false_iff]
  exact fun q => h (isd_iff.mp q)
theorem isd_lt (h : isd tp p = true) : p < tp.length := gb_lt rfl (by have := isd_iff.mp h; omega)
theorem nmb_p : ∀ (r : Nat) (a : Bool) (v : Int) (p : Nat), p ≤ tp.length → p ≤ (nmb tp r a v p).2 ∧ (nmb tp r a v p).2 ≤ tp.length
  | 0, a, v, p, hp => by
    rw [nmb_0]
    split <;> exact ⟨Nat.le_refl _, hp⟩
  | r + 1, a, v, p, hp => by
    rw [nmb_s]
    by_cases c : isd tp p = true
    · rw [if_pos c]
      have := nmb_p r true (v * 10 + (gb tp p : Int) - 48) (p + 1) (isd_lt c)
      omega
    · rw [if_neg c]
      exact ⟨Nat.le_refl _, hp⟩
/-- the class's cursor stands at p -/
def XP (w : aw_W) (tp : List Nat) (p : Nat) : Prop := XT w tp ∧ w 1 2 = (p : Int) ∧ p ≤ tp.length
def P_XP : List (Nat × Nat) := [(1, 1), (2, 1000000), (1, 2)]
theorem XP.fr (h : XP w tp p) (hf : fr_ S w v) (ha : avd S P_XP = true) : XP v tp p := by
  obtain ⟨⟨h1, h2, h3⟩, h4, h5⟩ := h
  exact ⟨⟨by rw [avd_fr ha hf rfl]; exact h1, h2, fun j hj => by rw [avd_fr ha hf (fr_inA rfl j)]; exact h3 j hj⟩, by rw [avd_fr ha hf rfl]; exact h4, h5⟩
theorem XP.to (h : XP w tp p) {q : Nat} (hq : q ≤ tp.length) : XP (aw_up w 1 2 (q : Int)) tp q :=
  ⟨h.1.fr (S := [(1, 2)]) ((fr_r _ _).up rfl) rfl, up_in, hq⟩
theorem XP.at (h : XP w tp p) (hp : p < tp.length) : w 2 p = (gb tp p : Int) := h.1.2.2 p hp
theorem xsg_l : ∀ (d f p : Nat) (w : aw_W), d < f → p + d = tp.length → XP w tp p → ∃ w', x_Tape_sign_0 N f w = some ((gb tp (sk tp p) : Int), w') ∧ XP w' tp (sk tp p) ∧ fr_ [(1, 2)] w w' := by
  intro d
  induction d with
  | zero =>
    intro f p w hf hd h
    obtain ⟨f, rfl⟩ : ∃ g, f = g + 1 := ⟨f - 1, by omega⟩
    have e : gb tp p ≠ 32 := by rw [gb_out (by omega)]; decide
    rw [sk_n e, x_Tape_sign_0, h.1.1, h.2.1, if_pos (by omega), x_Tape_sign_38, h.1.1, h.2.1, if_pos (by omega), gb_out (by omega)]
    exact ⟨w, rfl, h, fr_r _ _⟩
  | succ d ih =>
    intro f p w hf hd h
    obtain ⟨f, rfl⟩ : ∃ g, f = g + 1 := ⟨f - 1, by omega⟩
    have hl := h.1.2.1.1
    have hat := h.at (by omega)
    rw [x_Tape_sign_0, h.1.1, h.2.1, if_neg (by omega), if_pos ⟨by omega, by omega⟩, Int.toNat_natCast, hat]
    by_cases c : gb tp p = 32
    · rw [if_pos (by omega), ww1 (by omega), sk_b c]
      obtain ⟨w', a1, a2, a3⟩ := ih f (p + 1) (aw_up w 1 2 ((p + 1 : Nat) : Int)) (by omega) (by omega) (h.to (by omega))
      exact ⟨w', a1, a2, ((fr_r _ _).up rfl).trans a3⟩
    · rw [if_neg (by omega), sk_n c, x_Tape_sign_38, h.1.1, h.2.1, if_neg (by omega), if_pos ⟨by omega, by omega⟩, Int.toNat_natCast, hat]
      exact ⟨w, rfl, h, fr_r _ _⟩
theorem X_sign (hN : 200 ≤ N) (h : XP w tp p) : ∃ w', x_Tape_sign N w = some ((gb tp (sk tp p) : Int), w') ∧ XP w' tp (sk tp p) ∧ fr_ [(1, 2)] w w' := by
  have hl := h.1.2.1.1
  have hp := h.2.2
  exact xsg_l (N := N) (tp.length - p) N p w (by omega) (by omega) h
theorem X_tk (hN : 200 ≤ N) (h : XP w tp p) {c : Nat} (hc : 1 ≤ c) : ∃ w', x_Tape_take N (c : Int) w = some (b2i (decide (gb tp (sk tp p) = c)), w') ∧ XP w' tp (if gb tp (sk tp p) = c then sk tp p + 1 else sk tp p) ∧ fr_ [(1, 2)] w w' := by
  have hl := h.1.2.1.1
  obtain ⟨w1, e1, h1, f1⟩ := X_sign (N := N) hN h
  rw [x_Tape_take, e1, b2_some]
  by_cases z : gb tp (sk tp p) = c
  · have hlt := gb_lt z hc
    rw [if_pos (by omega), if_pos z, h1.2.1, ww1 (by omega), decide_eq_true z]
    exact ⟨_, rfl, h1.to (by omega), f1.trans ((fr_r _ _).up rfl)⟩
  · rw [if_neg (by omega), if_neg z, decide_eq_false z]
    exact ⟨w1, rfl, h1, f1⟩
theorem xnm_l {D : Nat} (hD : D ≤ 4) : ∀ (r f had p : Nat) (vl : Int) (w : aw_W), r + 1 < f → had + r = D → 0 ≤ vl → vl < 10 ^ had → XP w tp p → ∃ w', x_Tape_number_4 N f D vl had w = some ((nmb tp r (decide (had ≠ 0)) vl p).1, w') ∧ XP w' tp (nmb tp r (decide (had ≠ 0)) vl p).2 ∧ fr_ [(1, 2)] w w' := by
  intro r
  induction r with
  | zero =>
    intro f had p vl w hf hr hv0 hv1 h
    obtain ⟨f, rfl⟩ : ∃ g, f = g + 1 := ⟨f - 1, by omega⟩
    have hl := h.1.2.1.1
    have fin : isd tp p = false → ∃ w', x_Tape_number_84 N vl had w = some ((nmb tp 0 (decide (had ≠ 0)) vl p).1, w') ∧ XP w' tp (nmb tp 0 (decide (had ≠ 0)) vl p).2 ∧ fr_ [(1, 2)] w w' := by
      intro z
      rw [nmb_0, z, if_neg (by decide), x_Tape_number_84]
      by_cases y : had = 0
      · rw [if_pos (by omega), decide_eq_false (fun q => q y), if_neg (by decide)]
        exact ⟨w, rfl, h, fr_r _ _⟩
      · rw [if_neg (by omega), decide_eq_true y, if_pos rfl]
        exact ⟨w, rfl, h, fr_r _ _⟩
    rw [x_Tape_number_4, h.1.1, h.2.1]
    by_cases c : p < tp.length
    · have b : 0 ≤ (p : Int) ∧ (p : Int) < 160 := ⟨by omega, by omega⟩
      rw [if_neg (by omega), if_pos b, Int.toNat_natCast, h.at c]
      by_cases c1 : gb tp p < 48
      · rw [if_pos (by omega)]; exact fin (isd_no (by omega))
      · rw [if_neg (by omega), if_pos b]
        by_cases c2 : 57 < gb tp p
        · rw [if_pos (by omega)]; exact fin (isd_no (by omega))
        · have z : isd tp p = true := isd_iff.mpr (by omega)
          rw [if_neg (by omega), if_pos (by omega), nmb_0, if_pos z]
          exact ⟨w, rfl, h, fr_r _ _⟩
    · rw [if_pos (by omega)]
      exact fin (isd_no (by rw [gb_out (by omega)]; omega))
  | succ r ih =>
    intro f had p vl w hf hr hv0 hv1 h
    obtain ⟨f, rfl⟩ : ∃ g, f = g + 1 := ⟨f - 1, by omega⟩
    have hl := h.1.2.1.1
    have fin : isd tp p = false → ∃ w', x_Tape_number_84 N vl had w = some ((nmb tp (r + 1) (decide (had ≠ 0)) vl p).1, w') ∧ XP w' tp (nmb tp (r + 1) (decide (had ≠ 0)) vl p).2 ∧ fr_ [(1, 2)] w w' := by
      intro z
      rw [nmb_s, z, if_neg (by decide), x_Tape_number_84]
      by_cases y : had = 0
      · rw [if_pos (by omega), decide_eq_false (fun q => q y), if_neg (by decide)]
        exact ⟨w, rfl, h, fr_r _ _⟩
      · rw [if_neg (by omega), decide_eq_true y, if_pos rfl]
        exact ⟨w, rfl, h, fr_r _ _⟩
    rw [x_Tape_number_4, h.1.1, h.2.1]
    by_cases c : p < tp.length
    · have b : 0 ≤ (p : Int) ∧ (p : Int) < 160 := ⟨by omega, by omega⟩
      rw [if_neg (by omega), if_pos b, Int.toNat_natCast, h.at c]
      by_cases c1 : gb tp p < 48
      · rw [if_pos (by omega)]; exact fin (isd_no (by omega))
      · rw [if_neg (by omega), if_pos b]
        by_cases c2 : 57 < gb tp p
        · rw [if_pos (by omega)]; exact fin (isd_no (by omega))
        · have z : isd tp p = true := isd_iff.mpr (by omega)
          have hp3 : (10 : Int) ^ had ≤ 10 ^ 3 := by
            have : (10 : Nat) ^ had ≤ 10 ^ 3 := Nat.pow_le_pow_right (by decide) (by omega)
            exact_mod_cast this
          have hps : (10 : Int) ^ (had + 1) = 10 ^ had * 10 := Int.pow_succ 10 had
          rw [if_neg (by omega), if_neg (by omega), if_pos b, nmb_s, if_pos z]
          generalize (10 : Int) ^ had = Z at hv1 hp3 hps
          have hZ : Z ≤ 1000 := hp3
          rw [ww (x := vl * 10) (by omega) (by omega), ww (x := vl * 10 + (gb tp p : Int)) (by omega) (by omega), ww (x := vl * 10 + (gb tp p : Int) - 48) (by omega) (by omega), ww1 (i := had) (by omega), ww1 (i := p) (by omega)]
          have ih' := ih f (had + 1) (p + 1) (vl * 10 + (gb tp p : Int) - 48) (aw_up w 1 2 ((p + 1 : Nat) : Int)) (by omega) (by omega) (by omega) (by rw [hps]; omega) (h.to (by omega))
          rw [decide_eq_true (show had + 1 ≠ 0 by omega)] at ih'
          obtain ⟨w', a1, a2, a3⟩ := ih'
          exact ⟨w', a1, a2, ((fr_r _ _).up rfl).trans a3⟩
    · rw [if_pos (by omega)]
      exact fin (isd_no (by rw [gb_out (by omega)]; omega))
theorem X_number (hN : 200 ≤ N) (h : XP w tp p) {D : Nat} (hD : D ≤ 4) : ∃ w', x_Tape_number N (D : Int) w = some ((nmb tp D false 0 p).1, w') ∧ XP w' tp (nmb tp D false 0 p).2 ∧ fr_ [(1, 2)] w w' := by
  have := xnm_l (N := N) (tp := tp) hD D N 0 p 0 w (by omega) (by omega) (Int.le_refl _) (by decide) h
  exact this
/-- the reference's cursor stands at p in a text of cell B, which begins at o -/
def MP (w : aw_W) (B o : Nat) (tp : List Nat) (p : Nat) : Prop := w 49 5 = (B : Int) ∧ w 49 8 = (o : Int) ∧ w 49 9 = (tp.length : Int) ∧ w 49 10 = (p : Int) ∧ p ≤ tp.length ∧ tpk tp ∧ (∀ j, j < tp.length → w B (o + j) = sg (gb tp j)) ∧ (B = 50 ∧ o + tp.length ≤ 160 ∨ B = 51 ∧ o + tp.length ≤ 640)
def P_MP : List (Nat × Nat) := [(49, 5), (49, 8), (49, 9), (49, 10), (50, 1000000), (51, 1000000)]
theorem MP.fr (h : MP w B o tp p) (hf : fr_ S w v) (ha : avd S P_MP = true) : MP v B o tp p := by
  obtain ⟨h1, h2, h3, h4, h5, h6, h7, h8⟩ := h
  refine ⟨by rw [avd_fr ha hf rfl]; exact h1, by rw [avd_fr ha hf rfl]; exact h2, by rw [avd_fr ha hf rfl]; exact h3, by rw [avd_fr ha hf rfl]; exact h4, h5, h6, fun j hj => ?_, h8⟩
  rcases h8 with ⟨z, -⟩ | ⟨z, -⟩
  · subst z
    rw [avd_fr ha hf (fr_inA rfl _)]; exact h7 j hj
  · subst z
    rw [avd_fr ha hf (fr_inA rfl _)]; exact h7 j hj
theorem MP.to (h : MP w B o tp p) {q : Nat} (hq : q ≤ tp.length) : MP (aw_up w 49 10 (q : Int)) B o tp q := by
  obtain ⟨h1, h2, h3, h4, h5, h6, h7, h8⟩ := h
  exact ⟨by rw [up_out (Or.inr (by decide))]; exact h1, by rw [up_out (Or.inr (by decide))]; exact h2, by rw [up_out (Or.inr (by decide))]; exact h3, up_in, hq, h6, fun j hj => by rw [up_out (Or.inl (by rcases h8 with ⟨z, -⟩ | ⟨z, -⟩ <;> rw [z] <;> decide))]; exact h7 j hj, h8⟩
theorem bA_ok (h : B = 50 ∧ o + tp.length ≤ 160 ∨ B = 51 ∧ o + tp.length ≤ 640) (hp : p < tp.length) : aw_bA ((B : Int).toNat) = true ∧ 0 ≤ ((o + p : Nat) : Int) ∧ ((o + p : Nat) : Int) < aw_ln ((B : Int).toNat) := by
  rw [Int.toNat_natCast]
  rcases h with ⟨z, y⟩ | ⟨z, y⟩
  · subst z
    exact ⟨rfl, by omega, by show _ < (160 : Int); omega⟩
  · subst z
    exact ⟨rfl, by omega, by show _ < (640 : Int); omega⟩
theorem opw (h : MP w B o tp p) : aw_w ((o : Int) + (p : Int)) = ((o + p : Nat) : Int) := by
  obtain ⟨h1, h2, h3, h4, h5, h6, h7, h8⟩ := h
  rw [ww (by omega) (by omega)]
  omega
theorem sg255 : ∀ b : Nat, b < 256 → aw_and (sg b) 255 = (b : Int) := by decide +kernel
theorem sg32 {b : Nat} (hb : b < 256) : sg b = 32 ↔ b = 32 := by
  unfold sg
  split <;> omega
theorem mlk_l : ∀ (d f p : Nat) (w : aw_W), d < f → p + d = tp.length → MP w B o tp p → ∃ w', m_look_0 N f w = some (lk tp (sk tp p), w') ∧ MP w' B o tp (sk tp p) ∧ fr_ [(49, 10)] w w' := by
  intro d
  induction d with
  | zero =>
    intro f p w hf hd h
    obtain ⟨f, rfl⟩ : ∃ g, f = g + 1 := ⟨f - 1, by omega⟩
    have e : gb tp p ≠ 32 := by rw [gb_out (by omega)]; decide
    obtain ⟨h1, h2, h3, h4, h5, h6, h7, h8⟩ := id h
    rw [sk_n e, m_look_0, h3, h4, if_pos (by omega), m_look_43, h3, h4, if_pos (by omega)]
    unfold lk
    rw [if_neg (by omega)]
    exact ⟨w, rfl, h, fr_r _ _⟩
  | succ d ih =>
    intro f p w hf hd h
    obtain ⟨f, rfl⟩ : ∃ g, f = g + 1 := ⟨f - 1, by omega⟩
    obtain ⟨h1, h2, h3, h4, h5, h6, h7, h8⟩ := id h
    have hpl : p < tp.length := by omega
    have hg := gb_in h6 hpl
    have h160 := h6.1
    rw [m_look_0, h3, h4, if_neg (by omega), h1, h2, opw h, if_pos (bA_ok h8 hpl), Int.toNat_natCast, Int.toNat_natCast, h7 p hpl]
    by_cases c : gb tp p = 32
    · rw [if_pos ((sg32 (by omega)).mpr c), ww1 (by omega), sk_b c]
      obtain ⟨w', a1, a2, a3⟩ := ih f (p + 1) (aw_up w 49 10 ((p + 1 : Nat) : Int)) (by omega) (by omega) (h.to (by omega))
      exact ⟨w', a1, a2, ((fr_r _ _).up rfl).trans a3⟩
    · rw [if_neg (fun q => c ((sg32 (by omega)).mp q)), sk_n c, m_look_43, h3, h4, if_neg (by omega), h1, h2, opw h, if_pos (bA_ok h8 hpl), Int.toNat_natCast, Int.toNat_natCast, h7 p hpl, sg255 _ (by omega)]
      unfold lk
      rw [if_pos hpl]
      exact ⟨w, rfl, h, fr_r _ _⟩
theorem M_look (hN : 200 ≤ N) (h : MP w B o tp p) : ∃ w', m_look N w = some (lk tp (sk tp p), w') ∧ MP w' B o tp (sk tp p) ∧ fr_ [(49, 10)] w w' := by
  obtain ⟨h1, h2, h3, h4, h5, h6, h7, h8⟩ := id h
  have h160 := h6.1
  exact mlk_l (N := N) (tp.length - p) N p w (by omega) (by omega) h
theorem M_isDigit (h : MP w B o tp p) : m_isDigit N w = some (b2i (isd tp p), w) := by
  obtain ⟨h1, h2, h3, h4, h5, h6, h7, h8⟩ := id h
  rw [m_isDigit, h3, h4]
  by_cases c : p < tp.length
  · have hg := gb_in h6 c
    have hb := bA_ok h8 c
    rw [if_neg (by omega), h1, h2, opw h, if_pos hb, if_pos hb, Int.toNat_natCast, Int.toNat_natCast, h7 p c]
    by_cases z : isd tp p = true
    · have := isd_iff.mp z
      have es : sg (gb tp p) = (gb tp p : Int) := by unfold sg; rw [if_pos (by omega)]
      rw [es, if_neg (by omega), if_neg (by omega), z]
      rfl
    · have zf : isd tp p = false := Bool.eq_false_iff.mpr z
      have z2 : ¬ (48 ≤ gb tp p ∧ gb tp p ≤ 57) := fun q => z (isd_iff.mpr q)
      rw [zf]
      by_cases y : sg (gb tp p) < 48
      · rw [if_pos y]; rfl
      · rw [if_neg y, if_pos (by unfold sg at y ⊢; split at y <;> split <;> omega)]; rfl
  · rw [if_pos (by omega), isd_no (by rw [gb_out (by omega)]; omega)]
    rfl
theorem M_here (h : MP w B o tp p) : m_here N w = some (lk tp p, w) := by
  obtain ⟨h1, h2, h3, h4, h5, h6, h7, h8⟩ := id h
  rw [m_here, h3, h4]
  unfold lk
  by_cases c : p < tp.length
  · have hg := gb_in h6 c
    rw [if_neg (by omega), h1, h2, opw h, if_pos (bA_ok h8 c), Int.toNat_natCast, Int.toNat_natCast, h7 p c, sg255 _ (by omega), if_pos c]
    rfl
  · rw [if_pos (by omega), if_neg c]
    rfl
theorem M_fails (h : MP w B o tp p) (hf : w 49 11 = -1) : m_fails N w = some (0, aw_up w 49 11 (p : Int)) := by
  rw [m_fails, if_pos hf, h.2.2.2.1]
  rfl
theorem M_fails2 (hf : w 49 11 ≠ -1) : m_fails N w = some (0, w) := by
  rw [m_fails, if_neg hf]
  rfl
end SC
