/-! ===== pure: a clause of a land, in the reference ===== -/
section LM
variable {N : Nat} {w v : aw_W} {tp : List Nat} {p n : Nat} {hl : Bool} {fo fl : Nat → Int} {S : List (Nat × Nat)}
theorem M_us4 {k : Nat} (hk : k < 4) : m_usual N 0 (k : Int) w = some (U4.getD k 0, w) := by
  rw [m_usual, if_pos rfl]
  have key : ∀ k : Nat, k < 4 → U4.getD k 0 = if (k : Int) = 0 then 3 else if (k : Int) = 1 then 10 else 0 := by decide
  rw [key k hk]
  split
  · rfl
  · split <;> rfl
theorem M_us5 {k : Nat} (hk : k < 5) : m_usual N 1 (k : Int) w = some (U5.getD k 0, w) := by
  rw [m_usual, if_neg (by decide)]
  have key : ∀ k : Nat, k < 5 → U5.getD k 0 = if (k : Int) = 0 then 2 else if (k : Int) = 4 then 5 else 0 := by decide
  rw [key k hk]
  split
  · rfl
  · split <;> rfl
theorem mfu4 {base : Nat} (hb : base + 4 ≤ 24) : ∀ (r f i : Nat) (w : aw_W), r < f → i + r = 4 → (∀ k, k < i → w 55 (base + k) = U4.getD k 0) → ∃ w', m_readClause_139 N f 0 base i w = m_readClause_168 N 0 base w' ∧ (∀ k, k < 4 → w' 55 (base + k) = U4.getD k 0) ∧ (∀ j, j < base → w' 55 j = w 55 j) ∧ fr_ [(55, 1000000)] w w' := by
  intro r
  induction r with
  | zero =>
    intro f i w hf hi h
    obtain ⟨f, rfl⟩ : ∃ g, f = g + 1 := ⟨f - 1, by omega⟩
    rw [m_readClause_139, M_ln3, b2_some, if_pos (by omega)]
    exact ⟨w, rfl, fun k hk => h k (by omega), fun _ _ => rfl, fr_r _ _⟩
  | succ r ih =>
    intro f i w hf hi h
    obtain ⟨f, rfl⟩ : ∃ g, f = g + 1 := ⟨f - 1, by omega⟩
    rw [m_readClause_139, M_ln3, b2_some, if_neg (by omega), M_us4 (by omega), b2_some, ww (x := (base : Int) + (i : Int)) (by omega) (by omega), if_pos ⟨by omega, by omega⟩, ww1 (by omega), show ((base : Int) + (i : Int)).toNat = base + i by omega]
    obtain ⟨w', a1, a2, a3, a4⟩ := ih f (i + 1) (aw_up w 55 (base + i) (U4.getD i 0)) (by omega) (by omega) (fun k hk => by
      by_cases e : k = i
      · subst e
        rw [up_in]
      · rw [up_out (Or.inr (by omega))]
        exact h k (by omega))
    exact ⟨w', a1, a2, fun j hj => by rw [a3 j hj, up_out (Or.inr (by omega))], ((fr_r _ _).upA rfl).trans a4⟩
theorem mfu5 : ∀ (r f i : Nat) (w : aw_W), r < f → i + r = 5 → (∀ k, k < i → w 57 k = U5.getD k 0) → ∃ w', m_readClause_139d N f 1 0 i w = m_readClause_168d N 1 0 w' ∧ (∀ k, k < 5 → w' 57 k = U5.getD k 0) ∧ fr_ [(57, 1000000)] w w' := by
  intro r
  induction r with
  | zero =>
    intro f i w hf hi h
    obtain ⟨f, rfl⟩ : ∃ g, f = g + 1 := ⟨f - 1, by omega⟩
    rw [m_readClause_139d, M_ln2, b2_some, if_pos (by omega)]
    exact ⟨w, rfl, fun k hk => h k (by omega), fr_r _ _⟩
  | succ r ih =>
    intro f i w hf hi h
    obtain ⟨f, rfl⟩ : ∃ g, f = g + 1 := ⟨f - 1, by omega⟩
    rw [m_readClause_139d, M_ln2, b2_some, if_neg (by omega), M_us5 (by omega), b2_some, Int.zero_add, ww (x := (i : Int)) (by omega) (by omega), if_pos ⟨by omega, by omega⟩, ww1 (by omega), Int.toNat_natCast]
    obtain ⟨w', a1, a2, a4⟩ := ih f (i + 1) (aw_up w 57 i (U5.getD i 0)) (by omega) (by omega) (fun k hk => by
      by_cases e : k = i
      · subst e
        rw [up_in]
      · rw [up_out (Or.inr (by omega))]
        exact h k (by omega))
    exact ⟨w', a1, a2, ((fr_r _ _).upA rfl).trans a4⟩
theorem M_clause (hN : 200 ≤ N) (h : MP w 50 0 tp p) (hd : MD w n hl fo fl) (hf : w 49 11 = -1) : ∃ w', m_readClause N w = some w' ∧ ((pcl tp n hl fo fl p).1 = true → w' 49 11 = -1 ∧ MP w' 50 0 tp (pcl tp n hl fo fl p).2.1 ∧ MD w' (pcl tp n hl fo fl p).2.2.1 (pcl tp n hl fo fl p).2.2.2.1 (pcl tp n hl fo fl p).2.2.2.2.1 (pcl tp n hl fo fl p).2.2.2.2.2) ∧ ((pcl tp n hl fo fl p).1 = false → w' 49 11 = ((pcl tp n hl fo fl p).2.1 : Int)) ∧ fr_ S_MD w w' := by
  have htk := h.2.2.2.2.2.1
  have h160 := htk.1
  obtain ⟨w1, e1, h1, f1⟩ := M_look (N := N) hN h
  have hd1 := hd.fr f1 rfl
  have hf1 : w1 49 11 = -1 := by rw [f1 49 11 rfl]; exact hf
  obtain ⟨d1, d2, d3, d4, d5⟩ := id hd1
  have i115 : lk tp (sk tp p) = 115 ↔ gb tp (sk tp p) = 115 := lk_is (p := sk tp p) htk (c := 115) (by decide)
  have i108 : lk tp (sk tp p) = 108 ↔ gb tp (sk tp p) = 108 := lk_is (p := sk tp p) htk (c := 108) (by decide)
  rw [m_readClause, e1, b2_some]
  by_cases A : gb tp (sk tp p) = 115 ∧ n < 6
  · have e : pcl tp n hl fo fl p = ((cl4 tp (sk tp p + 1)).1, (cl4 tp (sk tp p + 1)).2.1, n + 1, hl, fo4 n fo (cl4 tp (sk tp p + 1)).2.2, fl) := by unfold pcl; rw [if_pos A]
    rw [e]
    have hql : sk tp p < tp.length := gb_lt A.1 (by decide)
    have hlk : lk tp (sk tp p) = 115 := i115.mpr A.1
    have ew : aw_w (4 * (n : Int)) = ((4 * n : Nat) : Int) := by rw [ww (by omega) (by omega)]; omega
    rw [hlk, if_neg (by decide), m_readClause_16, if_pos rfl, if_pos rfl, m_readClause_27, if_pos rfl, m_readClause_38, if_pos rfl, d1, if_neg (by omega), m_readClause_59, if_pos rfl, d1, ew, h1.2.2.2.1, ww1 (i := sk tp p) (by omega), m_readClause_83, if_pos rfl, up_out (Or.inr (by decide)), d1, ww1 (i := n) (by omega), m_readClause_106, if_pos rfl, m_readClause_121, if_pos rfl, m_readClause_134]
    have hx : MP (aw_up (aw_up w1 49 10 ((sk tp p + 1 : Nat) : Int)) 49 23 ((n + 1 : Nat) : Int)) 50 0 tp (sk tp p + 1) := (h1.to (q := sk tp p + 1) (by omega)).fr (S := [(49, 23)]) ((fr_r _ _).up rfl) rfl
    have fu : fr_ [(49, 10), (49, 23)] w1 (aw_up (aw_up w1 49 10 ((sk tp p + 1 : Nat) : Int)) 49 23 ((n + 1 : Nat) : Int)) := ((fr_r _ _).up rfl).up rfl
    have z23 : (aw_up (aw_up w1 49 10 ((sk tp p + 1 : Nat) : Int)) 49 23 ((n + 1 : Nat) : Int)) 49 23 = ((n + 1 : Nat) : Int) := up_in
    generalize aw_up (aw_up w1 49 10 ((sk tp p + 1 : Nat) : Int)) 49 23 ((n + 1 : Nat) : Int) = w2 at hx fu z23 ⊢
    obtain ⟨w3, e3, t3, u3, f3⟩ := mfu4 (N := N) (base := 4 * n) (by omega) 4 N 0 w2 (by omega) (by omega) (fun k hk => absurd hk (Nat.not_lt_zero _))
    have e3' : m_readClause_139 N N 0 ((4 * n : Nat) : Int) 0 w2 = m_readClause_168 N 0 ((4 * n : Nat) : Int) w3 := e3
    have h3 := hx.fr f3 rfl
    obtain ⟨w4, e4, h4, f4⟩ := M_look (N := N) hN h3
    have hf4 : w4 49 11 = -1 := by rw [f4 49 11 rfl, f3 49 11 rfl, fu 49 11 rfl]; exact hf1
    have z0 : ((0 : Nat) : Int) = 0 := rfl
    obtain ⟨w5, e5, f5, g5, b5, u5⟩ := mit4_l (N := N) hN (base := 4 * n) (by omega) 5 0 (sk tp p + 1) (fun k => U4.getD k 0) N w4 (by omega) (by decide) (by omega) (by omega) h4 hf4 (fun k hk => by rw [f4 55 _ rfl]; exact t3 k hk)
    rw [z0] at e5
    rw [e3', m_readClause_168, e4, b2_some, M_ix4 (by omega), b2_some, fi_lk4 htk]
    refine ⟨w5, e5, fun z => ?_, b5, ((fr_m rfl f1).trans (fr_m rfl fu)).trans ((fr_m rfl f3).trans ((fr_m rfl f4).trans (fr_m rfl f5)))⟩
    obtain ⟨a1, a2, a3⟩ := g5 z
    refine ⟨a1, a2, by rw [f5 49 23 rfl, f4 49 23 rfl, f3 49 23 rfl]; exact z23, show n + 1 ≤ 6 by omega, by rw [f5 49 24 rfl, f4 49 24 rfl, f3 49 24 rfl, fu 49 24 rfl]; exact d3, fun j hj => ?_, fun k hk => by rw [f5 57 k rfl, f4 57 k rfl, f3 57 k rfl, fu 57 k rfl]; exact d5 k hk⟩
    show w5 55 j = fo4 n fo (cl4 tp (sk tp p + 1)).2.2 j
    unfold fo4
    by_cases y : 4 * n ≤ j
    · have hj' : j < 4 * (n + 1) := hj
      rw [if_pos ⟨y, by omega⟩]
      have := a3 (j - 4 * n) (by omega)
      rw [show 4 * n + (j - 4 * n) = j by omega] at this
      exact this
    · rw [if_neg (fun q => y q.1), u5 j (by omega), f4 55 j rfl, u3 j (by omega), fu 55 j rfl]
      exact d4 j (by omega)
  · by_cases B : gb tp (sk tp p) = 108 ∧ hl = false
    · have e : pcl tp n hl fo fl p = ((cl5 tp (sk tp p + 1)).1, (cl5 tp (sk tp p + 1)).2.1, n, true, fo, (cl5 tp (sk tp p + 1)).2.2) := by unfold pcl; rw [if_neg A, if_pos B]
      rw [e]
      have hql : sk tp p < tp.length := gb_lt B.1 (by decide)
      have hlk : lk tp (sk tp p) = 108 := i108.mpr B.1
      rw [hlk, if_pos rfl, m_readClause_16, if_neg (by decide), m_readClause_27, if_neg (by decide), d3, B.2, if_pos b2i_f, m_readClause_38, if_neg (by decide), m_readClause_59, if_neg (by decide), h1.2.2.2.1, ww1 (i := sk tp p) (by omega), m_readClause_83, if_neg (by decide), m_readClause_106, if_neg (by decide), m_readClause_121b, if_neg (by decide), m_readClause_134d]
      have hx : MP (aw_up (aw_up w1 49 10 ((sk tp p + 1 : Nat) : Int)) 49 24 1) 50 0 tp (sk tp p + 1) := (h1.to (q := sk tp p + 1) (by omega)).fr (S := [(49, 24)]) ((fr_r _ _).up rfl) rfl
      have fu : fr_ [(49, 10), (49, 24)] w1 (aw_up (aw_up w1 49 10 ((sk tp p + 1 : Nat) : Int)) 49 24 1) := ((fr_r _ _).up rfl).up rfl
      have z24 : (aw_up (aw_up w1 49 10 ((sk tp p + 1 : Nat) : Int)) 49 24 1) 49 24 = 1 := up_in
      generalize aw_up (aw_up w1 49 10 ((sk tp p + 1 : Nat) : Int)) 49 24 1 = w2 at hx fu z24 ⊢
      obtain ⟨w3, e3, t3, f3⟩ := mfu5 (N := N) 5 N 0 w2 (by omega) (by omega) (fun k hk => absurd hk (Nat.not_lt_zero _))
      have e3' : m_readClause_139d N N 1 0 0 w2 = m_readClause_168d N 1 0 w3 := e3
      have h3 := hx.fr f3 rfl
      obtain ⟨w4, e4, h4, f4⟩ := M_look (N := N) hN h3
      have hf4 : w4 49 11 = -1 := by rw [f4 49 11 rfl, f3 49 11 rfl, fu 49 11 rfl]; exact hf1
      have z0 : ((0 : Nat) : Int) = 0 := rfl
      obtain ⟨w5, e5, f5, g5, b5, u5⟩ := mit5_l (N := N) hN (base := 0) (by omega) 6 0 (sk tp p + 1) (fun k => U5.getD k 0) N w4 (by omega) (by decide) (by omega) (by omega) h4 hf4 (fun k hk => by rw [Nat.zero_add, f4 57 _ rfl]; exact t3 k hk)
      rw [z0] at e5
      rw [e3', m_readClause_168d, e4, b2_some, M_ix5 (by omega), b2_some, fi_lk5 htk]
      refine ⟨w5, e5, fun z => ?_, b5, ((fr_m rfl f1).trans (fr_m rfl fu)).trans ((fr_m rfl f3).trans ((fr_m rfl f4).trans (fr_m rfl f5)))⟩
      obtain ⟨a1, a2, a3⟩ := g5 z
      exact ⟨a1, a2, by rw [f5 49 23 rfl, f4 49 23 rfl, f3 49 23 rfl, fu 49 23 rfl]; exact d1, d2, by rw [f5 49 24 rfl, f4 49 24 rfl, f3 49 24 rfl]; exact z24, fun j hj => by rw [f5 55 j rfl, f4 55 j rfl, f3 55 j rfl, fu 55 j rfl]; exact d4 j hj, fun k hk => by have := a3 k hk; rw [Nat.zero_add] at this; exact this⟩
    · have e : pcl tp n hl fo fl p = (false, sk tp p, n, hl, fo, fl) := by unfold pcl; rw [if_neg A, if_neg B]
      rw [e]
      have fin : m_readClause_53 N w1 = some (aw_up w1 49 11 (sk tp p : Int)) := by
        rw [m_readClause_53, M_fails h1 hf1, b2_some]
      have res : ∃ w', m_readClause_53 N w1 = some w' ∧ ((false, sk tp p, n, hl, fo, fl).1 = true → w' 49 11 = -1 ∧ MP w' 50 0 tp (sk tp p) ∧ MD w' n hl fo fl) ∧ ((false, sk tp p, n, hl, fo, fl).1 = false → w' 49 11 = (sk tp p : Int)) ∧ fr_ S_MD w w' :=
        ⟨_, fin, fun z => Bool.noConfusion (show false = true from z), fun _ => up_in, (fr_m rfl f1).trans ((fr_r _ _).up rfl)⟩
      by_cases c : gb tp (sk tp p) = 108
      · have hlk : lk tp (sk tp p) = 108 := i108.mpr c
        have ht : hl = true := by
          cases hl with
          | true => rfl
          | false => exact absurd ⟨c, rfl⟩ B
        rw [hlk, if_pos rfl, m_readClause_16, if_neg (by decide), m_readClause_27, if_neg (by decide), d3, ht, if_neg b2i_t]
        rw [ht] at res
        exact res
      · rw [if_neg (fun q => c (i108.mp q)), m_readClause_16, if_pos rfl]
        by_cases c2 : gb tp (sk tp p) = 115
        · have hlk : lk tp (sk tp p) = 115 := i115.mpr c2
          rw [hlk, if_pos rfl, m_readClause_27, if_pos rfl, m_readClause_38, if_pos rfl, d1, if_pos (by omega)]
          exact res
        · rw [if_neg (fun q => c2 (i115.mp q))]
          exact res
end LM
