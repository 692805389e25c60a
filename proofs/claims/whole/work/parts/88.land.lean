/-! ===== pure: a land is read ===== -/
def cl4 (tp : List Nat) (p : Nat) : Bool × Nat × (Nat → Int) := pit tp T4 L4 H4 4 5 0 p (fun k => U4.getD k 0)
def cl5 (tp : List Nat) (p : Nat) : Bool × Nat × (Nat → Int) := pit tp T5 L5 H5 5 6 0 p (fun k => U5.getD k 0)
def fo4 (n : Nat) (fo t : Nat → Int) : Nat → Int := fun j => if 4 * n ≤ j ∧ j < 4 * n + 4 then t (j - 4 * n) else fo j
/-- a clause: is it well, where, and the land then -/
def pcl (tp : List Nat) (n : Nat) (hl : Bool) (fo fl : Nat → Int) (p : Nat) : Bool × Nat × Nat × Bool × (Nat → Int) × (Nat → Int) :=
  if gb tp (sk tp p) = 115 ∧ n < 6 then ((cl4 tp (sk tp p + 1)).1, (cl4 tp (sk tp p + 1)).2.1, n + 1, hl, fo4 n fo (cl4 tp (sk tp p + 1)).2.2, fl)
  else if gb tp (sk tp p) = 108 ∧ hl = false then ((cl5 tp (sk tp p + 1)).1, (cl5 tp (sk tp p + 1)).2.1, n, true, fo, (cl5 tp (sk tp p + 1)).2.2)
  else (false, sk tp p, n, hl, fo, fl)
def pld (tp : List Nat) : Nat → Nat → Bool → (Nat → Int) → (Nat → Int) → Nat → Int × Nat × (Nat → Int) × (Nat → Int)
  | 0, n, _, fo, fl, p => ((p : Int), n, fo, fl)
  | f + 1, n, hl, fo, fl, p =>
    if (pcl tp n hl fo fl p).1 = false then (((pcl tp n hl fo fl p).2.1 : Int), n, fo, fl)
    else if gb tp (sk tp (pcl tp n hl fo fl p).2.1) = 59 then pld tp f (pcl tp n hl fo fl p).2.2.1 (pcl tp n hl fo fl p).2.2.2.1 (pcl tp n hl fo fl p).2.2.2.2.1 (pcl tp n hl fo fl p).2.2.2.2.2 (sk tp (pcl tp n hl fo fl p).2.1 + 1)
    else if gb tp (sk tp (pcl tp n hl fo fl p).2.1) ≠ 0 ∨ (pcl tp n hl fo fl p).2.2.1 < 2 then ((sk tp (pcl tp n hl fo fl p).2.1 : Int), n, fo, fl)
    else (-1, (pcl tp n hl fo fl p).2.2.1, (pcl tp n hl fo fl p).2.2.2.2.1, (pcl tp n hl fo fl p).2.2.2.2.2)
theorem pld_s (tp : List Nat) (f n : Nat) (hl : Bool) (fo fl : Nat → Int) (p : Nat) : pld tp (f + 1) n hl fo fl p = if (pcl tp n hl fo fl p).1 = false then (((pcl tp n hl fo fl p).2.1 : Int), n, fo, fl) else if gb tp (sk tp (pcl tp n hl fo fl p).2.1) = 59 then pld tp f (pcl tp n hl fo fl p).2.2.1 (pcl tp n hl fo fl p).2.2.2.1 (pcl tp n hl fo fl p).2.2.2.2.1 (pcl tp n hl fo fl p).2.2.2.2.2 (sk tp (pcl tp n hl fo fl p).2.1 + 1) else if gb tp (sk tp (pcl tp n hl fo fl p).2.1) ≠ 0 ∨ (pcl tp n hl fo fl p).2.2.1 < 2 then ((sk tp (pcl tp n hl fo fl p).2.1 : Int), n, fo, fl) else (-1, (pcl tp n hl fo fl p).2.2.1, (pcl tp n hl fo fl p).2.2.2.2.1, (pcl tp n hl fo fl p).2.2.2.2.2) := rfl
def XD (w : aw_W) (n : Nat) (hl : Bool) (fo fl : Nat → Int) : Prop := w 7 4 = (n : Int) ∧ n ≤ 6 ∧ w 7 3 = b2i hl ∧ (∀ j, j < 4 * n → w 8 j = fo j) ∧ (∀ k, k < 5 → w 9 k = fl k)
def MD (w : aw_W) (n : Nat) (hl : Bool) (fo fl : Nat → Int) : Prop := w 49 23 = (n : Int) ∧ n ≤ 6 ∧ w 49 24 = b2i hl ∧ (∀ j, j < 4 * n → w 55 j = fo j) ∧ (∀ k, k < 5 → w 57 k = fl k)
def P_XD : List (Nat × Nat) := [(7, 4), (7, 3), (8, 1000000), (9, 1000000)]
def P_MD : List (Nat × Nat) := [(49, 23), (49, 24), (55, 1000000), (57, 1000000)]
def S_XD : List (Nat × Nat) := [(1, 2), (7, 3), (7, 4), (8, 1000000), (9, 1000000)]
def S_MD : List (Nat × Nat) := [(49, 10), (49, 11), (49, 23), (49, 24), (55, 1000000), (57, 1000000)]
section LN
variable {N : Nat} {w v : aw_W} {tp : List Nat} {p n : Nat} {hl : Bool} {fo fl : Nat → Int} {S : List (Nat × Nat)}
theorem XD.fr (h : XD w n hl fo fl) (hf : fr_ S w v) (ha : avd S P_XD = true) : XD v n hl fo fl :=
  ⟨by rw [avd_fr ha hf rfl]; exact h.1, h.2.1, by rw [avd_fr ha hf rfl]; exact h.2.2.1, fun j hj => by rw [avd_fr ha hf (fr_inA rfl j)]; exact h.2.2.2.1 j hj, fun j hj => by rw [avd_fr ha hf (fr_inA rfl j)]; exact h.2.2.2.2 j hj⟩
theorem MD.fr (h : MD w n hl fo fl) (hf : fr_ S w v) (ha : avd S P_MD = true) : MD v n hl fo fl :=
  ⟨by rw [avd_fr ha hf rfl]; exact h.1, h.2.1, by rw [avd_fr ha hf rfl]; exact h.2.2.1, fun j hj => by rw [avd_fr ha hf (fr_inA rfl j)]; exact h.2.2.2.1 j hj, fun j hj => by rw [avd_fr ha hf (fr_inA rfl j)]; exact h.2.2.2.2 j hj⟩
theorem b2i01 (b : Bool) : b2i b = 0 ∨ b2i b = 1 := by cases b; exact Or.inl rfl; exact Or.inr rfl
theorem X_clause (hN : 200 ≤ N) (h : XP w tp p) (hd : XD w n hl fo fl) (hu : hl = false → ∀ k, k < 5 → fl k = U5.getD k 0) : ∃ w', x_Land_readClause N w = some (b2i (pcl tp n hl fo fl p).1, w') ∧ XP w' tp (pcl tp n hl fo fl p).2.1 ∧ XD w' (pcl tp n hl fo fl p).2.2.1 (pcl tp n hl fo fl p).2.2.2.1 (pcl tp n hl fo fl p).2.2.2.2.1 (pcl tp n hl fo fl p).2.2.2.2.2 ∧ fr_ S_XD w w' := by
  have h160 := h.1.2.1.1
  obtain ⟨w1, e1, h1, f1⟩ := X_sign (N := N) hN h
  have hd1 := hd.fr f1 rfl
  obtain ⟨d1, d2, d3, d4, d5⟩ := id hd1
  by_cases A : gb tp (sk tp p) = 115 ∧ n < 6
  · have e : pcl tp n hl fo fl p = ((cl4 tp (sk tp p + 1)).1, (cl4 tp (sk tp p + 1)).2.1, n + 1, hl, fo4 n fo (cl4 tp (sk tp p + 1)).2.2, fl) := by unfold pcl; rw [if_pos A]
    rw [e]
    have hql : sk tp p < tp.length := gb_lt A.1 (by decide)
    generalize hw2 : aw_cpy (fun x => List.getD [3, 10, 0, 0] x 0) (aw_up (aw_up w1 1 2 ((sk tp p + 1 : Nat) : Int)) 7 4 ((n + 1 : Nat) : Int)) 8 0 (4 * n) 4 = w2
    have f2 : fr_ S_XD w1 w2 := by
      rw [← hw2]
      exact (((fr_r _ w1).up rfl).up rfl).cpy rfl
    have hx : XP w2 tp (sk tp p + 1) := by
      rw [← hw2]
      exact (h1.to (q := sk tp p + 1) (by omega)).fr (S := [(7, 4), (8, 1000000)]) (((fr_r _ _).up rfl).cpy rfl) rfl
    have z8 : ∀ k, k < 4 → w2 8 (4 * n + k) = U4.getD k 0 := by
      intro k hk
      rw [← hw2]
      unfold aw_cpy
      rw [if_pos ⟨rfl, by omega, by omega⟩, show 0 + (4 * n + k - 4 * n) = k by omega]
      rfl
    have z8' : ∀ j, j < 4 * n → w2 8 j = fo j := by
      intro j hj
      rw [← hw2]
      unfold aw_cpy
      rw [if_neg (fun q => by omega), up_out (Or.inl (by decide)), up_out (Or.inl (by decide))]
      exact d4 j hj
    have z74 : w2 7 4 = ((n + 1 : Nat) : Int) := by
      rw [← hw2]
      unfold aw_cpy
      rw [if_neg (fun q => absurd q.1 (by decide)), up_in]
    have z73 : w2 7 3 = b2i hl := by
      rw [← hw2]
      unfold aw_cpy
      rw [if_neg (fun q => absurd q.1 (by decide)), up_out (Or.inr (by decide)), up_out (Or.inl (by decide))]
      exact d3
    have z9 : ∀ k, k < 5 → w2 9 k = fl k := by
      intro k hk
      rw [← hw2]
      unfold aw_cpy
      rw [if_neg (fun q => absurd q.1 (by decide)), up_out (Or.inl (by decide)), up_out (Or.inl (by decide))]
      exact d5 k hk
    obtain ⟨w3, e3, h3, t3, u3, f3⟩ := X_items4 (N := N) hN (base := 4 * n) (by omega) hx z8
    have ew : aw_w ((n : Int) * 4) = ((4 * n : Nat) : Int) := by rw [ww (by omega) (by omega)]; omega
    have e3' : x_Land_readItems_1_200_201_202_8 N ((4 * n : Nat) : Int) w2 = some (b2i (cl4 tp (sk tp p + 1)).1, w3) := e3
    refine ⟨w3, ?_, h3, ⟨by rw [f3 7 4 rfl]; exact z74, show n + 1 ≤ 6 by omega, by rw [f3 7 3 rfl]; exact z73, fun j hj => ?_, fun k hk => by rw [f3 9 k rfl]; exact z9 k hk⟩, (fr_m rfl f1).trans (f2.trans (fr_m rfl f3))⟩
    · rw [x_Land_readClause, e1, b2_some, if_pos (by omega), d1, if_neg (by omega), ew, if_pos ⟨by omega, by omega, by omega, by omega, by omega⟩, h1.2.1, ww1 (i := sk tp p) (by omega), ww1 (i := n) (by omega), Int.toNat_natCast, hw2, e3', b2_some, if_pos (b2i01 _)]
    · show w3 8 j = fo4 n fo (cl4 tp (sk tp p + 1)).2.2 j
      unfold fo4
      by_cases y : 4 * n ≤ j
      · have hj' : j < 4 * (n + 1) := hj
        rw [if_pos ⟨y, by omega⟩]
        have := t3 (j - 4 * n) (by omega)
        rw [show 4 * n + (j - 4 * n) = j by omega] at this
        exact this
      · rw [if_neg (fun q => y q.1), u3 j (by omega)]
        exact z8' j (by omega)
  · by_cases B : gb tp (sk tp p) = 108 ∧ hl = false
    · have e : pcl tp n hl fo fl p = ((cl5 tp (sk tp p + 1)).1, (cl5 tp (sk tp p + 1)).2.1, n, true, fo, (cl5 tp (sk tp p + 1)).2.2) := by unfold pcl; rw [if_neg A, if_pos B]
      rw [e]
      have hql : sk tp p < tp.length := gb_lt B.1 (by decide)
      have fu : fr_ [(1, 2), (7, 3)] w1 (aw_up (aw_up w1 1 2 ((sk tp p + 1 : Nat) : Int)) 7 3 1) := ((fr_r _ _).up rfl).up rfl
      have hx : XP (aw_up (aw_up w1 1 2 ((sk tp p + 1 : Nat) : Int)) 7 3 1) tp (sk tp p + 1) := (h1.to (q := sk tp p + 1) (by omega)).fr (S := [(7, 3)]) ((fr_r _ _).up rfl) rfl
      obtain ⟨w3, e3, h3, t3, u3, f3⟩ := X_items5 (N := N) hN (base := 0) (by omega) (tab := fun k => U5.getD k 0) hx (fun k hk => by rw [Nat.zero_add, fu 9 k rfl, d5 k hk]; exact hu B.2 k hk)
      have e3' : x_Land_readItems N 0 (aw_up (aw_up w1 1 2 ((sk tp p + 1 : Nat) : Int)) 7 3 1) = some (b2i (cl5 tp (sk tp p + 1)).1, w3) := e3
      refine ⟨w3, ?_, h3, ⟨by rw [f3 7 4 rfl, fu 7 4 rfl]; exact d1, d2, by rw [f3 7 3 rfl, up_in]; rfl, fun j hj => by rw [f3 8 j rfl, fu 8 j rfl]; exact d4 j hj, fun k hk => by have := t3 k hk; rw [Nat.zero_add] at this; exact this⟩, (fr_m rfl f1).trans ((fr_m rfl fu).trans (fr_m rfl f3))⟩
      rw [x_Land_readClause, e1, b2_some, if_neg (by omega), x_Land_readClause_79, if_pos (by omega), d3, B.2, if_pos b2i_f, h1.2.1, ww1 (by omega), e3', b2_some, if_pos (b2i01 _)]
    · have e : pcl tp n hl fo fl p = (false, sk tp p, n, hl, fo, fl) := by unfold pcl; rw [if_neg A, if_neg B]
      rw [e]
      have r79 : x_Land_readClause_79 N (gb tp (sk tp p) : Int) w1 = some (0, w1) := by
        rw [x_Land_readClause_79]
        by_cases c : gb tp (sk tp p) = 108
        · have ht : hl = true := by
            cases hl with
            | true => rfl
            | false => exact absurd ⟨c, rfl⟩ B
          rw [if_pos (by omega), d3, ht, if_neg b2i_t]
          rfl
        · rw [if_neg (by omega)]
          rfl
      refine ⟨w1, ?_, h1, hd1, fr_m rfl f1⟩
      rw [x_Land_readClause, e1, b2_some]
      by_cases c : gb tp (sk tp p) = 115
      · rw [if_pos (by omega), d1, if_pos (by omega), r79]
        rfl
      · rw [if_neg (by omega), r79]
        rfl
end LN
