/-! ===== pure: a land is read, to its end ===== -/
def bN (b : Bool) : Nat := if b then 1 else 0
section RL
variable {N : Nat} {w v : aw_W} {tp : List Nat} {p n : Nat} {hl : Bool} {fo fl : Nat → Int} {S : List (Nat × Nat)}
theorem pit_rng {T LO HI : List Int} {K : Nat} : ∀ (f told p : Nat) (tab : Nat → Int), (∀ k, k < K → LO.getD k 0 ≤ tab k ∧ tab k ≤ HI.getD k 0) → ∀ k, k < K → LO.getD k 0 ≤ (pit tp T LO HI K f told p tab).2.2 k ∧ (pit tp T LO HI K f told p tab).2.2 k ≤ HI.getD k 0
  | 0, told, p, tab, h => h
  | f + 1, told, p, tab, h => by
    rw [pit_s]
    split
    · exact h
    · split
      · exact h
      · split
        · exact h
        · split
          · exact h
          · next c4 =>
            refine pit_rng f _ _ _ (fun k hk => ?_)
            unfold updi
            by_cases e : k = (fi T (gb tp (sk tp p)) K 0).toNat
            · rw [if_pos e]
              rw [← e] at c4
              omega
            · rw [if_neg e]
              exact h k hk
theorem U4_r : ∀ k : Nat, k < 4 → L4.getD k 0 ≤ U4.getD k 0 ∧ U4.getD k 0 ≤ H4.getD k 0 := by decide
theorem U5_r : ∀ k : Nat, k < 5 → L5.getD k 0 ≤ U5.getD k 0 ∧ U5.getD k 0 ≤ H5.getD k 0 := by decide
theorem LB_r {f : Nat → Int} (h : ∀ k : Nat, k < 5 → L5.getD k 0 ≤ f k ∧ f k ≤ H5.getD k 0) : LB f := by
  have h0 : (1 : Int) ≤ f 0 ∧ f 0 ≤ 6 := h 0 (by decide)
  have h1 : (0 : Int) ≤ f 1 ∧ f 1 ≤ 1 := h 1 (by decide)
  have h2 : (0 : Int) ≤ f 2 ∧ f 2 ≤ 2 := h 2 (by decide)
  have h3 : (0 : Int) ≤ f 3 ∧ f 3 ≤ 99 := h 3 (by decide)
  have h4 : (0 : Int) ≤ f 4 ∧ f 4 ≤ 9 := h 4 (by decide)
  unfold LB
  omega
theorem IB_r {f : Nat → Int} (h : ∀ k : Nat, k < 4 → L4.getD k 0 ≤ f k ∧ f k ≤ H4.getD k 0) (hi : IB fo n) : IB (fo4 n fo f) (n + 1) := by
  have h0 : (1 : Int) ≤ f 0 ∧ f 0 ≤ 9 := h 0 (by decide)
  have h1 : (0 : Int) ≤ f 1 ∧ f 1 ≤ 99 := h 1 (by decide)
  have h2 : (0 : Int) ≤ f 2 ∧ f 2 ≤ 4 := h 2 (by decide)
  have h3 : (0 : Int) ≤ f 3 ∧ f 3 ≤ 9 := h 3 (by decide)
  intro s hs
  by_cases e : s = n
  · subst e
    have g : ∀ k, k < 4 → fo4 s fo f (4 * s + k) = f k := by
      intro k hk
      unfold fo4
      rw [if_pos ⟨by omega, by omega⟩, show 4 * s + k - 4 * s = k by omega]
    have g0 := g 0 (by decide)
    rw [Nat.add_zero] at g0
    rw [g0, g 1 (by decide), g 2 (by decide), g 3 (by decide)]
    exact ⟨h0, h1, h2, h3⟩
  · have g : ∀ k, k < 4 → fo4 n fo f (4 * s + k) = fo (4 * s + k) := by
      intro k hk
      unfold fo4
      rw [if_neg (by omega)]
    have g0 := g 0 (by decide)
    rw [Nat.add_zero] at g0
    rw [g0, g 1 (by decide), g 2 (by decide), g 3 (by decide)]
    exact hi s (by omega)
/-- what a clause keeps -/
theorem pcl_ok (hn : n ≤ 6) (hu : hl = false → ∀ k, k < 5 → fl k = U5.getD k 0) (hi : IB fo n) (hb : LB fl) : ((pcl tp n hl fo fl p).1 = true → (pcl tp n hl fo fl p).2.2.1 + bN (pcl tp n hl fo fl p).2.2.2.1 = n + bN hl + 1) ∧ (pcl tp n hl fo fl p).2.2.1 ≤ 6 ∧ ((pcl tp n hl fo fl p).2.2.2.1 = false → ∀ k, k < 5 → (pcl tp n hl fo fl p).2.2.2.2.2 k = U5.getD k 0) ∧ IB (pcl tp n hl fo fl p).2.2.2.2.1 (pcl tp n hl fo fl p).2.2.1 ∧ LB (pcl tp n hl fo fl p).2.2.2.2.2 := by
  by_cases A : gb tp (sk tp p) = 115 ∧ n < 6
  · have e : pcl tp n hl fo fl p = ((cl4 tp (sk tp p + 1)).1, (cl4 tp (sk tp p + 1)).2.1, n + 1, hl, fo4 n fo (cl4 tp (sk tp p + 1)).2.2, fl) := by unfold pcl; rw [if_pos A]
    rw [e]
    exact ⟨fun _ => show n + 1 + bN hl = n + bN hl + 1 by omega, show n + 1 ≤ 6 by omega, hu, IB_r (pit_rng 5 0 _ _ U4_r) hi, hb⟩
  · by_cases B : gb tp (sk tp p) = 108 ∧ hl = false
    · have e : pcl tp n hl fo fl p = ((cl5 tp (sk tp p + 1)).1, (cl5 tp (sk tp p + 1)).2.1, n, true, fo, (cl5 tp (sk tp p + 1)).2.2) := by unfold pcl; rw [if_neg A, if_pos B]
      rw [e]
      refine ⟨fun _ => ?_, hn, fun z => Bool.noConfusion (show true = false from z), hi, LB_r (pit_rng 6 0 _ _ U5_r)⟩
      rw [B.2]
      rfl
    · have e : pcl tp n hl fo fl p = (false, sk tp p, n, hl, fo, fl) := by unfold pcl; rw [if_neg A, if_neg B]
      rw [e]
      exact ⟨fun z => Bool.noConfusion (show false = true from z), hn, hu, hi, hb⟩
theorem pld_rng : ∀ (f n : Nat) (hl : Bool) (fo fl : Nat → Int) (p : Nat), n ≤ 6 → (hl = false → ∀ k, k < 5 → fl k = U5.getD k 0) → IB fo n → LB fl → (pld tp f n hl fo fl p).1 = -1 → 2 ≤ (pld tp f n hl fo fl p).2.1 ∧ (pld tp f n hl fo fl p).2.1 ≤ 6 ∧ LB (pld tp f n hl fo fl p).2.2.2 ∧ IB (pld tp f n hl fo fl p).2.2.1 (pld tp f n hl fo fl p).2.1
  | 0, n, hl, fo, fl, p, hn, hu, hi, hb, h => by
    have h' : (p : Int) = -1 := h
    omega
  | f + 1, n, hl, fo, fl, p, hn, hu, hi, hb, h => by
    obtain ⟨k1, k2, k3, k4, k5⟩ := pcl_ok (tp := tp) (p := p) hn hu hi hb
    rw [pld_s] at h ⊢
    generalize pcl tp n hl fo fl p = r at h k1 k2 k3 k4 k5 ⊢
    by_cases c1 : r.1 = false
    · rw [if_pos c1] at h
      have h' : (r.2.1 : Int) = -1 := h
      omega
    · rw [if_neg c1] at h ⊢
      by_cases c2 : gb tp (sk tp r.2.1) = 59
      · rw [if_pos c2] at h ⊢
        exact pld_rng f _ _ _ _ _ k2 k3 k4 k5 h
      · rw [if_neg c2] at h ⊢
        by_cases c3 : gb tp (sk tp r.2.1) ≠ 0 ∨ r.2.2.1 < 2
        · rw [if_pos c3] at h
          have h' : (sk tp r.2.1 : Int) = -1 := h
          omega
        · rw [if_neg c3]
          exact ⟨show 2 ≤ r.2.2.1 by omega, k2, k5, k4⟩
theorem xld_l (hN : 200 ≤ N) : ∀ (f n : Nat) (hl : Bool) (fo fl : Nat → Int) (p i F : Nat) (w : aw_W), f + 1 < F → 8 ≤ n + bN hl + f → i + f ≤ 100 → XP w tp p → XD w n hl fo fl → (hl = false → ∀ k, k < 5 → fl k = U5.getD k 0) → IB fo n → LB fl → ∃ w', x_Land_read_32 N F 1 i w = some ((pld tp f n hl fo fl p).1, w') ∧ ((pld tp f n hl fo fl p).1 = -1 → ∃ hl', XD w' (pld tp f n hl fo fl p).2.1 hl' (pld tp f n hl fo fl p).2.2.1 (pld tp f n hl fo fl p).2.2.2) ∧ fr_ S_XD w w' := by
  intro f
  induction f with
  | zero =>
    intro n hl fo fl p i F w hF h8 hi h hd
    have := hd.2.1
    have hbn : bN hl ≤ 1 := by unfold bN; split <;> omega
    omega
  | succ f ih =>
    intro n hl fo fl p i F w hF h8 hi h hd hu hI hL
    obtain ⟨F, rfl⟩ : ∃ g, F = g + 2 := ⟨F - 2, by omega⟩
    obtain ⟨w1, e1, h1, d1, f1⟩ := X_clause (N := N) hN h hd hu
    obtain ⟨k1, k2, k3, k4, k5⟩ := pcl_ok (tp := tp) (p := p) hd.2.1 hu hI hL
    rw [x_Land_read_32, if_neg (by decide), if_neg (by omega), e1, b2_some, pld_s]
    generalize pcl tp n hl fo fl p = r at h1 d1 k1 k2 k3 k4 k5 ⊢
    cases hr : r.1 with
    | false =>
      rw [if_pos b2i_f, if_pos rfl, x_Land_read_51, h1.2.1]
      exact ⟨w1, rfl, fun z => by have z' : (r.2.1 : Int) = -1 := z; omega, f1⟩
    | true =>
      obtain ⟨w2, e2, h2, f2⟩ := X_tk (N := N) hN h1 (c := 59) (by decide)
      have e2' : x_Tape_take N 59 w1 = some (b2i (decide (gb tp (sk tp r.2.1) = 59)), w2) := e2
      have d2 := d1.fr f2 rfl
      have hle := (sk_le h1.2.2).2
      have hcnt := k1 hr
      rw [if_neg b2i_t, if_neg (by decide), e2', b2_some, ww1 (by omega)]
      by_cases c : gb tp (sk tp r.2.1) = 59
      · rw [if_pos c] at h2
        rw [decide_eq_true c, if_pos c]
        obtain ⟨w', a1, a2, a3⟩ := ih r.2.2.1 r.2.2.2.1 r.2.2.2.2.1 r.2.2.2.2.2 (sk tp r.2.1 + 1) (i + 1) (F + 1) w2 (by omega) (by omega) (by omega) h2 d2 k3 k4 k5
        exact ⟨w', a1, a2, f1.trans ((fr_m rfl f2).trans a3)⟩
      · rw [if_neg c] at h2
        obtain ⟨w3, e3, h3, f3⟩ := X_sign (N := N) hN h2
        rw [sk_sk h1.2.2] at e3 h3
        have d3 := d2.fr f3 rfl
        have fA : fr_ S_XD w w3 := f1.trans ((fr_m rfl f2).trans (fr_m rfl f3))
        rw [decide_eq_false c, if_neg c, x_Land_read_32, if_pos b2i_f, x_Land_read_69, e3, b2_some]
        by_cases c2 : gb tp (sk tp r.2.1) = 0
        · rw [if_pos (by omega), d3.1]
          by_cases c3 : r.2.2.1 < 2
          · rw [if_neg (by omega), if_pos (Or.inr c3), x_Land_read_84, x_Land_read_92, h3.2.1]
            exact ⟨w3, rfl, fun z => by have z' : (sk tp r.2.1 : Int) = -1 := z; omega, fA⟩
          · rw [if_pos (by omega), if_neg (fun q => q.elim (fun q => q c2) c3)]
            exact ⟨w3, rfl, fun _ => ⟨_, d3⟩, fA⟩
        · rw [if_neg (by omega), if_pos (Or.inl c2), x_Land_read_84, x_Land_read_92, h3.2.1]
          exact ⟨w3, rfl, fun z => by have z' : (sk tp r.2.1 : Int) = -1 := z; omega, fA⟩
def pldT (tp : List Nat) : Int × Nat × (Nat → Int) × (Nat → Int) := pld tp 8 0 false (fun _ => 0) (fun k => U5.getD k 0) 0
theorem pldT_rng (h : (pldT tp).1 = -1) : 2 ≤ (pldT tp).2.1 ∧ (pldT tp).2.1 ≤ 6 ∧ LB (pldT tp).2.2.2 ∧ IB (pldT tp).2.2.1 (pldT tp).2.1 :=
  pld_rng 8 0 false _ _ 0 (by decide) (fun _ _ _ => rfl) (fun s hs => absurd hs (Nat.not_lt_zero _)) (LB_r U5_r) h
theorem X_readLand (hN : 200 ≤ N) (h : XT w tp) : ∃ w', x_Land_read N w = some ((pldT tp).1, w') ∧ ((pldT tp).1 = -1 → ∃ hl', XD w' (pldT tp).2.1 hl' (pldT tp).2.2.1 (pldT tp).2.2.2) ∧ fr_ S_XD w w' := by
  rw [x_Land_read]
  generalize hw1 : aw_up (aw_cpy (fun x => List.getD [2, 0, 0, 0, 5] x 0) (aw_up (aw_up w 7 4 0) 7 3 0) 9 0 0 5) 1 2 0 = w1
  have f1 : fr_ S_XD w w1 := by
    rw [← hw1]
    exact ((((fr_r _ _).up rfl).up rfl).cpy rfl).up rfl
  have hx : XP w1 tp 0 := by
    refine ⟨h.fr f1 rfl, ?_, Nat.zero_le _⟩
    rw [← hw1, up_in]
    rfl
  have hd : XD w1 0 false (fun _ => 0) (fun k => U5.getD k 0) := by
    rw [← hw1]
    refine ⟨?_, by decide, ?_, fun j hj => absurd hj (by omega), fun k hk => ?_⟩
    · rw [up_out (Or.inl (by decide)), cpy_out (by decide), up_out (Or.inr (by decide)), up_in]; rfl
    · rw [up_out (Or.inl (by decide)), cpy_out (by decide), up_in]; rfl
    · rw [up_out (Or.inl (by decide)), cpy_in rfl hk]; rfl
  obtain ⟨w', a1, a2, a3⟩ := xld_l (N := N) hN 8 0 false _ _ 0 0 N w1 (by omega) (by decide) (by decide) hx hd (fun _ _ _ => rfl) (fun s hs => absurd hs (Nat.not_lt_zero _)) (LB_r U5_r)
  exact ⟨w', a1, a2, f1.trans a3⟩
end RL
