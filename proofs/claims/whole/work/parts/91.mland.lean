/-! ===== pure: a land is read, in the reference ===== -/
section RM
variable {N : Nat} {w v : aw_W} {tp : List Nat} {p n : Nat} {hl : Bool} {fo fl : Nat → Int} {S : List (Nat × Nat)}
theorem mld_l (hN : 200 ≤ N) : ∀ (f n : Nat) (hl : Bool) (fo fl : Nat → Int) (p F : Nat) (w : aw_W), f + 1 < F → 8 ≤ n + bN hl + f → MP w 50 0 tp p → MD w n hl fo fl → w 49 11 = -1 → (hl = false → ∀ k, k < 5 → fl k = U5.getD k 0) → IB fo n → LB fl → ∃ w', m_readLand_49 N F 1 w = some w' ∧ w' 49 11 = (pld tp f n hl fo fl p).1 ∧ ((pld tp f n hl fo fl p).1 = -1 → ∃ hl', MD w' (pld tp f n hl fo fl p).2.1 hl' (pld tp f n hl fo fl p).2.2.1 (pld tp f n hl fo fl p).2.2.2) ∧ fr_ S_MD w w' := by
  intro f
  induction f with
  | zero =>
    intro n hl fo fl p F w hF h8 h hd
    have := hd.2.1
    have hbn : bN hl ≤ 1 := by unfold bN; split <;> omega
    omega
  | succ f ih =>
    intro n hl fo fl p F w hF h8 h hd hf hu hI hL
    obtain ⟨F, rfl⟩ : ∃ g, F = g + 2 := ⟨F - 2, by omega⟩
    have htk := h.2.2.2.2.2.1
    have h160 := htk.1
    obtain ⟨w1, e1, g1, b1, f1⟩ := M_clause (N := N) hN h hd hf
    obtain ⟨k1, k2, k3, k4, k5⟩ := pcl_ok (tp := tp) (p := p) hd.2.1 hu hI hL
    rw [m_readLand_49, if_neg (by decide), if_pos hf, e1, b1_some, pld_s]
    generalize pcl tp n hl fo fl p = r at g1 b1 k1 k2 k3 k4 k5 ⊢
    cases hr : r.1 with
    | false =>
      have z := b1 hr
      rw [if_neg (by omega), if_pos rfl, m_readLand_86, m_readLand_87, if_pos rfl, m_readLand_49, if_pos rfl, m_readLand_105, if_neg (by omega)]
      exact ⟨w1, rfl, z, fun q => by have q' : (r.2.1 : Int) = -1 := q; omega, f1⟩
    | true =>
      obtain ⟨z1, h1, d1⟩ := g1 hr
      obtain ⟨w2, e2, h2, f2⟩ := M_look (N := N) hN h1
      have d2 := d1.fr f2 rfl
      have z2 : w2 49 11 = -1 := by rw [f2 49 11 rfl]; exact z1
      have hle := (sk_le h1.2.2.2.2.1).2
      have hcnt := k1 hr
      have i59 : lk tp (sk tp r.2.1) = 59 ↔ gb tp (sk tp r.2.1) = 59 := lk_is htk (c := 59) (by decide)
      rw [if_pos z1, if_neg (by decide), e2, b2_some]
      by_cases c : gb tp (sk tp r.2.1) = 59
      · have hlt := gb_lt c (by decide)
        rw [if_pos (i59.mpr c), if_pos c, m_readLand_87, if_neg (by decide), h2.2.2.2.1, ww1 (by omega)]
        have fu : fr_ [(49, 10)] w2 (aw_up w2 49 10 ((sk tp r.2.1 + 1 : Nat) : Int)) := (fr_r _ _).up rfl
        obtain ⟨w', a1, a2, a3, a4⟩ := ih r.2.2.1 r.2.2.2.1 r.2.2.2.2.1 r.2.2.2.2.2 (sk tp r.2.1 + 1) (F + 1) (aw_up w2 49 10 ((sk tp r.2.1 + 1 : Nat) : Int)) (by omega) (by omega) (h2.to (by omega)) (d2.fr fu rfl) (by rw [fu 49 11 rfl]; exact z2) k3 k4 k5
        exact ⟨w', a1, a2, a3, f1.trans ((fr_m rfl f2).trans ((fr_m rfl fu).trans a4))⟩
      · obtain ⟨w3, e3, h3, f3⟩ := M_look (N := N) hN h2
        rw [sk_sk h1.2.2.2.2.1] at e3 h3
        have d3 := d2.fr f3 rfl
        have z3 : w3 49 11 = -1 := by rw [f3 49 11 rfl]; exact z2
        have fA : fr_ S_MD w w3 := f1.trans ((fr_m rfl f2).trans (fr_m rfl f3))
        have in0 := lk_no (p := sk tp r.2.1) htk
        have fin : m_readLand_129 N w3 = some (aw_up w3 49 11 (sk tp r.2.1 : Int)) := by
          rw [m_readLand_129, M_fails h3 z3, b2_some]
          rfl
        rw [if_neg (fun q => c (i59.mp q)), if_neg c, m_readLand_86, m_readLand_87, if_pos rfl, m_readLand_49, if_pos rfl, m_readLand_105, if_pos z2, e3, b2_some]
        by_cases c2 : gb tp (sk tp r.2.1) = 0
        · rw [if_pos (in0.mpr c2), d3.1]
          by_cases c3 : r.2.2.1 < 2
          · rw [if_neg (by omega), if_pos (Or.inr c3), fin]
            exact ⟨_, rfl, up_in, fun q => by have q' : (sk tp r.2.1 : Int) = -1 := q; omega, fA.up rfl⟩
          · rw [if_pos (by omega), if_neg (fun q => q.elim (fun q => q c2) c3)]
            exact ⟨w3, rfl, z3, fun _ => ⟨_, d3⟩, fA⟩
        · rw [if_neg (fun q => c2 (in0.mp q)), if_pos (Or.inl c2), fin]
          exact ⟨_, rfl, up_in, fun q => by have q' : (sk tp r.2.1 : Int) = -1 := q; omega, fA.up rfl⟩
theorem mlu5 : ∀ (r f i : Nat) (w : aw_W), r < f → i + r = 5 → (∀ k, k < i → w 57 k = U5.getD k 0) → ∃ w', m_readLand_25 N f i w = m_readLand_47 N w' ∧ (∀ k, k < 5 → w' 57 k = U5.getD k 0) ∧ fr_ [(57, 1000000)] w w' := by
  intro r
  induction r with
  | zero =>
    intro f i w hf hi h
    obtain ⟨f, rfl⟩ : ∃ g, f = g + 1 := ⟨f - 1, by omega⟩
    rw [m_readLand_25, if_pos (by omega)]
    exact ⟨w, rfl, fun k hk => h k (by omega), fr_r _ _⟩
  | succ r ih =>
    intro f i w hf hi h
    obtain ⟨f, rfl⟩ : ∃ g, f = g + 1 := ⟨f - 1, by omega⟩
    rw [m_readLand_25, if_neg (by omega), M_us5 (by omega), b2_some, if_pos ⟨by omega, by omega⟩, ww1 (by omega), Int.toNat_natCast]
    obtain ⟨w', a1, a2, a4⟩ := ih f (i + 1) (aw_up w 57 i (U5.getD i 0)) (by omega) (by omega) (fun k hk => by
      by_cases e : k = i
      · subst e
        rw [up_in]
      · rw [up_out (Or.inr (by omega))]
        exact h k (by omega))
    exact ⟨w', a1, a2, ((fr_r _ _).upA rfl).trans a4⟩
theorem M_readLand (hN : 200 ≤ N) (h : MT w tp) : ∃ w', m_readLand N w = some w' ∧ w' 49 11 = (pldT tp).1 ∧ ((pldT tp).1 = -1 → ∃ hl', MD w' (pldT tp).2.1 hl' (pldT tp).2.2.1 (pldT tp).2.2.2) ∧ fr_ S_m_readLand w w' := by
  have h160 := h.2.1.1
  have key : ∃ w', m_readLand N w = some w' ∧ w' 49 11 = (pldT tp).1 ∧ ((pldT tp).1 = -1 → ∃ hl', MD w' (pldT tp).2.1 hl' (pldT tp).2.2.1 (pldT tp).2.2.2) := by
    rw [m_readLand, m_opens_49_50, b1_some, h.1]
    generalize hw1 : aw_up (aw_up (aw_up (aw_up (aw_up (aw_up (aw_up w 49 5 50) 49 8 0) 49 9 (tp.length : Int)) 49 10 0) 49 11 (-1)) 49 23 0) 49 24 0 = w1
    obtain ⟨w2, e2, t2, f2⟩ := mlu5 (N := N) 5 N 0 w1 (by omega) (by omega) (fun k hk => absurd hk (Nat.not_lt_zero _))
    have e2' : m_readLand_25 N N 0 w1 = m_readLand_47 N w2 := e2
    have hm : MP w1 50 0 tp 0 := by
      rw [← hw1]
      refine ⟨?_, ?_, ?_, ?_, Nat.zero_le _, h.2.1, fun j hj => ?_, Or.inl ⟨rfl, by omega⟩⟩
      · simp [aw_up]
      · simp [aw_up]
      · simp [aw_up]
      · simp [aw_up]
      · rw [Nat.zero_add]
        simp [aw_up]
        exact h.2.2 j hj
    have hd : MD w2 0 false (fun _ => 0) (fun k => U5.getD k 0) := by
      refine ⟨?_, by decide, ?_, fun j hj => absurd hj (by omega), t2⟩
      · rw [f2 49 23 rfl, ← hw1]; simp [aw_up]
      · rw [f2 49 24 rfl, ← hw1]; simp [aw_up]; rfl
    have hf : w2 49 11 = -1 := by rw [f2 49 11 rfl, ← hw1]; simp [aw_up]
    obtain ⟨w', a1, a2, a3, a4⟩ := mld_l (N := N) hN 8 0 false _ _ 0 N w2 (by omega) (by decide) (hm.fr f2 rfl) hd hf (fun _ _ _ => rfl) (fun s hs => absurd hs (Nat.not_lt_zero _)) (LB_r U5_r)
    exact ⟨w', by rw [e2', m_readLand_47]; exact a1, a2, a3⟩
  obtain ⟨w', e, a1, a2⟩ := key
  exact ⟨w', e, a1, a2, f_m_readLand N _ _ e⟩
/-! the land is entered -/
theorem jf6_l : ∀ (m f i : Nat) (w : aw_W), m < f → i + m = 6 → (∀ j, j < i → w 6 j = -1) → ∃ w', j_Arr_fill_Ii_6_5 N f (-1) i 6 w = some w' ∧ (∀ j, j < 6 → w' 6 j = -1) ∧ fr_ [(6, 1000000)] w w' := by
  intro m
  induction m with
  | zero =>
    intro f i w hf hi h
    obtain ⟨f, rfl⟩ : ∃ g, f = g + 1 := ⟨f - 1, by omega⟩
    rw [j_Arr_fill_Ii_6_5, if_pos (by omega)]
    exact ⟨w, rfl, fun j hj => h j (by omega), fr_r _ _⟩
  | succ m ih =>
    intro f i w hf hi h
    obtain ⟨f, rfl⟩ : ∃ g, f = g + 1 := ⟨f - 1, by omega⟩
    rw [j_Arr_fill_Ii_6_5, if_neg (by omega), if_pos ⟨by omega, by omega⟩, ww1 (by omega), Int.toNat_natCast]
    obtain ⟨w', a1, a2, a3⟩ := ih f (i + 1) (aw_up w 6 i (-1)) (by omega) (by omega) (fun j hj => by
      by_cases e : j = i
      · subst e
        rw [up_in]
      · rw [up_out (Or.inr e)]
        exact h j (by omega))
    exact ⟨w', a1, a2, ((fr_r _ _).upA rfl).trans a3⟩
theorem X_enterLand (hN : 200 ≤ N) (hd : XD w n hl fo fl) (hn : 2 ≤ n) (hL : LB fl) (hI : IB fo n) {m : Nat} {r : Nat → Nat} (hb : XB w m r) : ∃ w', x_enterLand N w = some ((n : Int), w') ∧ XL w' n fl fo ∧ XB w' 0 r ∧ XU w' (fun _ => -1) ∧ w' 0 14 = 0 ∧ w' 23 4 = 0 ∧ w' 1 1 = 0 := by
  obtain ⟨d1, d2, d3, d4, d5⟩ := hd
  rw [x_enterLand, x_Land_become]
  obtain ⟨w1, e1, t1, f1⟩ := jf6_l (N := N) 6 N 0 (aw_cpy ((aw_cpy (w 8) w 4 0 0 24) 9) (aw_cpy (w 8) w 4 0 0 24) 5 0 0 5) (by omega) (by omega) (fun j hj => absurd hj (Nat.not_lt_zero _))
  have e1' : j_Arr_fill_Ii_6 N (-1) (aw_cpy ((aw_cpy (w 8) w 4 0 0 24) 9) (aw_cpy (w 8) w 4 0 0 24) 5 0 0 5) = some w1 := e1
  have z74 : w1 7 4 = (n : Int) := by rw [f1 7 4 rfl, cpy_out (by decide), cpy_out (by decide)]; exact d1
  rw [e1', b1_some, b1_some, z74]
  have e34 : aw_up w1 3 4 (n : Int) 3 4 = (n : Int) := up_in
  rw [e34]
  refine ⟨_, rfl, ⟨?_, d2, Or.inr hn, fun k hk => ?_, fun j hj => ?_, fun _ => ⟨hL, hI⟩⟩, ⟨?_, by omega, fun k hk => ?_⟩, fun s hs => ?_, ?_, ?_, up_in⟩
  · simp [aw_up]
  · simp [aw_up]
    rw [f1 5 k rfl, cpy_in rfl hk, cpy_out (by decide)]
    exact d5 k hk
  · simp [aw_up]
    rw [f1 4 j rfl, cpy_out (by decide), cpy_in rfl (by omega)]
    exact d4 j hj
  · simp [aw_up]
  · simp [aw_up]
    rw [f1 42 k rfl, cpy_out (by decide), cpy_out (by decide)]
    exact hb.2.2 k hk
  · simp [aw_up]
    exact t1 s hs
  · simp [aw_up]
  · simp [aw_up]
end RM
