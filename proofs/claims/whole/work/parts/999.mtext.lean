/-! ===== pure: text, in the reference ===== -/
section MTX
variable {N : Nat} {w v : aw_W} {tp : List Nat} {p k : Nat} {tx : Nat → List Nat} {S : List (Nat × Nat)}
theorem mt125 : ∀ (q f i : Nat) (w : aw_W), q < f → i + q = 24 → (∀ j, j < i → w 54 j = w 55 j) → ∃ w', m_text_125 N f i w = m_text_149 N w' ∧ (∀ j, j < 24 → w' 54 j = w 55 j) ∧ fr_ [(54, 1000000)] w w' := by
  intro q
  induction q with
  | zero =>
    intro f i w hf hi h
    obtain ⟨f, rfl⟩ : ∃ g, f = g + 1 := ⟨f - 1, by omega⟩
    rw [m_text_125, if_pos (by omega)]
    exact ⟨w, rfl, fun j hj => h j (by omega), fr_r _ _⟩
  | succ q ih =>
    intro f i w hf hi h
    obtain ⟨f, rfl⟩ : ∃ g, f = g + 1 := ⟨f - 1, by omega⟩
    have b : 0 ≤ (i : Int) ∧ (i : Int) < 24 := ⟨by omega, by omega⟩
    rw [m_text_125, if_neg (by omega), if_pos b, if_pos b, ww1 (by omega), Int.toNat_natCast]
    obtain ⟨w', a1, a2, a3⟩ := ih f (i + 1) (aw_up w 54 i (w 55 i)) (by omega) (by omega) (fun j hj => by
      by_cases e : j = i
      · subst e
        rw [up_in, up_out (Or.inl (by decide))]
      · rw [up_out (Or.inr e), up_out (Or.inl (by decide))]
        exact h j (by omega))
    exact ⟨w', a1, fun j hj => by rw [a2 j hj, up_out (Or.inl (by decide))], ((fr_r _ _).upA rfl).trans a3⟩
theorem mt151 : ∀ (q f i : Nat) (w : aw_W), q < f → i + q = 5 → (∀ j, j < i → w 56 j = w 57 j) → ∃ w', m_text_151 N f i w = m_text_174 N w' ∧ (∀ j, j < 5 → w' 56 j = w 57 j) ∧ fr_ [(56, 1000000)] w w' := by
  intro q
  induction q with
  | zero =>
    intro f i w hf hi h
    obtain ⟨f, rfl⟩ : ∃ g, f = g + 1 := ⟨f - 1, by omega⟩
    rw [m_text_151, if_pos (by omega)]
    exact ⟨w, rfl, fun j hj => h j (by omega), fr_r _ _⟩
  | succ q ih =>
    intro f i w hf hi h
    obtain ⟨f, rfl⟩ : ∃ g, f = g + 1 := ⟨f - 1, by omega⟩
    have b : 0 ≤ (i : Int) ∧ (i : Int) < 5 := ⟨by omega, by omega⟩
    rw [m_text_151, if_neg (by omega), if_pos b, if_pos b, ww1 (by omega), Int.toNat_natCast]
    obtain ⟨w', a1, a2, a3⟩ := ih f (i + 1) (aw_up w 56 i (w 57 i)) (by omega) (by omega) (fun j hj => by
      by_cases e : j = i
      · subst e
        rw [up_in, up_out (Or.inl (by decide))]
      · rw [up_out (Or.inr e), up_out (Or.inl (by decide))]
        exact h j (by omega))
    exact ⟨w', a1, fun j hj => by rw [a2 j hj, up_out (Or.inl (by decide))], ((fr_r _ _).upA rfl).trans a3⟩
theorem mt176 : ∀ (q f i : Nat) (w : aw_W), q < f → i + q = 6 → (∀ j, j < i → w 58 j = -1) → ∃ w', m_text_176 N f i w = m_text_195 N w' ∧ (∀ j, j < 6 → w' 58 j = -1) ∧ fr_ [(58, 1000000)] w w' := by
  intro q
  induction q with
  | zero =>
    intro f i w hf hi h
    obtain ⟨f, rfl⟩ : ∃ g, f = g + 1 := ⟨f - 1, by omega⟩
    rw [m_text_176, if_pos (by omega)]
    exact ⟨w, rfl, fun j hj => h j (by omega), fr_r _ _⟩
  | succ q ih =>
    intro f i w hf hi h
    obtain ⟨f, rfl⟩ : ∃ g, f = g + 1 := ⟨f - 1, by omega⟩
    rw [m_text_176, if_neg (by omega), if_pos ⟨by omega, by omega⟩, ww1 (by omega), Int.toNat_natCast]
    obtain ⟨w', a1, a2, a3⟩ := ih f (i + 1) (aw_up w 58 i (-1)) (by omega) (by omega) (fun j hj => by
      by_cases e : j = i
      · subst e
        rw [up_in]
      · rw [up_out (Or.inr e)]
        exact h j (by omega))
    exact ⟨w', a1, a2, ((fr_r _ _).upA rfl).trans a3⟩
/-- the land is entered, in the reference -/
theorem M_enter (hN : 200 ≤ N) {n : Nat} {hl : Bool} {fo fl : Nat → Int} (hd : MD w n hl fo fl) (hn : 2 ≤ n) (hL : LB fl) (hI : IB fo n) {m : Nat} {r : Nat → Nat} (hb : MB w m r) (h32 : w 49 32 = -1) : ∃ w', m_text_125 N N 0 (aw_up (aw_up w 49 6 0) 49 22 (w 49 23)) = some ((n : Int), w') ∧ ML w' n fl fo ∧ MB w' 0 r ∧ MU w' (fun _ => -1) ∧ w' 49 51 = 0 ∧ w' 49 6 = 0 ∧ fr_ [(49, 6), (49, 22), (49, 43), (49, 51), (54, 1000000), (56, 1000000), (58, 1000000)] w w' := by
  obtain ⟨d1, d2, d3, d4, d5⟩ := hd
  have f0 : fr_ [(49, 6), (49, 22)] w (aw_up (aw_up w 49 6 0) 49 22 (w 49 23)) := ((fr_r _ _).up rfl).up rfl
  have z22 : (aw_up (aw_up w 49 6 0) 49 22 (w 49 23)) 49 22 = (n : Int) := by rw [up_in]; exact d1
  have z6 : (aw_up (aw_up w 49 6 0) 49 22 (w 49 23)) 49 6 = 0 := by rw [up_out (Or.inr (by decide)), up_in]
  generalize aw_up (aw_up w 49 6 0) 49 22 (w 49 23) = w0 at f0 z22 z6 ⊢
  obtain ⟨w1, e1, t1, f1⟩ := mt125 (N := N) 24 N 0 w0 (by omega) (by omega) (fun j hj => absurd hj (Nat.not_lt_zero _))
  obtain ⟨w2, e2, t2, f2⟩ := mt151 (N := N) 5 N 0 w1 (by omega) (by omega) (fun j hj => absurd hj (Nat.not_lt_zero _))
  obtain ⟨w3, e3, t3, f3⟩ := mt176 (N := N) 6 N 0 w2 (by omega) (by omega) (fun j hj => absurd hj (Nat.not_lt_zero _))
  have e : m_text_125 N N 0 w0 = m_text_195 N w3 := by
    refine Eq.trans e1 ?_
    rw [m_text_149]
    refine Eq.trans e2 ?_
    rw [m_text_174]
    exact e3
  have z22' : w3 49 22 = (n : Int) := by rw [f3 49 22 rfl, f2 49 22 rfl, f1 49 22 rfl]; exact z22
  rw [e, m_text_195, z22']
  refine ⟨_, rfl, ⟨?_, d2, Or.inr hn, fun j hj => ?_, fun j hj => ?_, fun _ => ⟨hL, hI⟩⟩, ⟨?_, by omega, fun j hj => ?_⟩, ⟨fun j hj => ?_, ?_⟩, up_in, ?_, ?_⟩
  · rw [up_out (Or.inr (by decide)), up_out (Or.inr (by decide))]; exact z22'
  · rw [up_out (Or.inl (by decide)), up_out (Or.inl (by decide)), f3 56 j rfl, t2 j hj, f1 57 j rfl, f0 57 j rfl]; exact d5 j hj
  · rw [up_out (Or.inl (by decide)), up_out (Or.inl (by decide)), f3 54 j rfl, f2 54 j rfl, t1 j (by omega), f0 55 j rfl]; exact d4 j hj
  · rw [up_out (Or.inr (by decide)), up_in]; rfl
  · rw [up_out (Or.inl (by decide)), up_out (Or.inl (by decide)), f3 69 j rfl, f2 69 j rfl, f1 69 j rfl, f0 69 j rfl]; exact hb.2.2 j hj
  · rw [up_out (Or.inl (by decide)), up_out (Or.inl (by decide))]; exact t3 j hj
  · rw [up_out (Or.inr (by decide)), up_out (Or.inr (by decide)), f3 49 32 rfl, f2 49 32 rfl, f1 49 32 rfl, f0 49 32 rfl]; exact h32
  · rw [up_out (Or.inr (by decide)), up_out (Or.inr (by decide)), f3 49 6 rfl, f2 49 6 rfl, f1 49 6 rfl]; exact z6
  · exact ((((fr_m rfl f0).trans (fr_m rfl f1)).trans ((fr_m rfl f2).trans (fr_m rfl f3))).up rfl).up rfl
/-- the tape becomes a rule's text -/
theorem mt56 (hk : k < 4) (htk : tpk tp) : ∀ (q F i : Nat) (w : aw_W), q < F → i + q = tp.length → w 49 7 = (k : Int) → (∀ j, j < tp.length → w 50 j = sg (gb tp j)) → (∀ j, j < i → w 51 (160 * k + j) = sg (gb tp j)) → ∃ w', m_text_56 N F (tp.length : Int) i w = m_text_88 N (tp.length : Int) w' ∧ (∀ j, j < tp.length → w' 51 (160 * k + j) = sg (gb tp j)) ∧ (∀ j, j < 160 * k → w' 51 j = w 51 j) ∧ fr_ [(51, 1000000)] w w' := by
  intro q
  induction q with
  | zero =>
    intro F i w hF hi h7 h50 h51
    obtain ⟨F, rfl⟩ : ∃ g, F = g + 1 := ⟨F - 1, by omega⟩
    rw [m_text_56, if_pos (by omega)]
    exact ⟨w, rfl, fun j hj => h51 j (by omega), fun _ _ => rfl, fr_r _ _⟩
  | succ q ih =>
    intro F i w hF hi h7 h50 h51
    obtain ⟨F, rfl⟩ : ∃ g, F = g + 1 := ⟨F - 1, by omega⟩
    have h160 := htk.1
    have hb := gb_in htk (p := i) (by omega)
    rw [m_text_56, if_neg (by omega), if_pos ⟨by omega, by omega⟩, h7, ww (x := 160 * (k : Int)) (by omega) (by omega), ww (x := 160 * (k : Int) + (i : Int)) (by omega) (by omega), if_pos ⟨by omega, by omega⟩, Int.toNat_natCast, h50 i (by omega), if_pos (sg_rng (by omega)), ww1 (by omega), show (160 * (k : Int) + (i : Int)).toNat = 160 * k + i by omega]
    obtain ⟨w', a1, a2, a3, a4⟩ := ih F (i + 1) (aw_up w 51 (160 * k + i) (sg (gb tp i))) (by omega) (by omega) (by rw [up_out (Or.inl (by decide))]; exact h7) (fun j hj => by rw [up_out (Or.inl (by decide))]; exact h50 j hj) (fun j hj => by
      by_cases e : j = i
      · subst e
        rw [up_in]
      · rw [up_out (Or.inr (by omega))]
        exact h51 j (by omega))
    exact ⟨w', a1, a2, fun j hj => by rw [a3 j hj, up_out (Or.inr (by omega))], ((fr_r _ _).upA rfl).trans a4⟩
theorem M_text (hN : 200 ≤ N) (h : MT w tp) (hr : RM w k tx) {m : Nat} {r : Nat → Nat} (hb : MB w m r) (h32 : w 49 32 = -1) {x : Int} : ∃ w', m_text N x w = some (a_text tp k x, w') ∧ (tA tp x = true → ML w' (pldT tp).2.1 (pldT tp).2.2.2 (pldT tp).2.2.1 ∧ MB w' 0 r ∧ MU w' (fun _ => -1) ∧ w' 49 51 = 0 ∧ MT w' [] ∧ RM w' k tx) ∧ (tA tp x = false → tB tp k x = true → RM w' (k + 1) (updt tx k tp) ∧ MT w' [] ∧ fr_ ([(49, 6), (49, 7), (51, 1000000), (52, 1000000)] ++ S_m_fault) w w') ∧ (tA tp x = false → tB tp k x = false → fr_ S_m_fault w w') := by
  have h160 := h.2.1.1
  have mt0 : ∀ {w' : aw_W}, w' 49 6 = 0 → MT w' [] := fun hz => ⟨hz, ⟨by decide, fun b hb => absurd hb (by simp)⟩, fun j hj => absurd hj (Nat.not_lt_zero _)⟩
  have fth : fr_ S_m_fault w (aw_up w 49 0 0) := (fr_r _ _).up rfl
  unfold a_text
  rw [m_text, m_isIn_ok, b2_some]
  by_cases c : 0 ≤ x ∧ x ≤ 1
  · rw [if_neg (fun z => (b2i_and.mp z) c)]
    obtain ⟨w1, e1, d1⟩ := M_fault (N := N) hN h.th (x := x)
    have f1 := f_m_fault N _ _ _ _ e1
    have fA : fr_ S_m_fault w w1 := fth.trans f1
    by_cases c0 : x = 0
    · have hB : tB tp k x = false := decide_eq_false (by omega)
      have ea : a_fault tp x = (pldT tp).1 := by unfold a_fault; rw [if_pos c0]
      rw [if_neg (by omega), m_text_28, e1, b2_some, ea]
      by_cases z : (pldT tp).1 = -1
      · have hA : tA tp x = true := decide_eq_true ⟨c0, z⟩
        obtain ⟨hl', md⟩ := d1 c0 z
        obtain ⟨r1, r2, r3, r4⟩ := pldT_rng z
        obtain ⟨w2, e2, q1, q2, q3, q4, q5, f2⟩ := M_enter (N := N) hN md r1 r3 r4 (hb.fr fA rfl) (by rw [fA 49 32 rfl]; exact h32)
        rw [if_pos z, if_neg (by omega), hA, if_pos rfl]
        refine ⟨w2, e2, fun _ => ⟨q1, q2, q3, q4, mt0 q5, ?_⟩, fun q => absurd q (by decide), fun q => absurd q (by decide)⟩
        exact (hr.fr fA rfl).fr f2 rfl
      · have hA : tA tp x = false := decide_eq_false (fun q => z q.2)
        rw [if_neg z, hA, hB, if_neg (by decide), if_neg (by decide)]
        exact ⟨w1, rfl, fun q => absurd q (by decide), fun _ q => absurd q (by decide), fun _ _ => fA⟩
    · have hA : tA tp x = false := decide_eq_false (fun q => c0 q.1)
      have c1 : x = 1 := by omega
      have ea : a_fault tp x = (prlT tp).1 := by unfold a_fault; rw [if_neg c0, if_pos c1]
      have e7 : aw_up w 49 0 0 49 7 = (k : Int) := by rw [up_out (Or.inr (by decide))]; exact hr.1
      rw [if_pos c1, hA, if_neg (show ¬ (false = true) by decide), e7]
      by_cases c4 : k < 4
      · rw [if_neg (by omega), m_text_28, e1, b2_some, ea]
        by_cases z : (prlT tp).1 = -1
        · have hB : tB tp k x = true := decide_eq_true ⟨c1, c4, z⟩
          have ht1 := h.fr fA rfl
          have hr1 := hr.fr fA rfl
          have fu : fr_ [(49, 6)] w1 (aw_up w1 49 6 0) := (fr_r _ _).up rfl
          obtain ⟨w2, e2, t2, u2, f2⟩ := mt56 (N := N) (k := k) c4 h.2.1 tp.length N 0 (aw_up w1 49 6 0) (by omega) (by omega) (by rw [fu 49 7 rfl]; exact hr1.1) (fun j hj => by rw [fu 50 j rfl]; exact ht1.2.2 j hj) (fun j hj => absurd hj (Nat.not_lt_zero _))
          have e2' : m_text_56 N N (tp.length : Int) 0 (aw_up w1 49 6 0) = m_text_88 N (tp.length : Int) w2 := e2
          have z7 : w2 49 7 = (k : Int) := by rw [f2 49 7 rfl, fu 49 7 rfl]; exact hr1.1
          rw [if_pos z, if_pos c1, ht1.1, e2', m_text_88, z7, if_pos ⟨by omega, by omega⟩, ww1 (by omega), ww2 (by omega), Int.toNat_natCast, hB, if_pos rfl]
          have fB : fr_ [(49, 6), (49, 7), (51, 1000000), (52, 1000000)] w1 (aw_up (aw_up w2 52 k (tp.length : Int)) 49 7 ((k + 1 : Nat) : Int)) := (((fr_m rfl fu).trans (fr_m rfl f2)).upA rfl).up rfl
          refine ⟨_, rfl, fun q => absurd q (by decide), fun _ _ => ⟨⟨up_in, by omega, fun q hq => ?_⟩, mt0 ?_, (fr_m rfl fA).trans (fr_m rfl fB)⟩, fun _ q => absurd q (by decide)⟩
          · unfold updt
            by_cases y : q = k
            · subst y
              rw [if_pos rfl]
              exact ⟨⟨h.2.1, z⟩, fun j hj => by rw [up_out (Or.inl (by decide)), up_out (Or.inl (by decide))]; exact t2 j hj, by rw [up_out (Or.inl (by decide)), up_in]⟩
            · rw [if_neg y]
              obtain ⟨a, b, d⟩ := hr1.2.2 q (by omega)
              have hl := a.1.1
              exact ⟨a, fun j hj => by rw [up_out (Or.inl (by decide)), up_out (Or.inl (by decide)), u2 _ (by omega), fu 51 _ rfl]; exact b j hj, by rw [up_out (Or.inl (by decide)), up_out (Or.inr y), f2 52 _ rfl, fu 52 _ rfl]; exact d⟩
          · rw [up_out (Or.inr (by decide)), up_out (Or.inl (by decide)), f2 49 6 rfl, up_in]
        · have hB : tB tp k x = false := decide_eq_false (fun q => z q.2.2)
          rw [if_neg z, hB, if_neg (by decide)]
          exact ⟨w1, rfl, fun q => absurd q (by decide), fun _ q => absurd q (by decide), fun _ _ => fA⟩
      · have hk4 := hr.2.1
        have hB : tB tp k x = false := decide_eq_false (fun q => c4 q.2.1)
        rw [if_pos (by omega), hB, if_neg (by decide)]
        exact ⟨_, rfl, fun q => absurd q (by decide), fun _ q => absurd q (by decide), fun _ _ => fth⟩
  · have hA : tA tp x = false := decide_eq_false (by omega)
    have hB : tB tp k x = false := decide_eq_false (by omega)
    rw [if_pos (b2i_and.mpr c), hA, hB, if_neg (by decide), if_neg (by decide)]
    exact ⟨_, rfl, fun q => absurd q (by decide), fun _ q => absurd q (by decide), fun _ _ => fth⟩
end MTX
