/-! ===== pure: the reference's row of bids; gains on both sides ===== -/
def ms (w : aw_W) (n : Nat) (b : Nat → Int) : Prop := w 49 22 = n ∧ 1 ≤ n ∧ n ≤ 6 ∧ lwB w 56 ∧ ∀ s, s < n → w 64 s = b s
/-- a bid that may be -/
def bd (n : Nat) (b : Nat → Int) : Prop := ∀ s, s < n → 0 ≤ b s ∧ b s ≤ 9
section GN
variable {N : Nat} {w : aw_W} {n : Nat} {b : Nat → Int}
theorem ms_fr {v : aw_W} {S : List (Nat × Nat)} (h : ms w n b) (hf : fr_ S w v) (h1 : fr_in S 49 22 = false) (h2 : ∀ k, fr_in S 56 k = false) (h3 : ∀ k, fr_in S 64 k = false) : ms v n b := by
  obtain ⟨a, c, d, e, f⟩ := h
  refine ⟨by rw [hf 49 22 h1]; exact a, c, d, ?_, fun s hs => by rw [hf 64 s (h3 s)]; exact f s hs⟩
  unfold lwB at e ⊢
  simp only [hf 56 _ (h2 _)]
  exact e
theorem S_judge_ok : fr_in S_m_judge 49 22 = false ∧ (∀ k, fr_in S_m_judge 56 k = false) ∧ (∀ k, fr_in S_m_judge 64 k = false) := ⟨rfl, fun _ => rfl, fun _ => rfl⟩
theorem mj_judge_l : ∀ (f i : Nat) (w : aw_W), n - i < f → i ≤ n → ms w n b → (∀ s, s < i → w 60 s = 0 ∧ w 59 s = b s) → ∃ w', m_judge_2 N f i w = some w' ∧ ∀ s, s < n → w' 60 s = 0 ∧ w' 59 s = b s := by
  intro f
  induction f with
  | zero => intro i w h; omega
  | succ f ih =>
    intro i w hi hin hm hs
    obtain ⟨h0, h1, h2, h3, h4⟩ := id hm
    rw [m_judge_2, h0]
    by_cases c : (n : Int) ≤ (i : Int)
    · have : i = n := by omega
      subst this
      exact ⟨w, by rw [if_pos c]; rfl, hs⟩
    · rw [if_neg c, if_pos ⟨by omega, by omega⟩, if_pos ⟨by omega, by omega⟩, if_pos ⟨by omega, by omega⟩, Int.toNat_natCast, h4 i (by omega), ww1 (by omega)]
      refine ih (i + 1) _ (by omega) (by omega) ?_ (fun s hs2 => ?_)
      · exact ms_fr (S := S_m_judge) hm (((fr_r _ w).upA rfl).upA rfl) S_judge_ok.1 S_judge_ok.2.1 S_judge_ok.2.2
      · by_cases e : s = i
        · subst e
          simp [aw_up]
        · have := hs s (by omega)
          simp [aw_up, e]
          exact this
theorem mj_judge (hN : 10 ≤ N) (h : ms w n b) : ∃ w', m_judge N w = some w' ∧ ms w' n b ∧ mst w' n alT b (w 56 1) (w 56 0) ∧ fr_ S_m_judge w w' := by
  have hn := h.2.2.1
  obtain ⟨w', e, hs⟩ := mj_judge_l (N := N) N 0 w (by omega) (by omega) h (fun s hs => absurd hs (Nat.not_lt_zero s))
  have e' : m_judge N w = some w' := e
  have hf := f_m_judge N _ _ e'
  have hm := ms_fr h hf S_judge_ok.1 S_judge_ok.2.1 S_judge_ok.2.2
  refine ⟨w', e', hm, ⟨hm.1, hn, fun s hs2 => ⟨by rw [(hs s hs2).1]; rfl, (hs s hs2).2⟩, ?_, h.2.2.2.1.2.1, ?_, h.2.2.2.1.1.1, h.2.2.2.1.1.2⟩, hf⟩
  · exact hf 56 1 rfl
  · exact hf 56 0 rfl
theorem mj_isBefore (h : ms w n b) {k s : Nat} (hk : k < n) (hs : s < n) : m_isBefore N k s w = some (b2i (bf b k s), w) := by
  obtain ⟨h0, h1, h2, h3, h4⟩ := h
  have a1 : (0 : Int) ≤ (k : Int) ∧ (k : Int) < 6 := by omega
  have a2 : (0 : Int) ≤ (s : Int) ∧ (s : Int) < 6 := by omega
  rw [m_isBefore, if_pos a1, if_pos a2, Int.toNat_natCast, Int.toNat_natCast, h4 k hk, h4 s hs]
  by_cases c1 : b s < b k
  · have : bf b k s = true := bf_iff.mpr (Or.inl c1)
    rw [if_pos c1, this]
    simp [m_isBefore_35, m_isBefore_40, b2i]
  · rw [if_neg c1, if_pos a1, if_pos a2]
    by_cases c2 : b k = b s
    · rw [if_pos c2]
      by_cases c3 : (s : Int) ≤ (k : Int)
      · have : bf b k s = false := bf_no.mpr (by omega)
        rw [if_pos c3, this]
        simp [m_isBefore_39, m_isBefore_40, b2i]
      · have : bf b k s = true := bf_iff.mpr (Or.inr ⟨c2, by omega⟩)
        rw [if_neg c3, this]
        simp [m_isBefore_35, m_isBefore_40, b2i]
    · have : bf b k s = false := bf_no.mpr (by omega)
      rw [if_neg c2, this]
      simp [m_isBefore_39, m_isBefore_40, b2i]
/-- the side that is asked: ahead of s (1), behind it (else) -/
def sid (pd : Int) (b : Nat → Int) (k s : Nat) : Bool := if pd = 1 then bf b k s else bf b s k
/-- the best so far -/
def bst (pd : Int) (b : Nat → Int) (s i : Nat) (x : Int) : Prop := (x = -1 ∧ ∀ j, j < i → j ≠ s → sid pd b j s = false) ∨ ∃ j0 : Nat, x = j0 ∧ j0 < i ∧ j0 ≠ s ∧ sid pd b j0 s = true ∧ ∀ j, j < i → j ≠ s → sid pd b j s = true → j = j0 ∨ sid pd b j j0 = true
theorem b2i_iff (p : Bool) (pd : Int) : (if pd = 1 then b2i p = 1 else b2i p = 0) ↔ (if pd = 1 then p = true else p = false) := by
  cases p <;> simp [b2i]
theorem sid_bf {pd : Int} {k s : Nat} (h : k ≠ s) : (b2i (bf b k s) = if pd = 1 then 1 else 0) ↔ sid pd b k s = true := by
  unfold sid
  by_cases c : pd = 1
  · rw [if_pos c, if_pos c]
    cases bf b k s <;> simp [b2i]
  · rw [if_neg c, if_neg c]
    cases e : bf b k s with
    | true =>
      have := bf_asym e
      simp [b2i, this]
    | false =>
      have : bf b s k = true := (bf_tot (sc := b) h).resolve_left (by rw [e]; decide)
      simp [b2i, this]
theorem mj_paid_l (hm : ms w n b) {s : Nat} (hs : s < n) : ∀ (f i : Nat) (x : Int), n - i < f → i ≤ n → bst (w 56 2) b s i x → ∃ x', m_paidBy_20 N f s x i w = m_paidBy_97 N s x' w ∧ bst (w 56 2) b s n x' := by
  intro f
  induction f with
  | zero => intro i x h; omega
  | succ f ih =>
    intro i x hi hin hb
    obtain ⟨h0, h1, h2, h3, h4⟩ := id hm
    rw [m_paidBy_20, h0]
    by_cases c : (n : Int) ≤ (i : Int)
    · have : i = n := by omega
      subst this
      exact ⟨x, by rw [if_pos c], hb⟩
    · rw [if_neg c]
      have keep : bst (w 56 2) b s (i + 1) x → ∃ x', m_paidBy_91 N (m_paidBy_20 N f) s x i w = m_paidBy_97 N s x' w ∧ bst (w 56 2) b s n x' := by
        intro hb2
        rw [m_paidBy_91, ww1 (by omega)]
        exact ih (i + 1) x (by omega) (by omega) hb2
      have take : bst (w 56 2) b s (i + 1) (i : Int) → ∃ x', m_paidBy_89 N (m_paidBy_20 N f) s i w = m_paidBy_97 N s x' w ∧ bst (w 56 2) b s n x' := by
        intro hb2
        rw [m_paidBy_89, m_paidBy_91, ww1 (by omega)]
        exact ih (i + 1) i (by omega) (by omega) hb2
      by_cases e : i = s
      · subst e
        rw [if_pos rfl]
        refine keep ?_
        rcases hb with ⟨q1, q2⟩ | ⟨j0, q1, q2, q3, q4, q5⟩
        · exact Or.inl ⟨q1, fun j hj hne => q2 j (by omega) hne⟩
        · exact Or.inr ⟨j0, q1, by omega, q3, q4, fun j hj hne => q5 j (by omega) hne⟩
      · rw [if_neg (by omega), mj_isBefore hm (by omega) hs, b2_some]
        have go : (if w 56 2 = 1 then m_paidBy_54 N (m_paidBy_20 N f) s x i 1 (b2i (bf b i s)) w else m_paidBy_54 N (m_paidBy_20 N f) s x i 0 (b2i (bf b i s)) w) = m_paidBy_54 N (m_paidBy_20 N f) s x i (if w 56 2 = 1 then 1 else 0) (b2i (bf b i s)) w := by
          split <;> rfl
        rw [go, m_paidBy_54]
        by_cases cs : sid (w 56 2) b i s = true
        · rw [if_pos ((sid_bf e).mpr cs)]
          rcases hb with ⟨q1, q2⟩ | ⟨j0, q1, q2, q3, q4, q5⟩
          · rw [if_pos q1]
            refine take (Or.inr ⟨i, rfl, by omega, e, cs, fun j hj hne hsd => ?_⟩)
            by_cases ej : j = i
            · exact Or.inl ej
            · rw [q2 j (by omega) hne] at hsd
              cases hsd
          · subst q1
            have eij : i ≠ j0 := by omega
            rw [if_neg (by omega), mj_isBefore hm (by omega) (by omega), b2_some]
            have go2 : (if w 56 2 = 1 then m_paidBy_86 N (m_paidBy_20 N f) s j0 i 1 (b2i (bf b i j0)) w else m_paidBy_86 N (m_paidBy_20 N f) s j0 i 0 (b2i (bf b i j0)) w) = m_paidBy_86 N (m_paidBy_20 N f) s j0 i (if w 56 2 = 1 then 1 else 0) (b2i (bf b i j0)) w := by
              split <;> rfl
            rw [go2, m_paidBy_86]
            by_cases cj : sid (w 56 2) b i j0 = true
            · rw [if_pos ((sid_bf eij).mpr cj)]
              refine keep (Or.inr ⟨j0, rfl, by omega, q3, q4, fun j hj hne hsd => ?_⟩)
              by_cases ej : j = i
              · subst ej
                exact Or.inr cj
              · exact q5 j (by omega) hne hsd
            · rw [if_neg (fun z => cj ((sid_bf eij).mp z))]
              refine take (Or.inr ⟨i, rfl, by omega, e, cs, fun j hj hne hsd => ?_⟩)
              by_cases ej : j = i
              · exact Or.inl ej
              · refine Or.inr ?_
                have hj0 : sid (w 56 2) b j0 i = true := by
                  unfold sid at cj ⊢
                  split at cj
                  · next z => rw [if_pos z]; exact (bf_tot (sc := b) eij).resolve_left cj
                  · next z => rw [if_neg z]; exact (bf_tot (sc := b) eij).resolve_right cj
                rcases q5 j (by omega) hne hsd with q | q
                · rw [q]; exact hj0
                · unfold sid at q hj0 ⊢
                  split at q
                  · next z =>
                    rw [if_pos z] at hj0 ⊢
                    rw [bf_iff] at *
                    omega
                  · next z =>
                    rw [if_neg z] at hj0 ⊢
                    rw [bf_iff] at *
                    omega
        · rw [if_neg (fun z => cs ((sid_bf e).mp z))]
          refine keep ?_
          rcases hb with ⟨q1, q2⟩ | ⟨j0, q1, q2, q3, q4, q5⟩
          · refine Or.inl ⟨q1, fun j hj hne => ?_⟩
            by_cases ej : j = i
            · subst ej
              simpa using cs
            · exact q2 j (by omega) hne
          · refine Or.inr ⟨j0, q1, by omega, q3, q4, fun j hj hne hsd => ?_⟩
            by_cases ej : j = i
            · subst ej
              exact absurd hsd cs
            · exact q5 j (by omega) hne hsd
theorem mj_paidBy (hN : 10 ≤ N) (hm : ms w n b) {m : Nat} {F : Nat → Nat} (he : en n alT b m F) {s : Nat} (hs : s < n) : m_paidBy N s w = some (Pr (w 56 2) alT b n s, w) := by
  obtain ⟨h0, h1, h2, ⟨l0, l1, l2, l3, l4⟩, h4⟩ := id hm
  obtain ⟨a, ha, rfl⟩ := he.2.2.2 s hs rfl
  rw [Pr_at he ha, m_paidBy]
  by_cases c0 : w 56 2 = 0
  · rw [if_pos c0, if_pos c0, if_pos ⟨by omega, by omega⟩, Int.toNat_natCast, h4 _ hs]
  · rw [if_neg c0, if_neg c0]
    obtain ⟨x', e, hb⟩ := mj_paid_l (N := N) hm hs N 0 (-1) (by omega) (by omega) (Or.inl ⟨rfl, fun j hj => absurd hj (Nat.not_lt_zero j)⟩)
    show m_paidBy_20 N N ((F a : Nat) : Int) (-1) ((0 : Nat) : Int) w = _
    rw [e, m_paidBy_97]
    have side : ∀ c, c < m → c ≠ a → (sid (w 56 2) b (F c) (F a) = true ↔ if w 56 2 = 1 then c < a else a < c) := by
      intro c hc hne
      have f1 : ∀ p q, p < m → q < m → p ≠ q → (bf b (F p) (F q) = true ↔ p < q) := by
        intro p q hp hq hpq
        constructor
        · intro z
          rcases Nat.lt_trichotomy p q with t | t | t
          · exact t
          · exact absurd t hpq
          · have := bf_asym (he.2.2.1 q p t hp)
            rw [z] at this
            cases this
        · intro z
          exact he.2.2.1 p q z hq
      unfold sid
      split
      · exact f1 c a hc ha hne
      · exact f1 a c ha hc (Ne.symm hne)
    by_cases c1 : w 56 2 = 1
    · simp only [c1, if_true] at side ⊢
      rw [c1] at hb
      rcases hb with ⟨q1, q2⟩ | ⟨j0, q1, q2, q3, q4, q5⟩
      · rw [if_pos q1, if_pos ⟨by omega, by omega⟩, Int.toNat_natCast, h4 _ hs, m_paidBy_131]
        by_cases a0 : a = 0
        · rw [if_pos a0]
        · exfalso
          have t1 := (side (a - 1) (by omega) (by omega)).mpr (by omega)
          have t2 := q2 (F (a - 1)) (he.2.1 _ (by omega)).1 (en_inj he (a - 1) a (by omega) ha)
          rw [t2] at t1
          cases t1
      · obtain ⟨a0, ha0, rfl⟩ := he.2.2.2 j0 q2 rfl
        have hne : a0 ≠ a := fun z => q3 (by rw [z])
        have hlt := (side a0 ha0 hne).mp q4
        subst q1
        rw [if_neg (by omega), if_pos ⟨by omega, by omega⟩, Int.toNat_natCast, h4 _ q2, m_paidBy_131, if_neg (by omega)]
        have ea : a0 = a - 1 := by
          rcases Nat.lt_or_ge a0 (a - 1) with q | q
          · exfalso
            have t1 := (side (a - 1) (by omega) (by omega)).mpr (by omega)
            rcases q5 (F (a - 1)) (he.2.1 _ (by omega)).1 (en_inj he (a - 1) a (by omega) ha) t1 with z | z
            · exact en_inj he a0 (a - 1) q (by omega) z.symm
            · unfold sid at z
              rw [if_pos rfl] at z
              have := bf_asym (he.2.2.1 a0 (a - 1) q (by omega))
              rw [z] at this
              cases this
          · omega
        rw [ea]
    · simp only [c1, if_false] at side ⊢
      have c2 : w 56 2 = 2 := by omega
      rcases hb with ⟨q1, q2⟩ | ⟨j0, q1, q2, q3, q4, q5⟩
      · rw [if_pos q1, m_paidBy_131]
        by_cases a0 : a + 1 < m
        · exfalso
          have t1 := (side (a + 1) a0 (by omega)).mpr (by omega)
          have t2 := q2 (F (a + 1)) (he.2.1 _ a0).1 (fun z => en_inj he a (a + 1) (by omega) a0 z.symm)
          rw [t2] at t1
          cases t1
        · rw [if_neg a0]
      · obtain ⟨a0, ha0, rfl⟩ := he.2.2.2 j0 q2 rfl
        have hne : a0 ≠ a := fun z => q3 (by rw [z])
        have hlt := (side a0 ha0 hne).mp q4
        subst q1
        rw [if_neg (by omega), if_pos ⟨by omega, by omega⟩, Int.toNat_natCast, h4 _ q2, m_paidBy_131, if_pos (by omega)]
        have ea : a0 = a + 1 := by
          rcases Nat.lt_or_ge (a + 1) a0 with q | q
          · exfalso
            have t1 := (side (a + 1) (by omega) (by omega)).mpr (by omega)
            rcases q5 (F (a + 1)) (he.2.1 _ (by omega)).1 (fun z => en_inj he a (a + 1) (by omega) (by omega) z.symm) t1 with z | z
            · exact en_inj he (a + 1) a0 q ha0 z
            · unfold sid at z
              rw [if_neg c1] at z
              have := bf_asym (he.2.2.1 (a + 1) a0 q ha0)
              rw [z] at this
              cases this
          · omega
        rw [ea]
end GN
