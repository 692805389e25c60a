/-! ===== pure: rules kept, fault, text ===== -/
def rok3 (t : List Nat) : Prop := tpk t ∧ (prlT t).1 = -1
def RX (w : aw_W) (k : Nat) (tx : Nat → List Nat) : Prop := w 11 6 = (k : Int) ∧ k ≤ 4 ∧ ∀ r, r < k → rok3 (tx r) ∧ (∀ j, j < (prlT (tx r)).2.1.length → w 12 (160 * r + j) = (prlT (tx r)).2.1.getD j 0) ∧ w 13 r = ((prlT (tx r)).2.1.length : Int)
def RM (w : aw_W) (k : Nat) (tx : Nat → List Nat) : Prop := w 49 7 = (k : Int) ∧ k ≤ 4 ∧ ∀ r, r < k → rok3 (tx r) ∧ (∀ j, j < (tx r).length → w 51 (160 * r + j) = sg (gb (tx r) j)) ∧ w 52 r = ((tx r).length : Int)
def evt (tx : Nat → List Nat) : Nat → (Nat → Int) → Int := fun r L => (prlT (tx r)).2.2 L
section TX
variable {N : Nat} {w v : aw_W} {tp : List Nat} {p k : Nat} {tx : Nat → List Nat} {S : List (Nat × Nat)}
theorem RX.fr (h : RX w k tx) (hf : fr_ S w v) (ha : avd S P_RX = true) : RX v k tx := ⟨by rw [avd_fr ha hf rfl]; exact h.1, h.2.1, fun r hr => by
  obtain ⟨a, b, c⟩ := h.2.2 r hr
  exact ⟨a, fun j hj => by rw [avd_fr ha hf (fr_inA rfl _)]; exact b j hj, by rw [avd_fr ha hf (fr_inA rfl _)]; exact c⟩⟩
theorem RM.fr (h : RM w k tx) (hf : fr_ S w v) (ha : avd S P_RM = true) : RM v k tx := ⟨by rw [avd_fr ha hf rfl]; exact h.1, h.2.1, fun r hr => by
  obtain ⟨a, b, c⟩ := h.2.2 r hr
  exact ⟨a, fun j hj => by rw [avd_fr ha hf (fr_inA rfl _)]; exact b j hj, by rw [avd_fr ha hf (fr_inA rfl _)]; exact c⟩⟩
theorem prl_len : ∀ (f p : Nat), p ≤ tp.length → (prl tp f p).1 = -1 → (prl tp f p).2.1.length + p ≤ tp.length
  | 0, p, hp, h => by
    have h' : (p : Int) = -1 := h
    omega
  | f + 1, p, hp, h => by
    obtain ⟨a1, a2, a3⟩ := pcz_ok (tp := tp) hp
    rw [prl_s] at h ⊢
    have ih := prl_len f (sk tp (pcz tp p).2.1 + 1)
    generalize pcz tp p = R at h a1 a2 a3 ih ⊢
    have hk := sk_le a2
    cases hR : R.1 with
    | false =>
      rw [hR, if_pos rfl] at h
      have h' : (R.2.1 : Int) = -1 := h
      omega
    | true =>
      have a5 := a3 hR
      rw [hR, if_neg (by decide)] at h
      rw [if_neg (by decide)]
      by_cases c : gb tp (sk tp R.2.1) = 59
      · have hl := gb_lt c (by decide)
        rw [if_pos c] at h ⊢
        have := ih (by omega) h
        show (R.2.2.1 ++ (prl tp f (sk tp R.2.1 + 1)).2.1).length + p ≤ tp.length
        rw [List.length_append]
        omega
      · rw [if_neg c] at h ⊢
        by_cases c2 : gb tp (sk tp R.2.1) = 0
        · rw [if_pos c2]
          show R.2.2.1.length + p ≤ tp.length
          omega
        · rw [if_neg c2] at h
          have h' : (sk tp R.2.1 : Int) = -1 := h
          omega
theorem RX.ev (hN : 200 ≤ N) (h : RX w k tx) : evX N w k (evt tx) := by
  refine ⟨h.1, h.2.1, fun v hv r hr L hL hl => ?_⟩
  obtain ⟨⟨t1, t2⟩, b, c⟩ := h.2.2 r hr
  have hk4 := h.2.1
  have hlen := prl_len (tp := tx r) ((tx r).length + 1) 0 (Nat.zero_le _) t2
  have h160 := t1.1
  refine X_worth hN (tp := tx r) (k := k) (by rw [hv 11 6 rfl]; exact h.1) hr hL t2 ⟨fun j hj => by rw [hv 12 _ (fr_inA rfl _)]; exact b j hj, by rw [hv 13 _ (fr_inA rfl _)]; exact c, by omega, ?_, hl⟩
  show (prl (tx r) ((tx r).length + 1) 0).2.1.length ≤ 160
  omega
theorem RM.ev (hN : 200 ≤ N) (h : RM w k tx) : evM N w k (evt tx) := by
  refine ⟨h.1, h.2.1, fun v hv r hr L hL hl => ?_⟩
  obtain ⟨⟨t1, t2⟩, b, c⟩ := h.2.2 r hr
  have hk4 := h.2.1
  have h160 := t1.1
  have v52 : v 52 r = ((tx r).length : Int) := by rw [hv 52 _ (fr_inA rfl _)]; exact c
  rw [m_goThrough, m_opens, b1_some, v52]
  generalize hw1 : aw_up (aw_up (aw_up (aw_up (aw_up (aw_up (aw_up (aw_up (aw_up v 49 5 51) 49 8 ((160 * r : Nat) : Int)) 49 9 ((tx r).length : Int)) 49 10 0) 49 11 (-1)) 49 13 121) 49 12 0) 49 17 0) 49 14 0 = w1
  have hm : MP w1 51 (160 * r) (tx r) 0 := by
    rw [← hw1]
    refine ⟨?_, ?_, ?_, ?_, Nat.zero_le _, t1, fun j hj => ?_, Or.inr ⟨rfl, by omega⟩⟩
    · simp [aw_up]
    · simp [aw_up]
    · simp [aw_up]
    · simp [aw_up]
    · simp [aw_up]
      rw [hv 51 _ (fr_inA rfl _)]
      exact b j hj
  obtain ⟨w2, e2, x2, y2⟩ := mgt_m_goThrough (N := N) (tp := tx r) (B := 51) (o := 160 * r) hN ((tx r).length + 1) 0 N w1 (by omega) (by omega) (Nat.zero_le _) hm (by rw [← hw1]; simp [aw_up]) (by rw [← hw1]; simp [aw_up]) (by rw [← hw1]; simp [aw_up]) (Or.inl (by rw [← hw1]; simp [aw_up]))
  refine ⟨w2, e2, ?_⟩
  exact (y2 t2).2 (by rw [← hw1]; simp [aw_up]) (by rw [← hw1]; simp [aw_up]) L hL (fun j hj => by rw [← hw1]; simp [aw_up]; exact hl j hj)
/-! fault -/
def a_fault (tp : List Nat) (x : Int) : Int := if x = 0 then (pldT tp).1 else if x = 1 then (prlT tp).1 else -2
theorem X_fault (hN : 200 ≤ N) (h : XT w tp) {x : Int} : ∃ w', x_fault N x w = some (a_fault tp x, w') := by
  unfold a_fault
  rw [x_fault]
  by_cases c0 : x = 0
  · obtain ⟨w1, e1, -⟩ := X_readLand (N := N) hN h
    rw [if_pos c0, if_pos c0, e1, b2_some]
    exact ⟨w1, rfl⟩
  · rw [if_neg c0, if_neg c0]
    by_cases c1 : x = 1
    · obtain ⟨w1, e1, -⟩ := X_readRule (N := N) hN h
      rw [if_pos c1, if_pos c1, e1, b2_some]
      exact ⟨w1, rfl⟩
    · rw [if_neg c1, if_neg c1]
      exact ⟨w, rfl⟩
theorem M_gt50 (hN : 200 ≤ N) (h : MT w tp) : ∃ w', m_goThrough_49_50 N 0 (w 49 6) w = some w' ∧ w' 49 11 = (prlT tp).1 := by
  have h160 := h.2.1.1
  rw [m_goThrough_49_50, m_opens_49_50, b1_some, h.1]
  generalize hw1 : aw_up (aw_up (aw_up (aw_up (aw_up (aw_up (aw_up (aw_up (aw_up w 49 5 50) 49 8 0) 49 9 (tp.length : Int)) 49 10 0) 49 11 (-1)) 49 13 121) 49 12 0) 49 17 0) 49 14 0 = w1
  have hm : MP w1 50 0 tp 0 := by
    rw [← hw1]
    refine ⟨?_, ?_, ?_, ?_, Nat.zero_le _, h.2.1, fun j hj => ?_, Or.inl ⟨rfl, by omega⟩⟩
    · simp [aw_up]
    · simp [aw_up]
    · simp [aw_up]
    · simp [aw_up]
    · rw [Nat.zero_add]
      simp [aw_up]
      exact h.2.2 j hj
  obtain ⟨w2, e2, x2, y2⟩ := mgt_m_goThrough_49_50 (N := N) (tp := tp) (B := 50) (o := 0) hN (tp.length + 1) 0 N w1 (by omega) (by omega) (Nat.zero_le _) hm (by rw [← hw1]; simp [aw_up]) (by rw [← hw1]; simp [aw_up]) (by rw [← hw1]; simp [aw_up]) (Or.inl (by rw [← hw1]; simp [aw_up]))
  exact ⟨w2, e2, x2⟩
/-- .. and what stands then, if a land was well -/
theorem M_fault (hN : 200 ≤ N) (h : MT w tp) {x : Int} : ∃ w', m_fault N x w = some (a_fault tp x, w') ∧ (x = 0 → (pldT tp).1 = -1 → ∃ hl', MD w' (pldT tp).2.1 hl' (pldT tp).2.2.1 (pldT tp).2.2.2) := by
  unfold a_fault
  have h0 := h.th
  rw [m_fault, m_isIn_ok, b2_some]
  by_cases c : 0 ≤ x ∧ x ≤ 1
  · rw [if_neg (fun z => (b2i_and.mp z) c)]
    by_cases c0 : x = 0
    · obtain ⟨w1, e1, x1, d1, f1⟩ := M_readLand (N := N) hN h0
      rw [if_pos c0, if_pos c0, e1, b1_some, m_fault_42, x1]
      exact ⟨w1, rfl, fun _ z => d1 z⟩
    · obtain ⟨w1, e1, x1⟩ := M_gt50 (N := N) hN h0
      rw [if_neg c0, if_neg c0, if_pos (by omega), e1, b1_some, m_fault_42, x1]
      exact ⟨w1, rfl, fun z => absurd z c0⟩
  · rw [if_pos (b2i_and.mpr c), if_neg (by omega), if_neg (by omega)]
    exact ⟨_, rfl, fun z => absurd z (by omega)⟩
/-! text -/
def tA (tp : List Nat) (x : Int) : Bool := decide (x = 0 ∧ (pldT tp).1 = -1)
def tB (tp : List Nat) (k : Nat) (x : Int) : Bool := decide (x = 1 ∧ k < 4 ∧ (prlT tp).1 = -1)
def a_text (tp : List Nat) (k : Nat) (x : Int) : Int := if tA tp x then ((pldT tp).2.1 : Int) else if tB tp k x then (k : Int) else -1
def updt (tx : Nat → List Nat) (k : Nat) (t : List Nat) : Nat → List Nat := fun j => if j = k then t else tx j
theorem X_keep (h : RX w k tx) (hk : k < 4) (ht : rok3 tp) (hc : XC w (prlT tp).2.1) (hl : (prlT tp).2.1.length ≤ 160) : ∃ w', x_Rules_keep N w = some ((k : Int), w') ∧ RX w' (k + 1) (updt tx k tp) ∧ fr_ S_x_Rules_keep w w' := by
  obtain ⟨h1, h2, h3⟩ := h
  have ew : aw_w ((k : Int) * 160) = ((160 * k : Nat) : Int) := by rw [ww (by omega) (by omega)]; omega
  have e : x_Rules_keep N w = some ((k : Int), aw_up (aw_up (aw_cpy (w 14) w 12 0 (160 * k) (prlT tp).2.1.length) 13 k ((prlT tp).2.1.length : Int)) 11 6 ((k + 1 : Nat) : Int)) := by
    rw [x_Rules_keep, h1, if_pos (by omega), hc.1, ew, if_pos ⟨by omega, by omega, by omega, by omega, by omega⟩, if_pos ⟨by omega, by omega⟩, ww1 (by omega), ww2 (by omega), Int.toNat_natCast, Int.toNat_natCast, Int.toNat_natCast]
  refine ⟨_, e, ⟨up_in, by omega, fun r hr => ?_⟩, f_x_Rules_keep N _ _ _ e⟩
  unfold updt
  by_cases z : r = k
  · subst z
    rw [if_pos rfl]
    refine ⟨ht, fun j hj => ?_, ?_⟩
    · rw [up_out (Or.inl (by decide)), up_out (Or.inl (by decide))]
      unfold aw_cpy
      rw [if_pos ⟨rfl, by omega, by omega⟩, show 0 + (160 * r + j - 160 * r) = j by omega]
      exact hc.2 j hj
    · rw [up_out (Or.inl (by decide)), up_in]
  · rw [if_neg z]
    obtain ⟨a, b, c⟩ := h3 r (by omega)
    have hlen := prl_len (tp := tx r) ((tx r).length + 1) 0 (Nat.zero_le _) a.2
    have h160 := a.1.1
    have hlen' : (prlT (tx r)).2.1.length ≤ 160 := by show (prl (tx r) ((tx r).length + 1) 0).2.1.length ≤ 160; omega
    refine ⟨a, fun j hj => ?_, ?_⟩
    · rw [up_out (Or.inl (by decide)), up_out (Or.inl (by decide))]
      unfold aw_cpy
      rw [if_neg (by omega)]
      exact b j hj
    · rw [up_out (Or.inl (by decide)), up_out (Or.inr z)]
      unfold aw_cpy
      rw [if_neg (fun q => absurd q.1 (by decide))]
      exact c
theorem X_text (hN : 200 ≤ N) (h : XT w tp) (hr : RX w k tx) {m : Nat} {r : Nat → Nat} (hb : XB w m r) {x : Int} : ∃ w', x_text N x w = some (a_text tp k x, w') ∧ (tA tp x = true → XL w' (pldT tp).2.1 (pldT tp).2.2.2 (pldT tp).2.2.1 ∧ XB w' 0 r ∧ XU w' (fun _ => -1) ∧ w' 0 14 = 0 ∧ w' 23 4 = 0 ∧ XT w' [] ∧ RX w' k tx) ∧ (tA tp x = false → tB tp k x = true → RX w' (k + 1) (updt tx k tp) ∧ XT w' [] ∧ fr_ [(1, 1), (1, 2), (11, 5), (11, 6), (12, 1000000), (13, 1000000), (14, 1000000)] w w') ∧ (tA tp x = false → tB tp k x = false → fr_ S_x_fault w w') := by
  have h160 := h.2.1.1
  have xt0 : ∀ {w' : aw_W}, w' 1 1 = 0 → XT w' [] := fun hz => ⟨hz, ⟨by decide, fun b hb => absurd hb (by simp)⟩, fun j hj => absurd hj (Nat.not_lt_zero _)⟩
  unfold a_text
  rw [x_text]
  by_cases c0 : x = 0
  · have hB : tB tp k x = false := decide_eq_false (by omega)
    obtain ⟨w1, e1, d1, f1⟩ := X_readLand (N := N) hN h
    rw [if_pos c0, e1, b2_some]
    by_cases z : (pldT tp).1 = -1
    · have hA : tA tp x = true := decide_eq_true ⟨c0, z⟩
      obtain ⟨hl', xd⟩ := d1 z
      obtain ⟨r1, r2, r3, r4⟩ := pldT_rng z
      obtain ⟨w2, e2, q1, q2, q3, q4, q5, q6⟩ := X_enterLand (N := N) hN xd r1 r3 r4 (hb.fr f1 rfl)
      have f2 := f_x_enterLand N _ _ _ e2
      rw [if_pos z, e2, b2_some, hA, if_pos rfl]
      exact ⟨w2, rfl, fun _ => ⟨q1, q2, q3, q4, q5, xt0 q6, (hr.fr f1 rfl).fr f2 rfl⟩, fun q => absurd q (by decide), fun q => absurd q (by decide)⟩
    · have hA : tA tp x = false := decide_eq_false (fun q => z q.2)
      rw [if_neg z, hA, hB, if_neg (by decide), if_neg (by decide), x_text_24, if_neg (by omega)]
      exact ⟨w1, rfl, fun q => absurd q (by decide), fun _ q => absurd q (by decide), fun _ _ => fr_m rfl f1⟩
  · have hA : tA tp x = false := decide_eq_false (fun q => c0 q.1)
    rw [if_neg c0, hA, if_neg (by decide), x_text_24]
    by_cases c1 : x = 1
    · rw [if_pos c1, hr.1]
      by_cases c4 : k < 4
      · obtain ⟨w1, e1, d1, f1⟩ := X_readRule (N := N) hN h
        rw [if_neg (by omega), e1, b2_some]
        by_cases z : (prlT tp).1 = -1
        · have hB : tB tp k x = true := decide_eq_true ⟨c1, c4, z⟩
          have hlen := prl_len (tp := tp) (tp.length + 1) 0 (Nat.zero_le _) z
          have hlen' : (prlT tp).2.1.length ≤ 160 := by show (prl tp (tp.length + 1) 0).2.1.length ≤ 160; omega
          have fu : fr_ [(1, 1)] w1 (aw_up w1 1 1 0) := (fr_r _ _).up rfl
          obtain ⟨w2, e2, q1, f2⟩ := X_keep (N := N) (tp := tp) (w := aw_up w1 1 1 0) ((hr.fr f1 rfl).fr fu rfl) c4 ⟨h.2.1, z⟩ ((d1 z).fr fu rfl) hlen'
          rw [if_pos z, e2, b2_some, hB, if_pos rfl]
          exact ⟨w2, rfl, fun q => absurd q (by decide), fun _ _ => ⟨q1, xt0 (by rw [f2 1 1 rfl, up_in]), (fr_m rfl f1).trans ((fr_m rfl fu).trans (fr_m rfl f2))⟩, fun _ q => absurd q (by decide)⟩
        · have hB : tB tp k x = false := decide_eq_false (fun q => z q.2.2)
          rw [if_neg z, hB, if_neg (by decide)]
          exact ⟨w1, rfl, fun q => absurd q (by decide), fun _ q => absurd q (by decide), fun _ _ => fr_m rfl f1⟩
      · have hB : tB tp k x = false := decide_eq_false (fun q => c4 q.2.1)
        rw [if_pos (by omega), hB, if_neg (by decide)]
        exact ⟨w, rfl, fun q => absurd q (by decide), fun _ q => absurd q (by decide), fun _ _ => fr_r _ _⟩
    · have hB : tB tp k x = false := decide_eq_false (fun q => c1 q.1)
      rw [if_neg c1, hB, if_neg (by decide)]
      exact ⟨w, rfl, fun q => absurd q (by decide), fun _ q => absurd q (by decide), fun _ _ => fr_r _ _⟩
end TX
