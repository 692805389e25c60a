/-! ===== pure: what comes of a row of bids, in the class ===== -/
theorem b2_some {α : Type} (x : Int) (w : aw_W) (k : Int → aw_W → Option α) : aw_b2 (some (x, w)) k = k x w := rfl
theorem b1_some {α : Type} (w : aw_W) (k : aw_W → Option α) : aw_b1 (some w) k = k w := rfl
def alT : Nat → Bool := fun _ => true
def lwB (w : aw_W) (c : Nat) : Prop := (1 ≤ w c 0 ∧ w c 0 ≤ 6) ∧ (w c 1 = 0 ∨ w c 1 = 1) ∧ (0 ≤ w c 2 ∧ w c 2 ≤ 2) ∧ (0 ≤ w c 3 ∧ w c 3 ≤ 99) ∧ (0 ≤ w c 4 ∧ w c 4 ≤ 9)
/-- the class has a land of n strivers and the row b -/
def xs (w : aw_W) (n : Nat) (b : Nat → Int) : Prop := w 3 4 = n ∧ 1 ≤ n ∧ n ≤ 6 ∧ lwB w 5 ∧ ∀ s, s < n → w 21 s = b s
def pop (a : Nat) : Int := (((List.range 6).filter a.testBit).length : Int)
def bcx (x : Int) : Int := ((j_Int_bitCount 0 x (fun _ _ => 0)).map Prod.fst).getD 0
theorem bc_x (N : Nat) (x : Int) (w : aw_W) : j_Int_bitCount N x w = some (bcx x, w) := rfl
theorem bcx_pop : ∀ a : Nat, a < 64 → bcx (a : Int) = pop a := by decide +kernel
theorem bc_ok (N : Nat) {a : Nat} (h : a < 64) (w : aw_W) : j_Int_bitCount N (a : Int) w = some (pop a, w) := by rw [bc_x, bcx_pop a h]
theorem pop_one : ∀ a : Nat, a < 64 → ∀ s : Nat, s < 6 → a.testBit s = true → (pop a = 1 ↔ a = 2 ^ s) := by decide +kernel
theorem pop_one' : ∀ a : Nat, a < 64 → pop a ≠ 1 → ∀ s : Nat, s < 6 → a ≠ 2 ^ s := by decide +kernel
theorem pop_rng : ∀ a : Nat, a < 64 → 0 ≤ pop a ∧ pop a ≤ 6 := by decide +kernel
/-- the one who is first, if it is one -/
def One (a n : Nat) : Int := match (List.range n).find? (fun s => decide (a = 2 ^ s)) with
  | some s => (s : Int)
  | none => -1
theorem One_some {a n s : Nat} (hs : s < n) (h : a = 2 ^ s) : One a n = s := by
  unfold One
  cases e : (List.range n).find? (fun s => decide (a = 2 ^ s)) with
  | none =>
    rw [List.find?_eq_none] at e
    exact absurd (decide_eq_true h) (e s (List.mem_range.mpr hs))
  | some k =>
    have h0 := List.find?_some e
    have h1 : a = 2 ^ k := of_decide_eq_true h0
    have : (2 : Nat) ^ s = 2 ^ k := by rw [← h, h1]
    have := (Nat.pow_right_inj (by decide : 1 < 2)).mp this
    rw [this]
theorem One_none {a n : Nat} (h : ∀ s, s < n → a ≠ 2 ^ s) : One a n = -1 := by
  unfold One
  have : (List.range n).find? (fun s => decide (a = 2 ^ s)) = none := by
    rw [List.find?_eq_none]
    intro s hs q
    exact h s (List.mem_range.mp hs) (of_decide_eq_true q)
  rw [this]
def Fb (ti : Int) (b : Nat → Int) (n : Nat) : Nat := bits (fst ti alT b n) n
def Pd (pl ti pd : Int) (b : Nat → Int) (n : Nat) : Int := if Hd pl ti alT b n = -1 then 0 else Pr pd alT b n (Hd pl ti alT b n).toNat
/-- settled -/
def sd (w : aw_W) (n : Nat) (b : Nat → Int) : Prop := w 17 3 = Hd (w 5 0) (w 5 1) alT b n ∧ w 17 4 = Pd (w 5 0) (w 5 1) (w 5 2) b n ∧ w 17 5 = (Fb (w 5 1) b n : Int) ∧ w 17 6 = One (Fb (w 5 1) b n) n
section ST
variable {N : Nat} {w : aw_W} {n : Nat} {b : Nat → Int}
theorem xs_fr {v : aw_W} {S : List (Nat × Nat)} (h : xs w n b) (hf : fr_ S w v) (h1 : fr_in S 3 4 = false) (h2 : ∀ k, fr_in S 5 k = false) (h3 : ∀ k, fr_in S 21 k = false) : xs v n b := by
  obtain ⟨a, c, d, e, f⟩ := h
  refine ⟨by rw [hf 3 4 h1]; exact a, c, d, ?_, fun s hs => by rw [hf 21 s (h3 s)]; exact f s hs⟩
  unfold lwB at e ⊢
  simp only [hf 5 _ (h2 _)]
  exact e
theorem S_enter_ok : fr_in S_x_Order_enter 3 4 = false ∧ (∀ k, fr_in S_x_Order_enter 5 k = false) ∧ (∀ k, fr_in S_x_Order_enter 21 k = false) := ⟨rfl, fun _ => rfl, fun _ => rfl⟩
theorem st_loop (hN : 10 ≤ N) : ∀ (f i : Nat) (w : aw_W) (F : Nat → Nat), n - i < f → i ≤ n → xs w n b → ord w i alT b i F → ∃ w' F', x_Sale_settle_9 N f i w = x_Sale_settle_40 N w' ∧ xs w' n b ∧ ord w' n alT b n F' ∧ fr_ S_x_Order_enter w w' := by
  intro f
  induction f with
  | zero => intro i w F h; omega
  | succ f ih =>
    intro i w F hi hin hx ho
    obtain ⟨h0, h1, h2, h3, h4⟩ := id hx
    rw [x_Sale_settle_9, h0]
    by_cases c : (n : Int) ≤ (i : Int)
    · have : i = n := by omega
      subst this
      exact ⟨w, F, by rw [if_pos c], hx, ho, fr_r _ _⟩
    · rw [if_neg c, if_pos ⟨by omega, by omega⟩, Int.toNat_natCast, h4 i (by omega)]
      obtain ⟨w1, F1, e1, o1⟩ := x_Order_enter_ok N hN ho (by omega) rfl
      have hf := f_x_Order_enter N _ _ _ _ e1
      obtain ⟨w2, F2, e2, x2, o2, f2⟩ := ih (i + 1) w1 F1 (by omega) (by omega) (xs_fr hx hf S_enter_ok.1 S_enter_ok.2.1 S_enter_ok.2.2) o1
      refine ⟨w2, F2, ?_, x2, o2, hf.trans f2⟩
      rw [e1]
      show x_Sale_settle_9 N f (aw_w ((i : Int) + 1)) w1 = _
      rw [ww1 (by omega)]
      exact e2
theorem Hd_lt {pl ti : Int} {n : Nat} {al : Nat → Bool} {sc : Nat → Int} : -1 ≤ Hd pl ti al sc n ∧ Hd pl ti al sc n < (n : Int) ∨ Hd pl ti al sc n = -1 := by
  rcases Hd_range (pl := pl) (ti := ti) (n := n) (al := al) (sc := sc) with h | ⟨s, h1, h2, -⟩
  · exact Or.inr h
  · rw [h2]; omega
theorem st_settle (hN : 10 ≤ N) (h : xs w n b) : ∃ w', x_Sale_settle N w = some w' ∧ xs w' n b ∧ sd w' n b ∧ fr_ S_x_Sale_settle w w' := by
  have key : ∃ w', x_Sale_settle N w = some w' ∧ xs w' n b ∧ sd w' n b := by
    have hc : xs (aw_up w 18 2 0) n b := xs_fr (S := S_x_Order_enter) h ((fr_r _ w).up rfl) S_enter_ok.1 S_enter_ok.2.1 S_enter_ok.2.2
    have ho : ord (aw_up w 18 2 0) 0 alT b 0 (fun _ => 0) := ⟨by simp [aw_up], Nat.le_refl _, fun a ha => absurd ha (Nat.not_lt_zero _), fun a b _ hb => absurd hb (Nat.not_lt_zero _), fun s hs => absurd hs (Nat.not_lt_zero _)⟩
    have hn6 := h.2.2.1
    obtain ⟨w1, F, e1, x1, o1, f1⟩ := st_loop (N := N) hN N 0 _ _ (by omega) (by omega) hc ho
    obtain ⟨h0, h1, h2, ⟨l0, l1, l2, l3, l4⟩, h4⟩ := id x1
    have he := ord_en o1
    have h64 : Fb (w1 5 1) b n < 64 := bits_64 _ hn6
    rw [x_Sale_settle, x_Order_clear]
    show ∃ w', x_Sale_settle_9 N N ((0 : Nat) : Int) (aw_up w 18 2 0) = some w' ∧ _
    rw [e1, x_Sale_settle_40, xo_holder o1 hn6 l0.1 l0.2 l1, b2_some]
    have o2 : ord (aw_up w1 17 3 (hold (w1 5 0) (w1 5 1) b n F)) n alT b n F := by
      obtain ⟨q0, q1, q2, q3, q4⟩ := o1
      exact ⟨by simp [aw_up]; exact q0, q1, fun a ha => by simp [aw_up]; exact q2 a ha, q3, q4⟩
    rw [xo_firsts hN o2 hn6 l1, b2_some]
    change ∃ w', (aw_b2 (j_Int_bitCount N ((Fb (w1 5 1) b n : Nat) : Int) (aw_up (aw_up w1 17 3 (hold (w1 5 0) (w1 5 1) b n F)) 17 5 ((Fb (w1 5 1) b n : Nat) : Int))) fun r3 w3 => if r3 = 1 then aw_b2 (x_Order_whoAt N 0 w3) fun r4 w4 => x_Sale_settle_115 N (w1 5 0) r4 w4 else x_Sale_settle_115 N (w1 5 0) (-1) w3) = some w' ∧ _
    rw [bc_ok N h64, b2_some]
    generalize hw2 : aw_up (aw_up w1 17 3 (hold (w1 5 0) (w1 5 1) b n F)) 17 5 (Fb (w1 5 1) b n : Int) = w2
    have o3 : ord w2 n alT b n F := by
      rw [← hw2]
      obtain ⟨q0, q1, q2, q3, q4⟩ := o1
      exact ⟨by simp [aw_up]; exact q0, q1, fun a ha => by simp [aw_up]; exact q2 a ha, q3, q4⟩
    have s3 : w2 17 3 = Hd (w1 5 0) (w1 5 1) alT b n := by rw [← hw2, ← hold_Hd he l1]; simp [aw_up]
    have s5 : w2 17 5 = (Fb (w1 5 1) b n : Int) := by rw [← hw2]; simp [aw_up]
    have r5 : ∀ k, w2 5 k = w1 5 k := fun k => by rw [← hw2]; simp [aw_up]
    have r3 : w2 3 4 = w1 3 4 := by rw [← hw2]; simp [aw_up]
    have r21 : ∀ k, w2 21 k = w1 21 k := fun k => by rw [← hw2]; simp [aw_up]
    -- the rest, from the one first on
    have rest : ∀ o : Int, o = One (Fb (w1 5 1) b n) n → ∃ w', x_Sale_settle_115 N (w1 5 0) o w2 = some w' ∧ xs w' n b ∧ sd w' n b := by
      intro o hoo
      have o4 : ord (aw_up w2 17 6 o) n alT b n F := by
        obtain ⟨q0, q1, q2, q3, q4⟩ := o3
        exact ⟨by simp [aw_up]; exact q0, q1, fun a ha => by simp [aw_up]; exact q2 a ha, q3, q4⟩
      have fin : ∀ (pd : Int), pd = Pd (w1 5 0) (w1 5 1) (w1 5 2) b n → xs (aw_up (aw_up w2 17 6 o) 17 4 pd) n b ∧ sd (aw_up (aw_up w2 17 6 o) 17 4 pd) n b := by
        intro pd hpd
        refine ⟨⟨by simp [aw_up]; rw [r3]; exact h0, h1, h2, ?_, fun s hs => by simp [aw_up]; rw [r21]; exact h4 s hs⟩, ?_, ?_, ?_, ?_⟩
        · unfold lwB
          simp [aw_up, r5]
          exact ⟨l0, l1, l2, l3, l4⟩
        · simp [aw_up, r5]; exact s3
        · simp [aw_up, r5]; exact hpd
        · simp [aw_up, r5]; exact s5
        · simp [aw_up, r5]; exact hoo
      rw [x_Sale_settle_115]
      rw [s3]
      by_cases c : Hd (w1 5 0) (w1 5 1) alT b n = -1
      · rw [if_pos c]
        exact ⟨_, rfl, fin 0 (by unfold Pd; rw [if_pos c])⟩
      · rw [if_neg c, ww (by omega) (by omega)]
        -- who has it stands at the place
        have hh := hold_Hd (pl := w1 5 0) he l1
        have hin : w1 5 0 - 1 < (n : Int) := by
          rcases Int.lt_or_le (w1 5 0 - 1) (n : Int) with q | q
          · exact q
          · rw [hold_out q] at hh
            exact absurd hh.symm c
        have hF : hold (w1 5 0) (w1 5 1) b n F = (F (w1 5 0 - 1).toNat : Int) := by
          rw [hold_in l0.1 hin] at hh ⊢
          split at hh
          · exact absurd hh.symm c
          · next q => rw [if_neg q]
        obtain ⟨a, ea⟩ : ∃ a : Nat, w1 5 0 - 1 = a := ⟨(w1 5 0 - 1).toNat, by omega⟩
        have ea' : (w1 5 0 - 1).toNat = a := by omega
        have ha : a < n := by omega
        rw [ea'] at hF
        have hpr := Pr_at (pd := w1 5 2) he ha
        have hPd : Pd (w1 5 0) (w1 5 1) (w1 5 2) b n = Pr (w1 5 2) alT b n (F a) := by
          unfold Pd
          rw [if_neg c, ← hh, hF, Int.toNat_natCast]
        have hprice : x_Sale_price N (w1 5 0 - 1) (aw_up w2 17 6 o) = some (Pr (w1 5 2) alT b n (F a), aw_up w2 17 6 o) := by
          have z2 : (aw_up w2 17 6 o) 5 2 = w1 5 2 := by simp [aw_up, r5]
          rw [x_Sale_price, xo_scoreAt o4 hn6, if_pos ⟨by omega, hin⟩, ea', b2_some, z2, hpr]
          by_cases p0 : w1 5 2 = 0
          · rw [if_pos p0, if_pos p0]
          · rw [if_neg p0, if_neg p0]
            by_cases p1 : w1 5 2 = 1
            · rw [if_pos p1, if_pos p1, ww (by omega) (by omega), xo_scoreAt o4 hn6]
              by_cases a0 : a = 0
              · rw [if_neg (by omega), if_pos a0]
                rfl
              · rw [if_pos (by omega), if_neg a0, show (w1 5 0 - 1 - 1).toNat = a - 1 by omega]
                rfl
            · rw [if_neg p1, if_neg p1, ww (by omega) (by omega), xo_scoreAt o4 hn6]
              by_cases a0 : a + 1 < n
              · rw [if_pos (by omega), if_pos a0, show (w1 5 0 - 1 + 1).toNat = a + 1 by omega]
                rfl
              · rw [if_neg (by omega), if_neg a0]
                rfl
        rw [hprice]
        exact ⟨_, rfl, fin _ hPd.symm⟩
    have hF0 := o3.2.2.1 0 (by omega)
    have bit0 : (Fb (w1 5 1) b n).testBit (F 0) = true := by
      unfold Fb
      rw [bits_at, Bool.and_eq_true, decide_eq_true_eq]
      refine ⟨hF0.1, ?_⟩
      unfold fst
      rw [Bool.and_eq_true, decide_eq_true_eq]
      exact ⟨rfl, (first_iff he l1 (by omega)).mpr (Or.inl rfl)⟩
    by_cases c : pop (Fb (w1 5 1) b n) = 1
    · rw [if_pos c, x_Order_whoAt, if_neg (by decide), o3.1, if_neg (by omega), if_pos ⟨by omega, by omega⟩, x_Order_whoAt_22, b2_some]
      rw [show (0 : Int).toNat = 0 from rfl, hF0.2.2.1]
      exact rest _ (One_some hF0.1 ((pop_one _ h64 _ (by omega) bit0).mp c)).symm
    · rw [if_neg c]
      exact rest _ (One_none (fun s hs => pop_one' _ h64 c s (by omega))).symm
  obtain ⟨w', e, x, s⟩ := key
  exact ⟨w', e, x, s, f_x_Sale_settle N _ _ e⟩
end ST
