/-! ===== pure: the class's settle ===== -/
def goodb (pl ti : Int) (al : Nat → Bool) (sc : Nat → Int) (n s : Nat) : Bool := al s && decide ((ct (fun k => ahd ti al sc k s) n : Int) = pl - 1) && !((List.range n).any (fun k => alk ti al sc k s))
theorem goodb_iff {pl ti : Int} {al : Nat → Bool} {sc : Nat → Int} {n s : Nat} : goodb pl ti al sc n s = true ↔ good pl ti al sc n s := by
  unfold goodb good
  rw [Bool.and_eq_true, Bool.and_eq_true, decide_eq_true_eq, Bool.not_eq_true', List.any_eq_false, and_assoc]
  constructor
  · rintro ⟨a, b, c⟩
    exact ⟨a, b, fun k hk => by have := c k (List.mem_range.mpr hk); simpa using this⟩
  · rintro ⟨a, b, c⟩
    exact ⟨a, b, fun k hk => by rw [c k (List.mem_range.mp hk)]; simp⟩
/-- who has it -/
def Hd (pl ti : Int) (al : Nat → Bool) (sc : Nat → Int) (n : Nat) : Int := match (List.range n).find? (goodb pl ti al sc n) with
  | some s => (s : Int)
  | none => -1
theorem hold_Hd {pl ti : Int} {n m : Nat} {al : Nat → Bool} {sc : Nat → Int} {F : Nat → Nat} (h : en n al sc m F) (hti : ti = 0 ∨ ti = 1) : hold pl ti sc m F = Hd pl ti al sc n := by
  unfold Hd
  cases e : (List.range n).find? (goodb pl ti al sc n) with
  | some s =>
    have h1 := List.find?_some e
    have h2 := List.mem_of_find?_eq_some e
    exact hold_some h hti (List.mem_range.mp h2) (goodb_iff.mp h1)
  | none =>
    refine hold_good h hti (fun s hs hg => ?_)
    rw [List.find?_eq_none] at e
    exact e s (List.mem_range.mpr hs) (goodb_iff.mpr hg)
theorem Hd_range {pl ti : Int} {n : Nat} {al : Nat → Bool} {sc : Nat → Int} : Hd pl ti al sc n = -1 ∨ ∃ s : Nat, s < n ∧ Hd pl ti al sc n = s ∧ good pl ti al sc n s := by
  unfold Hd
  cases e : (List.range n).find? (goodb pl ti al sc n) with
  | some s => exact Or.inr ⟨s, List.mem_range.mp (List.mem_of_find?_eq_some e), rfl, goodb_iff.mp (List.find?_some e)⟩
  | none => exact Or.inl rfl
/-- what is paid by s -/
def Pr (pd : Int) (al : Nat → Bool) (sc : Nat → Int) (n s : Nat) : Int :=
  if pd = 0 then sc s else if pd = 1 then (match (List.range n).find? (fun k => al k && (rk al sc n k + 1 == rk al sc n s)) with
    | some k => sc k
    | none => sc s) else (match (List.range n).find? (fun k => al k && (rk al sc n k == rk al sc n s + 1)) with
    | some k => sc k
    | none => 0)
theorem find_rk {n m : Nat} {al : Nat → Bool} {sc : Nat → Int} {F : Nat → Nat} (h : en n al sc m F) {a : Nat} (ha : a < m) (p : Nat → Bool) (hp : ∀ k, k < n → al k = true → (p (rk al sc n k) = true ↔ rk al sc n k = a)) : (List.range n).find? (fun k => al k && p (rk al sc n k)) = some (F a) := by
  have hF := h.2.1 a ha
  have hr := en_rk h ha
  cases e : (List.range n).find? (fun k => al k && p (rk al sc n k)) with
  | none =>
    exfalso
    rw [List.find?_eq_none] at e
    refine e (F a) (List.mem_range.mpr hF.1) ?_
    rw [hF.2, Bool.true_and]
    exact (hp (F a) hF.1 hF.2).mpr hr
  | some k =>
    have h1 := List.find?_some e
    have h2 := List.mem_range.mp (List.mem_of_find?_eq_some e)
    simp only [Bool.and_eq_true] at h1
    have h3 := (hp k h2 h1.1).mp h1.2
    obtain ⟨b, hb, rfl⟩ := h.2.2.2 k h2 h1.1
    rw [en_rk h hb] at h3
    rw [h3]
theorem find_rk0 {n : Nat} {al : Nat → Bool} {sc : Nat → Int} (p : Nat → Bool) (hp : ∀ k, k < n → al k = true → p (rk al sc n k) = false) : (List.range n).find? (fun k => al k && p (rk al sc n k)) = none := by
  rw [List.find?_eq_none]
  intro k hk q
  simp only [Bool.and_eq_true] at q
  rw [hp k (List.mem_range.mp hk) q.1] at q
  cases q.2
theorem Pr_at {pd : Int} {n m : Nat} {al : Nat → Bool} {sc : Nat → Int} {F : Nat → Nat} (h : en n al sc m F) {a : Nat} (ha : a < m) : Pr pd al sc n (F a) = if pd = 0 then sc (F a) else if pd = 1 then (if a = 0 then sc (F a) else sc (F (a - 1))) else (if a + 1 < m then sc (F (a + 1)) else 0) := by
  have hr := en_rk h ha
  unfold Pr
  rw [hr]
  by_cases c0 : pd = 0
  · rw [if_pos c0, if_pos c0]
  · rw [if_neg c0, if_neg c0]
    by_cases c1 : pd = 1
    · rw [if_pos c1, if_pos c1]
      by_cases c2 : a = 0
      · subst c2
        rw [find_rk0 (fun r => r + 1 == 0) (fun k _ _ => by simp), if_pos rfl]
      · rw [find_rk h (a := a - 1) (by omega) (fun r => r + 1 == a) (fun k _ _ => by simp; omega), if_neg c2]
    · rw [if_neg c1, if_neg c1]
      by_cases c2 : a + 1 < m
      · rw [find_rk h c2 (fun r => r == a + 1) (fun k _ _ => by simp), if_pos c2]
      · rw [if_neg c2, find_rk0 (fun r => r == a + 1)]
        intro k hk hal
        obtain ⟨b, hb, rfl⟩ := h.2.2.2 k hk hal
        rw [en_rk h hb]
        simp
        omega
section XS
variable {N : Nat} {w : aw_W} {n m : Nat} {al : Nat → Bool} {sc : Nat → Int} {F : Nat → Nat} {ti pl : Int}
theorem xo_scoreAt (h : ord w n al sc m F) (hn : n ≤ 6) (a o : Int) : x_Order_scoreAt N a o w = some (if 0 ≤ a ∧ a < m then sc (F a.toNat) else o, w) := by
  obtain ⟨h0, h1, h2, -, -⟩ := h
  rw [x_Order_scoreAt, h0]
  by_cases c1 : a < 0
  · rw [if_pos c1, if_neg (by omega)]
    rfl
  · rw [if_neg c1]
    by_cases c2 : (m : Int) ≤ a
    · rw [if_pos c2, if_neg (by omega)]
      rfl
    · rw [if_neg c2, if_pos ⟨by omega, by omega⟩, if_pos ⟨by omega, by omega⟩, (h2 a.toNat (by omega)).2.2.2]
      rfl
/-- which places of the order are first -/
def fs (ti : Int) (sc : Nat → Int) (F : Nat → Nat) (a : Nat) : Bool := (a == 0) || (decide (ti = 1) && decide (sc (F a) = sc (F 0)))
def ac (ti : Int) (sc : Nat → Int) (F : Nat → Nat) (a : Nat) : Nat := bits (fun j => (List.range a).any (fun b => F b == j && fs ti sc F b)) 6
theorem ac_s (ti : Int) (sc : Nat → Int) (F : Nat → Nat) (a : Nat) (h : F a < 6) : ac ti sc F (a + 1) = if fs ti sc F a then ac ti sc F a ||| 2 ^ F a else ac ti sc F a := by
  apply Nat.eq_of_testBit_eq
  intro j
  have h1 : (ac ti sc F (a + 1)).testBit j = ((ac ti sc F a).testBit j || (decide (j < 6) && (F a == j && fs ti sc F a))) := by
    unfold ac
    rw [bits_at, bits_at, List.range_succ, List.any_append]
    simp only [List.any_cons, List.any_nil, Bool.or_false]
    rw [Bool.and_or_distrib_left]
  rw [h1]
  cases e : fs ti sc F a with
  | false => simp
  | true =>
    simp only [if_true, Nat.testBit_or, Bool.and_true]
    congr 1
    rw [Nat.testBit_two_pow, Bool.eq_iff_iff]
    simp
    omega
theorem xo_firsts_l (h : ord w n al sc m F) (hn : n ≤ 6) (hti : ti = 0 ∨ ti = 1) : ∀ (f a : Nat), m - a < f → a ≤ m → x_Order_firsts_4 N f ti (ac ti sc F a : Int) a w = some ((ac ti sc F m : Int), w) := by
  intro f
  induction f with
  | zero => intro a ha; omega
  | succ f ih =>
    intro a ha ham
    have hm := h.2.1
    have h64 : ac ti sc F a < 64 := bits_64 _ (Nat.le_refl 6)
    rw [x_Order_firsts_4, h.1]
    by_cases c : (m : Int) ≤ (a : Int)
    · rw [if_pos c]
      have : a = m := by omega
      subst this
      rfl
    · have hF := h.2.2.1 a (by omega)
      have hF0 := h.2.2.1 0 (by omega)
      have hi := ih (a + 1) (by omega) (by omega)
      rw [ac_s ti sc F a (by omega)] at hi
      have yes : fs ti sc F a = true → x_Order_firsts_36 N (x_Order_firsts_4 N f) ti (ac ti sc F a : Int) a w = some ((ac ti sc F m : Int), w) := by
        intro e
        rw [e, if_pos rfl] at hi
        rw [x_Order_firsts_36, if_pos ⟨by omega, by omega⟩, Int.toNat_natCast, hF.2.2.1, bt_or _ h64 _ (by omega), x_Order_firsts_47, ww1 (by omega)]
        exact hi
      have no : fs ti sc F a = false → x_Order_firsts_47 N (x_Order_firsts_4 N f) ti (ac ti sc F a : Int) a w = some ((ac ti sc F m : Int), w) := by
        intro e
        rw [e] at hi
        rw [x_Order_firsts_47, ww1 (by omega)]
        exact hi
      rw [if_neg c]
      by_cases c0 : a = 0
      · rw [if_pos (by omega)]
        exact yes (by unfold fs; simp [c0])
      · rw [if_neg (by omega)]
        rcases hti with rfl | rfl
        · rw [if_neg (by decide)]
          exact no (by unfold fs; simp [c0])
        · rw [if_pos rfl, if_pos ⟨by omega, by omega⟩, Int.toNat_natCast, hF.2.2.2, hF0.2.2.2]
          by_cases c1 : sc (F a) = sc (F 0)
          · rw [if_pos c1]
            exact yes (by unfold fs; simp [c1])
          · rw [if_neg c1]
            exact no (by unfold fs; simp [c0, c1])
theorem xo_firsts (hN : 10 ≤ N) (h : ord w n al sc m F) (hn : n ≤ 6) (hti : ti = 0 ∨ ti = 1) : x_Order_firsts N ti w = some ((bits (fst ti al sc n) n : Int), w) := by
  have hm := h.2.1
  have he := ord_en h
  have e0 : (ac ti sc F 0 : Int) = 0 := by
    have : ac ti sc F 0 = 0 := by
      apply Nat.eq_of_testBit_eq
      intro j
      unfold ac
      rw [bits_at]
      simp
    rw [this]; rfl
  have h1 := xo_firsts_l (N := N) h hn hti N 0 (by omega) (by omega)
  rw [e0] at h1
  rw [x_Order_firsts]
  refine h1.trans ?_
  have : ac ti sc F m = bits (fst ti al sc n) n := by
    apply Nat.eq_of_testBit_eq
    intro j
    unfold ac
    rw [bits_at, bits_at, Bool.eq_iff_iff]
    simp only [Bool.and_eq_true, decide_eq_true_eq, List.any_eq_true]
    constructor
    · rintro ⟨-, b, hb, e, hf⟩
      have hb' := List.mem_range.mp hb
      have e1 : F b = j := by simpa using e
      subst e1
      refine ⟨(he.2.1 b hb').1, ?_⟩
      unfold fst
      rw [(he.2.1 b hb').2, Bool.true_and, decide_eq_true_eq, first_iff he hti hb']
      unfold fs at hf
      simpa using hf
    · rintro ⟨hj, hf⟩
      unfold fst at hf
      rw [Bool.and_eq_true, decide_eq_true_eq] at hf
      obtain ⟨b, hb, rfl⟩ := he.2.2.2 j hj hf.1
      refine ⟨by omega, b, List.mem_range.mpr hb, by simp, ?_⟩
      have := (first_iff he hti hb).mp hf.2
      unfold fs
      simpa using this
  rw [this]
end XS
