/-! ===== pure: numbers, counts, bits ===== -/
theorem ww {x : Int} (h0 : -2147483648 ≤ x) (h1 : x < 2147483648) : aw_w x = x := aw_id ⟨h0, h1⟩
theorem wwI {x : Int} (h : aw_I x) : aw_w x = x := aw_id h
theorem ww1 {i : Nat} (h : i < 2147483647) : aw_w ((i : Int) + 1) = ((i + 1 : Nat) : Int) := by rw [ww] <;> omega
theorem ww2 {i : Nat} (h : i < 2147483647) : aw_w (((i + 1 : Nat) : Int) - 1) = (i : Int) := by rw [ww] <;> omega
theorem ww3 {i : Nat} (h : i < 2147483647) : aw_w (((i + 1 : Nat) : Int) + (-1)) = (i : Int) := by rw [ww] <;> omega
/-- how many k < n have p -/
def ct (p : Nat → Bool) : Nat → Nat
  | 0 => 0
  | n + 1 => ct p n + (if p n then 1 else 0)
theorem ct_s (p : Nat → Bool) (n : Nat) : ct p (n + 1) = ct p n + (if p n then 1 else 0) := rfl
theorem ct_le (p : Nat → Bool) : ∀ n, ct p n ≤ n
  | 0 => Nat.le_refl _
  | n + 1 => by have := ct_le p n; rw [ct_s]; split <;> omega
theorem ct_cong {p q : Nat → Bool} : ∀ {n : Nat}, (∀ k, k < n → p k = q k) → ct p n = ct q n
  | 0, _ => rfl
  | n + 1, h => by rw [ct_s, ct_s, ct_cong (fun k hk => h k (by omega)), h n (by omega)]
theorem ct_sub {p q : Nat → Bool} : ∀ {n : Nat}, (∀ k, k < n → p k = true → q k = true) → ct p n ≤ ct q n
  | 0, _ => Nat.le_refl _
  | n + 1, h => by
    have h1 := ct_sub (n := n) (p := p) (q := q) (fun k hk => h k (by omega))
    have h2 := h n (by omega)
    rw [ct_s, ct_s]
    by_cases hp : p n = true
    · rw [if_pos hp, if_pos (h2 hp)]; omega
    · rw [if_neg hp]; split <;> omega
theorem ct_lt {p q : Nat → Bool} : ∀ {n : Nat}, (∀ k, k < n → p k = true → q k = true) → ∀ j, j < n → q j = true → p j = false → ct p n < ct q n
  | 0, _, j, hj, _, _ => absurd hj (Nat.not_lt_zero j)
  | n + 1, h, j, hj, hq, hp => by
    have h1 := ct_sub (n := n) (p := p) (q := q) (fun k hk => h k (by omega))
    have h2 := h n (by omega)
    rw [ct_s, ct_s]
    by_cases e : j = n
    · subst e
      rw [if_pos hq, if_neg (by rw [hp]; decide)]; omega
    · have h3 := ct_lt (n := n) (p := p) (q := q) (fun k hk => h k (by omega)) j (by omega) hq hp
      by_cases hp2 : p n = true
      · rw [if_pos hp2, if_pos (h2 hp2)]; omega
      · rw [if_neg hp2]; split <;> omega
theorem ct_0 {p : Nat → Bool} {n : Nat} (h : ct p n = 0) : ∀ k, k < n → p k = false := by
  intro k hk
  cases e : p k with
  | false => rfl
  | true =>
    have := ct_lt (p := fun _ => false) (q := p) (n := n) (fun _ _ h => by cases h) k hk e rfl
    omega
theorem ct_z {p : Nat → Bool} : ∀ {n : Nat}, (∀ k, k < n → p k = false) → ct p n = 0
  | 0, _ => rfl
  | n + 1, h => by rw [ct_s, ct_z (fun k hk => h k (by omega)), h n (by omega)]; rfl
theorem ct_add {p : Nat → Bool} {j : Nat} : ∀ {n : Nat}, j < n → p j = false → ct (fun k => p k || k == j) n = ct p n + 1
  | 0, h, _ => absurd h (Nat.not_lt_zero j)
  | n + 1, h, hp => by
    rw [ct_s, ct_s]
    by_cases e : j = n
    · subst e
      have h1 : ct (fun k => p k || k == j) j = ct p j := ct_cong (fun k hk => by simp; omega)
      rw [h1, hp]
      simp
    · rw [ct_add (n := n) (by omega) hp]
      have : (n == j) = false := by simp; omega
      simp only [this, Bool.or_false]
      omega
/-- an enumeration without repetition of what has p -/
theorem ct_enum {p : Nat → Bool} {n : Nat} (F : Nat → Nat) : ∀ m, (∀ a, a < m → F a < n) → (∀ a b, a < b → b < m → F a ≠ F b) → ct (fun k => (List.range m).any (fun a => F a == k)) n = m
  | 0, _, _ => ct_z (fun k _ => rfl)
  | m + 1, h1, h2 => by
    have ih := ct_enum F m (fun a ha => h1 a (by omega)) (fun a b ha hb => h2 a b ha (by omega)) (n := n) (p := p)
    have h3 : ∀ k, k < n → (List.range (m + 1)).any (fun a => F a == k) = ((List.range m).any (fun a => F a == k) || k == F m) := by
      intro k _
      rw [List.range_succ, List.any_append]
      simp only [List.any_cons, List.any_nil, Bool.or_false]
      congr 1
      rw [Bool.eq_iff_iff, beq_iff_eq, beq_iff_eq]
      exact ⟨Eq.symm, Eq.symm⟩
    rw [ct_cong h3, ct_add (h1 m (by omega)), ih]
    rw [Bool.eq_false_iff]
    intro h
    rw [List.any_eq_true] at h
    obtain ⟨a, ha, he⟩ := h
    exact h2 a m (List.mem_range.mp ha) (by omega) (by simpa using he)
/-! bits of small numbers -/
theorem bt_or : ∀ a : Nat, a < 64 → ∀ s : Nat, s < 6 → aw_or (a : Int) (aw_shl 1 (s : Int)) = ((a ||| 2 ^ s : Nat) : Int) := by decide +kernel
theorem bt_or0 : ∀ a : Nat, a < 64 → aw_or (a : Int) 0 = (a : Int) := by decide +kernel
theorem bt_shl : ∀ s : Nat, s < 7 → aw_shl 1 (s : Int) = ((2 ^ s : Nat) : Int) := by decide +kernel
theorem bt_has : ∀ a : Nat, a < 64 → ∀ s : Nat, s < 6 → aw_and (aw_shr (a : Int) (s : Int)) 1 = if a.testBit s then 1 else 0 := by decide +kernel
theorem bt_lt : ∀ a : Nat, a < 64 → ∀ s : Nat, s < 6 → a ||| 2 ^ s < 64 := by decide +kernel
