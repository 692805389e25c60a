/-! ===== what a function doesn't write: S lists the places (cell, place) that it may write, 1000000: all of the cell ===== -/
def fr_in (S : List (Nat × Nat)) (i k : Nat) : Bool := S.any (fun q => q.1 == i && (q.2 == k || q.2 == 1000000))
def fr_ (S : List (Nat × Nat)) (w v : aw_W) : Prop := ∀ i k, fr_in S i k = false → v i k = w i k
theorem fr_r (S : List (Nat × Nat)) (w : aw_W) : fr_ S w w := fun _ _ _ => rfl
theorem fr_.trans {S : List (Nat × Nat)} {u v w : aw_W} (h1 : fr_ S u v) (h2 : fr_ S v w) : fr_ S u w := fun i k h => (h2 i k h).trans (h1 i k h)
theorem fr_.up {S : List (Nat × Nat)} {w v : aw_W} {i k : Nat} {x : Int} (h : fr_ S w v) (hm : fr_in S i k = true) : fr_ S w (aw_up v i k x) := by
  intro a b q
  unfold aw_up
  by_cases e : a = i ∧ b = k
  · rw [e.1, e.2, hm] at q
    cases q
  · rw [if_neg e]
    exact h a b q
theorem fr_inA {S : List (Nat × Nat)} {i : Nat} (hm : S.contains (i, 1000000) = true) (k : Nat) : fr_in S i k = true := by
  unfold fr_in
  rw [List.any_eq_true]
  exact ⟨(i, 1000000), by simpa using hm, by simp⟩
theorem fr_.upA {S : List (Nat × Nat)} {w v : aw_W} {i k : Nat} {x : Int} (h : fr_ S w v) (hm : S.contains (i, 1000000) = true) : fr_ S w (aw_up v i k x) := h.up (fr_inA hm k)
theorem fr_.cpy {S : List (Nat × Nat)} {w v : aw_W} {f : Nat → Int} {i sp dp n : Nat} (h : fr_ S w v) (hm : S.contains (i, 1000000) = true) : fr_ S w (aw_cpy f v i sp dp n) := by
  intro a b q
  unfold aw_cpy
  by_cases e : a = i ∧ dp ≤ b ∧ b < dp + n
  · rw [e.1, fr_inA hm b] at q
    cases q
  · rw [if_neg e]
    exact h a b q
theorem fr_m {S T : List (Nat × Nat)} {w v : aw_W} (hs : T.all (fun q => S.contains q || S.contains (q.1, 1000000)) = true) (h : fr_ T w v) : fr_ S w v := by
  intro i k q
  refine h i k ?_
  rcases e : fr_in T i k with _ | _
  · rfl
  · exfalso
    unfold fr_in at e
    rw [List.any_eq_true] at e
    obtain ⟨p, hp, he⟩ := e
    have h1 := List.all_eq_true.mp hs p hp
    rw [Bool.and_eq_true] at he
    obtain ⟨he1, he2⟩ := he
    have e1 : p.1 = i := by simpa using he1
    rw [Bool.or_eq_true] at h1
    have : fr_in S i k = true := by
      rcases h1 with h1 | h1
      · unfold fr_in
        rw [List.any_eq_true]
        exact ⟨p, by simpa using h1, by rw [Bool.and_eq_true]; exact ⟨he1, he2⟩⟩
      · rw [e1] at h1
        exact fr_inA h1 k
    rw [this] at q
    cases q
theorem f_j_Str_checkIndex {S : List (Nat × Nat)} (N : Nat) : ∀ (i n : Int) (w v : aw_W), j_Str_checkIndex N i n w = some v → fr_ S w v := by
  intro i n w v h
  unfold j_Str_checkIndex at h
  obtain ⟨_, h⟩ := aw_cks h
  cases h
  exact fr_r S w
