/-! ===== pure: the world behind the constructors ===== -/
def aw_w0 : aw_W := fun i k => if i = 49 ∧ k = 5 then 50 else if i = 49 ∧ k = 32 then -1 else 0
theorem aw_w0z {i k : Nat} (h : i ≠ 49) : aw_w0 i k = 0 := by
  unfold aw_w0
  rw [if_neg (fun q => h q.1), if_neg (fun q => h q.1)]
theorem aw_w0m {k : Nat} (h : k ≠ 5) (h2 : k ≠ 32) : aw_w0 49 k = 0 := by
  unfold aw_w0
  rw [if_neg (fun q => h q.2), if_neg (fun q => h2 q.2)]
theorem aw_w0_ok : aw_okw aw_w0 := by
  intro i k
  unfold aw_w0 aw_L aw_I
  split
  · constructor
    · omega
    · intro _; omega
  · split
    · constructor
      · omega
      · intro _; omega
    · constructor
      · omega
      · intro _; omega
theorem nv_init : nv aw_w0 := by
  refine ⟨0, fun _ => 0, fun _ => 0, 0, fun _ => 0, fun _ => 0, [], 0, fun _ => [], false, 0, fun _ => 0, fun _ => 0, fun _ => 0, ?_, ?_, ?_⟩
  · refine ⟨⟨aw_w0z (by decide), by decide, Or.inl rfl, fun k _ => aw_w0z (by decide), fun j hj => absurd hj (by omega), fun h => absurd rfl h⟩, ⟨aw_w0z (by decide), by decide, fun k _ => ⟨aw_w0z (by decide), Nat.le_of_ble_eq_true rfl⟩⟩, fun s _ => aw_w0z (by decide), ⟨aw_w0z (by decide), ?_, fun j hj => absurd hj (Nat.not_lt_zero _)⟩, ⟨aw_w0z (by decide), by decide, fun r hr => absurd hr (Nat.not_lt_zero _)⟩, ⟨aw_w0z (by decide), fun h => by cases h⟩, fun h => by cases h⟩
    simp [tpk]
  · refine ⟨⟨aw_w0m (by decide) (by decide), by decide, Or.inl rfl, fun k _ => aw_w0z (by decide), fun j hj => absurd hj (by omega), fun h => absurd rfl h⟩, ⟨aw_w0m (by decide) (by decide), by decide, fun k _ => ⟨aw_w0z (by decide), Nat.le_of_ble_eq_true rfl⟩⟩, ⟨fun s _ => aw_w0z (by decide), rfl⟩, ⟨aw_w0m (by decide) (by decide), ?_, fun j hj => absurd hj (Nat.not_lt_zero _)⟩, ⟨aw_w0m (by decide) (by decide), by decide, fun r hr => absurd hr (Nat.not_lt_zero _)⟩, ⟨aw_w0m (by decide) (by decide), fun h => by cases h⟩⟩
    simp [tpk]
  · exact ⟨fun s hs => absurd hs (Nat.not_lt_zero _), (fun h => by cases h), (fun h => absurd rfl h)⟩
