/-! ===== the forms in which functions are read off the bytecode ===== -/
def aw_b1 {α : Type} (o : Option aw_W) (k : aw_W → Option α) : Option α := match o with
  | none => none
  | some w => k w
def aw_b2 {α : Type} (o : Option (Int × aw_W)) (k : Int → aw_W → Option α) : Option α := match o with
  | none => none
  | some q => k q.1 q.2
theorem aw_b1s {α : Type} {o : Option aw_W} {k : aw_W → Option α} {a : α} (h : aw_b1 o k = some a) : ∃ w, o = some w ∧ k w = some a := by
  cases o with
  | none => cases h
  | some w => exact ⟨w, rfl, h⟩
theorem aw_b2s {α : Type} {o : Option (Int × aw_W)} {k : Int → aw_W → Option α} {a : α} (h : aw_b2 o k = some a) : ∃ x w, o = some (x, w) ∧ k x w = some a := by
  cases o with
  | none => cases h
  | some q => exact ⟨q.1, q.2, rfl, h⟩
theorem aw_cks {α : Type} {c : Prop} {dc : Decidable c} {o : Option α} {a : α} (h : (if c then o else none) = some a) : c ∧ o = some a := by
  by_cases q : c
  · rw [if_pos q] at h
    exact ⟨q, h⟩
  · rw [if_neg q] at h
    cases h
def aw_ln (i : Nat) : Int := match aw_lay i with
  | .inl _ => 0
  | .inr a => (a.2 : Int)
def aw_bA (i : Nat) : Bool := match aw_lay i with
  | .inl _ => false
  | .inr a => a.1 == 1
theorem aw_getD_I {q : List Int} (h : q.all (fun x => decide (-2147483648 ≤ x ∧ x < 2147483648)) = true) (i : Nat) : aw_I (q.getD i 0) := by
  rw [List.getD_eq_getElem?_getD]
  cases e : q[i]? with
  | none => exact aw_I0
  | some x =>
    have h1 := List.all_eq_true.mp h x (List.mem_of_getElem? e)
    have h2 : -2147483648 ≤ x ∧ x < 2147483648 := of_decide_eq_true h1
    exact h2
section AWV
variable {l : Launch} {K : aw_K} {M : aw_M} {d pc : Nat} {ls ls' : aw_Ls} {st : List aw_V} {w : aw_W} {r : Option aw_V × aw_W}
theorem aw_sel (ks : List Nat) (h : ks.filterMap (fun k => ls[k]?) = ls') (k : aw_AW l K M d pc ls' st w r) : aw_AW l K M d pc ls st w r := by
  subst h
  have key : ∀ q ∈ ks.filterMap (fun k => ls[k]?), q ∈ ls := by
    intro q hq
    obtain ⟨k, -, hk⟩ := List.mem_filterMap.mp hq
    exact List.mem_of_getElem? hk
  intro hw hl ho
  obtain ⟨hr, k⟩ := k hw (fun q hq => hl q (key q hq)) ho
  refine ⟨hr, fun p e s m args below meth c H locs LS C hP hS hL => k p e s m args below meth c H locs LS C hP hS ⟨hL.1, hL.2.1, fun q hq => ?_⟩⟩
  obtain ⟨z, hz, rfl⟩ := List.mem_map.mp hq
  exact hL.2.2 _ (List.mem_map.mpr ⟨z, key z hz, rfl⟩)
theorem aw_ldcw {x : Int} {idx : Nat} (hd : decode M.2.1 pc = .ok (.ldc_w idx, 3)) (hc : Cond.constant M.1.cls idx (Int32.ofInt x) ∈ aw_G) (hn : aw_I x) (k : aw_AW l K M d (pc + 3) ls (.inl x :: st) w r) : aw_AW l K M d pc ls st w r :=
  aw_step k (fun h => aw_ok1 h hn) (fun p e s m args below meth c H locs LS Q _ C _ _ _ k => lv_ldcw C.1 C.2.1 C.2.2.2.2.2.1 (C.2.2.2.2.2.2.1 _ (List.mem_cons_of_mem _ hc)) hd k)
theorem aw_alenv {i ty n : Nat} {x : Int} (hd : decode M.2.1 pc = .ok (.arraylength, 1)) (hi : i < aw_N) (hy : aw_lay i = .inr (ty, n)) (ht : ty < 4) (hx : (n : Int) = x) (hn : aw_I x) (kk : aw_AW l K M d (pc + 1) ls (.inl x :: st) w r) : aw_AW l K M d pc ls (.inr (.inr i) :: st) w r := by
  subst hx
  exact aw_alen hd hi hy ht hn kk
theorem aw_ialdv {i n : Nat} {x v : Int} (hd : decode M.2.1 pc = .ok (.iaload, 1)) (hy : aw_lay i = .inr (0, n)) (h0 : 0 ≤ x) (h1 : x < n) (hv : w i x.toNat = v) (kk : aw_AW l K M d (pc + 1) ls (.inl v :: st) w r) : aw_AW l K M d pc ls (.inl x :: .inr (.inr i) :: st) w r := by
  subst hv
  exact aw_iald hd hy h0 h1 kk
theorem aw_baldv {i n : Nat} {x v : Int} (hd : decode M.2.1 pc = .ok (.baload, 1)) (hy : aw_lay i = .inr (1, n)) (h0 : 0 ≤ x) (h1 : x < n) (hv : w i x.toNat = v) (kk : aw_AW l K M d (pc + 1) ls (.inl v :: st) w r) : aw_AW l K M d pc ls (.inl x :: .inr (.inr i) :: st) w r := by
  subst hv
  exact aw_bald hd hy h0 h1 kk
theorem aw_zaldv {i n : Nat} {x v : Int} (hd : decode M.2.1 pc = .ok (.baload, 1)) (hy : aw_lay i = .inr (2, n)) (h0 : 0 ≤ x) (h1 : x < n) (hv : w i x.toNat = v) (kk : aw_AW l K M d (pc + 1) ls (.inl v :: st) w r) : aw_AW l K M d pc ls (.inl x :: .inr (.inr i) :: st) w r := by
  subst hv
  exact aw_zald hd hy h0 h1 kk
theorem aw_laldv {i n : Nat} {x v : Int} (hd : decode M.2.1 pc = .ok (.laload, 1)) (hy : aw_lay i = .inr (3, n)) (h0 : 0 ≤ x) (h1 : x < n) (hv : w i x.toNat = v) (kk : aw_AW l K M d (pc + 1) ls (.inr (.inl v) :: st) w r) : aw_AW l K M d pc ls (.inl x :: .inr (.inr i) :: st) w r := by
  subst hv
  exact aw_lald hd hy h0 h1 kk
theorem aw_baldx {i : Nat} {x v : Int} (hd : decode M.2.1 pc = .ok (.baload, 1)) (hy : aw_bA i = true) (h0 : 0 ≤ x) (h1 : x < aw_ln i) (hv : w i x.toNat = v) (kk : aw_AW l K M d (pc + 1) ls (.inl v :: st) w r) : aw_AW l K M d pc ls (.inl x :: .inr (.inr i) :: st) w r := by
  unfold aw_bA at hy
  unfold aw_ln at h1
  cases e : aw_lay i with
  | inl o => rw [e] at hy; cases hy
  | inr a =>
    rw [e] at hy h1
    obtain ⟨ty, n⟩ := a
    have ht : ty = 1 := by simpa using hy
    subst ht
    exact aw_baldv hd e h0 h1 hv kk
theorem aw_saldv {j : Nat} {q : String × String × List Int} {x v : Int} (hd : decode M.2.1 pc = .ok (.iaload, 1)) (hq : aw_stats[j]? = some q) (h0 : 0 ≤ x) (h1 : x < q.2.2.length) (hI : aw_I (q.2.2.getD x.toNat 0)) (hv : q.2.2.getD x.toNat 0 = v) (kk : aw_AW l K M d (pc + 1) ls (.inl v :: st) w r) : aw_AW l K M d pc ls (.inl x :: .inr (.inr (200 + j)) :: st) w r := by
  subst hv
  exact aw_sald hd hq h0 h1 hI kk
/-- a text of the class file is named -/
theorem aw_ldcs2 (hd : decode M.2.1 pc = .ok (.ldc 237, 2)) (kk : aw_AW l K M d (pc + 2) ls (.inr (.inr 222) :: st) w r) (hM : M.1.cls = "SecondHasModel" := by rfl) : aw_AW l K M d pc ls st w r :=
  aw_step kk (fun h => aw_ok1 h trivial) (fun p e s m args below meth c H locs LS Q _ C hP hS hL k => by
    obtain ⟨hx, hb, -, -, -, hown, hts, -, hSt, -⟩ := id C
    rw [hM] at hown
    exact va_ldcS hx hb hown hSt.2.1.2.2.2.2.1 hd k)
theorem aw_ldcs3 (hd : decode M.2.1 pc = .ok (.ldc 239, 2)) (kk : aw_AW l K M d (pc + 2) ls (.inr (.inr 223) :: st) w r) (hM : M.1.cls = "SecondHasModel" := by rfl) : aw_AW l K M d pc ls st w r :=
  aw_step kk (fun h => aw_ok1 h trivial) (fun p e s m args below meth c H locs LS Q _ C hP hS hL k => by
    obtain ⟨hx, hb, -, -, -, hown, hts, -, hSt, -⟩ := id C
    rw [hM] at hown
    exact va_ldcS hx hb hown hSt.2.1.2.2.2.2.2 hd k)
end AWV
