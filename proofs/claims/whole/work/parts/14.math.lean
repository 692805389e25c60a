/-! ===== the abstract walk: Math's max, min, abs; words by their places ===== -/
theorem aw_in_all {ws : List Cond} (ps : List Nat) (hp : ws = ps.filterMap (fun i => lw_tbl[i]?)) (hg : ws.all goodWord = true) : ∀ w ∈ ws, w ∈ aw_G := by
  intro w hw
  have h1 := List.all_eq_true.mp hg w hw
  rw [hp] at hw
  obtain ⟨i, -, hi⟩ := List.mem_filterMap.mp hw
  exact aw_inG (List.mem_of_getElem? hi) h1
def aw_mx (x y : Int) : Int := if x < y then y else x
def aw_mn (x y : Int) : Int := if y < x then y else x
def aw_ab (x : Int) : Int := if 0 ≤ x then x else aw_w (0 - x)
def aw_mxL (x y : Int) : Int := if y < x then x else y
def aw_CM (own : String) (idx : Nat) (y : MethodName) (b : ByteArray) (n : Nat) (ret : Option FieldType) : Prop := Cond.methodLink own idx y ∈ aw_G ∧ Cond.static y ∈ aw_G ∧ Cond.initialized "java/lang/Math" ∈ aw_G ∧ Cond.code y b n ret ∈ aw_G
section AWM
variable {l : Launch} {K : aw_K} {M : aw_M} {d pc : Nat} {ls ls' : aw_Ls} {st : List aw_V} {w : aw_W} {r : Option aw_V × aw_W}
theorem aw_mroom {k : Nat} {st : List aw_V} (h : (st.map aw_cat).sum ≤ 8) (hk : k ≤ 15) : ((st.map (aw_cv K)).map fun v => v.category).sum + k ≤ (aw_rm d).locals := by
  rw [aw_sum]
  show _ + k ≤ 64 * (d + 1)
  omega
theorem aw_mmax {idx : Nat} {x y : Int} (hd : decode M.2.1 pc = .ok (.invokestatic idx, 3)) (hc : aw_CM M.1.cls idx Lib.Math.max.name Lib.Math.max.code 2 (some .int)) (hroom : (st.map aw_cat).sum ≤ 8) (kk : aw_AW l K M d (pc + 3) ls (.inl (aw_mx x y) :: st) w r) : aw_AW l K M d pc ls (.inl y :: .inl x :: st) w r :=
  aw_step kk (fun h => aw_ok1 (aw_t1 (aw_t1 h)) (show aw_I (aw_mx x y) by unfold aw_mx; split; exact aw_h1 h; exact aw_h1 (aw_t1 h))) (fun p e s m args below meth c H locs LS Q ho C hP hS hL k => by
    obtain ⟨hx, hb, hml, -, -, hown, hts, -⟩ := id C
    obtain ⟨c1, c2, c3, c4⟩ := hc
    have ok : ∀ w ∈ aw_G, w.before args s = true := fun w h => hts w (aw_G_in M w h)
    refine va_mmax hx hb (hml.trans hL.1.symm) hown (ok _ c1) (ok _ c2) (ok _ c3) (ok _ c4) (by show 1 ≤ d + 1; omega) (aw_mroom hroom (by decide)) (Nat.zero_le _) (Nat.zero_le _) hd ?_
    have e : (if Int32.ofInt x < Int32.ofInt y then Int32.ofInt y else Int32.ofInt x) = Int32.ofInt (aw_mx x y) := by
      unfold aw_mx
      simp only [aw_lt (show aw_I x from aw_h1 (aw_t1 ho)) (show aw_I y from aw_h1 ho)]
      split <;> rfl
    rw [e]
    exact k)
theorem aw_mmin {idx : Nat} {x y : Int} (hd : decode M.2.1 pc = .ok (.invokestatic idx, 3)) (hc : aw_CM M.1.cls idx Lib.Math.min.name Lib.Math.min.code 2 (some .int)) (hroom : (st.map aw_cat).sum ≤ 8) (kk : aw_AW l K M d (pc + 3) ls (.inl (aw_mn x y) :: st) w r) : aw_AW l K M d pc ls (.inl y :: .inl x :: st) w r :=
  aw_step kk (fun h => aw_ok1 (aw_t1 (aw_t1 h)) (show aw_I (aw_mn x y) by unfold aw_mn; split; exact aw_h1 h; exact aw_h1 (aw_t1 h))) (fun p e s m args below meth c H locs LS Q ho C hP hS hL k => by
    obtain ⟨hx, hb, hml, -, -, hown, hts, -⟩ := id C
    obtain ⟨c1, c2, c3, c4⟩ := hc
    have ok : ∀ w ∈ aw_G, w.before args s = true := fun w h => hts w (aw_G_in M w h)
    refine va_mmin hx hb (hml.trans hL.1.symm) hown (ok _ c1) (ok _ c2) (ok _ c3) (ok _ c4) (by show 1 ≤ d + 1; omega) (aw_mroom hroom (by decide)) (Nat.zero_le _) (Nat.zero_le _) hd ?_
    have e : (if Int32.ofInt y < Int32.ofInt x then Int32.ofInt y else Int32.ofInt x) = Int32.ofInt (aw_mn x y) := by
      unfold aw_mn
      simp only [aw_lt (show aw_I y from aw_h1 ho) (show aw_I x from aw_h1 (aw_t1 ho))]
      split <;> rfl
    rw [e]
    exact k)
theorem aw_mabs {idx : Nat} {x : Int} (hd : decode M.2.1 pc = .ok (.invokestatic idx, 3)) (hc : aw_CM M.1.cls idx Lib.Math.abs.name Lib.Math.abs.code 1 (some .int)) (hroom : (st.map aw_cat).sum ≤ 8) (kk : aw_AW l K M d (pc + 3) ls (.inl (aw_ab x) :: st) w r) : aw_AW l K M d pc ls (.inl x :: st) w r :=
  aw_step kk (fun h => aw_ok1 (aw_t1 h) (show aw_I (aw_ab x) by unfold aw_ab; split; exact aw_h1 h; exact aw_wI _)) (fun p e s m args below meth c H locs LS Q ho C hP hS hL k => by
    obtain ⟨hx, hb, hml, -, -, hown, hts, -⟩ := id C
    obtain ⟨c1, c2, c3, c4⟩ := hc
    have ok : ∀ w ∈ aw_G, w.before args s = true := fun w h => hts w (aw_G_in M w h)
    refine va_mabs hx hb (hml.trans hL.1.symm) hown (ok _ c1) (ok _ c2) (ok _ c3) (ok _ c4) (by show 1 ≤ d + 1; omega) (aw_mroom hroom (by decide)) (Nat.zero_le _) (Nat.zero_le _) hd ?_
    have e : (if 0 ≤ Int32.ofInt x then Int32.ofInt x else 0 - Int32.ofInt x) = Int32.ofInt (aw_ab x) := by
      have q : (0 ≤ Int32.ofInt x) ↔ 0 ≤ x := aw_le aw_I0 (show aw_I x from aw_h1 ho)
      unfold aw_ab
      simp only [q]
      split
      · rfl
      · exact aw_sub32 0 x
    rw [e]
    exact k)
theorem aw_mmaxL {idx : Nat} {x y : Int} (hd : decode M.2.1 pc = .ok (.invokestatic idx, 3)) (hc : aw_CM M.1.cls idx Lib.MathLoose.max_long.x Lib.MathLoose.max_long.code 4 (some .long)) (hroom : (st.map aw_cat).sum ≤ 8) (kk : aw_AW l K M d (pc + 3) ls (.inr (.inl (aw_mxL x y)) :: st) w r) : aw_AW l K M d pc ls (.inr (.inl y) :: .inr (.inl x) :: st) w r :=
  aw_step kk (fun h => aw_ok1 (aw_t1 (aw_t1 h)) (show aw_L (aw_mxL x y) by unfold aw_mxL; split; exact aw_h1 (aw_t1 h); exact aw_h1 h)) (fun p e s m args below meth c H locs LS Q ho C hP hS hL k => by
    obtain ⟨hx, hb, hml, -, -, hown, hts, -⟩ := id C
    obtain ⟨c1, c2, c3, c4⟩ := hc
    have ok : ∀ w ∈ aw_G, w.before args s = true := fun w h => hts w (aw_G_in M w h)
    refine va_mmax_long hx hb (hml.trans hL.1.symm) hown (ok _ c1) (ok _ c2) (ok _ c3) (ok _ c4) (by show 1 ≤ d + 1; omega) (aw_mroom hroom (by decide)) (Nat.zero_le _) (Nat.zero_le _) hd ?_
    have e : (if Int64.ofInt y < Int64.ofInt x then Int64.ofInt x else Int64.ofInt y) = Int64.ofInt (aw_mxL x y) := by
      unfold aw_mxL
      simp only [aw_ltL (show aw_L y from aw_h1 ho) (show aw_L x from aw_h1 (aw_t1 ho))]
      split <;> rfl
    rw [e]
    exact k)
theorem aw_mminL {idx : Nat} {x y : Int} (hd : decode M.2.1 pc = .ok (.invokestatic idx, 3)) (hc : aw_CM M.1.cls idx Lib.MathLoose.min_long.x Lib.MathLoose.min_long.code 4 (some .long)) (hroom : (st.map aw_cat).sum ≤ 8) (kk : aw_AW l K M d (pc + 3) ls (.inr (.inl (aw_mn x y)) :: st) w r) : aw_AW l K M d pc ls (.inr (.inl y) :: .inr (.inl x) :: st) w r :=
  aw_step kk (fun h => aw_ok1 (aw_t1 (aw_t1 h)) (show aw_L (aw_mn x y) by unfold aw_mn; split; exact aw_h1 h; exact aw_h1 (aw_t1 h))) (fun p e s m args below meth c H locs LS Q ho C hP hS hL k => by
    obtain ⟨hx, hb, hml, -, -, hown, hts, -⟩ := id C
    obtain ⟨c1, c2, c3, c4⟩ := hc
    have ok : ∀ w ∈ aw_G, w.before args s = true := fun w h => hts w (aw_G_in M w h)
    refine va_mmin_long hx hb (hml.trans hL.1.symm) hown (ok _ c1) (ok _ c2) (ok _ c3) (ok _ c4) (by show 1 ≤ d + 1; omega) (aw_mroom hroom (by decide)) (Nat.zero_le _) (Nat.zero_le _) hd ?_
    have e : (if Int64.ofInt y < Int64.ofInt x then Int64.ofInt y else Int64.ofInt x) = Int64.ofInt (aw_mn x y) := by
      unfold aw_mn
      simp only [aw_ltL (show aw_L y from aw_h1 ho) (show aw_L x from aw_h1 (aw_t1 ho))]
      split <;> rfl
    rw [e]
    exact k)
end AWM
