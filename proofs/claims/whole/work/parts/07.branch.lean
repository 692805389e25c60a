/-! ===== the abstract walk: branches, answers ===== -/
section AWB
variable {l : Launch} {K : aw_K} {M : aw_M} {d pc : Nat} {ls ls' : aw_Ls} {st : List aw_V} {w : aw_W} {r : Option aw_V × aw_W}
theorem aw_I0 : aw_I 0 := ⟨by decide, by decide⟩
theorem aw_goto {off : Int} {tgt : Nat} (hd : decode M.2.1 pc = .ok (.goto off, 3)) (ht : (pc : Int) + off = (tgt : Int)) (k : aw_AW l K M d tgt ls st w r) : aw_AW l K M d pc ls st w r :=
  aw_step k (fun h => h) (fun p e s m args below meth c H locs LS Q _ C _ _ _ k => lv_goto C.1 C.2.1 hd ht k)
/-- a branch: by what the machine asks, told of whole numbers -/
theorem aw_br {P : Prop} {pt pf : Nat} {st st' : List aw_V} (kt : P → aw_AW l K M d pt ls st' w r) (kf : ¬ P → aw_AW l K M d pf ls st' w r) (hok : (∀ v ∈ st, aw_ok v) → ∀ v ∈ st', aw_ok v)
    (hs : ∀ (p : Program) (e : Env) (s : State) (m : MethodId) (args : Array Value) (below : List Frame) (meth : Method) (c : Code) (H : Heap) (locs : List Loc) (LS : Array Slot) (Q : State → Prop), (∀ v ∈ st, aw_ok v) → p.tables.exec = Jvm.exec → c.code = M.2.1 →
      (P → W p l e (aw_rm d) s m args below meth c H locs 0 0 Q (F0 m pt LS (st'.map (aw_cv K)))) → (¬ P → W p l e (aw_rm d) s m args below meth c H locs 0 0 Q (F0 m pf LS (st'.map (aw_cv K)))) → W p l e (aw_rm d) s m args below meth c H locs 0 0 Q (F0 m pc LS (st.map (aw_cv K))))
    : aw_AW l K M d pc ls st w r := by
  intro hw hl ho
  have hr : aw_okr r := by
    by_cases h : P
    · exact (kt h hw hl (hok ho)).1
    · exact (kf h hw hl (hok ho)).1
  exact ⟨hr, fun p e s m args below meth c H locs LS C hP hS hL => hs p e s m args below meth c H locs LS _ ho C.1 C.2.1 (fun h => (kt h hw hl (hok ho)).2 p e s m args below meth c H locs LS C hP hS hL) (fun h => (kf h hw hl (hok ho)).2 p e s m args below meth c H locs LS C hP hS hL)⟩
theorem aw_if_eq {x off : Int} {tgt : Nat} (hd : decode M.2.1 pc = .ok (.ifCond .eq off, 3)) (ht : (pc : Int) + off = (tgt : Int)) (kt : x = 0 → aw_AW l K M d tgt ls st w r) (kf : ¬ x = 0 → aw_AW l K M d (pc + 3) ls st w r) : aw_AW l K M d pc ls (.inl x :: st) w r :=
  aw_br kt kf (fun h => aw_t1 h) (fun p e s m args below meth c H locs LS Q h hx hb kt kf => by
    have hx_ : aw_I x := aw_h1 h
    have h0_ : aw_I 0 := aw_I0
    have q := aw_eq hx_ h0_
    exact lv_if_eq hx hb hd ht (fun z => kt (q.mp z)) (fun z => kf (fun y => z (q.mpr y))))
theorem aw_icmp_eq {x y off : Int} {tgt : Nat} (hd : decode M.2.1 pc = .ok (.if_icmp .eq off, 3)) (ht : (pc : Int) + off = (tgt : Int)) (kt : x = y → aw_AW l K M d tgt ls st w r) (kf : ¬ x = y → aw_AW l K M d (pc + 3) ls st w r) : aw_AW l K M d pc ls (.inl y :: .inl x :: st) w r :=
  aw_br kt kf (fun h => aw_t1 (aw_t1 h)) (fun p e s m args below meth c H locs LS Q h hx hb kt kf => by
    have hx_ : aw_I x := aw_h1 (aw_t1 h)
    have hy_ : aw_I y := aw_h1 h
    have q := aw_eq hx_ hy_
    exact lv_icmp_eq hx hb hd ht (fun z => kt (q.mp z)) (fun z => kf (fun y => z (q.mpr y))))
theorem aw_if_lt {x off : Int} {tgt : Nat} (hd : decode M.2.1 pc = .ok (.ifCond .lt off, 3)) (ht : (pc : Int) + off = (tgt : Int)) (kt : x < 0 → aw_AW l K M d tgt ls st w r) (kf : ¬ x < 0 → aw_AW l K M d (pc + 3) ls st w r) : aw_AW l K M d pc ls (.inl x :: st) w r :=
  aw_br kt kf (fun h => aw_t1 h) (fun p e s m args below meth c H locs LS Q h hx hb kt kf => by
    have hx_ : aw_I x := aw_h1 h
    have h0_ : aw_I 0 := aw_I0
    have q := aw_lt hx_ h0_
    exact lv_if_lt hx hb hd ht (fun z => kt (q.mp z)) (fun z => kf (fun y => z (q.mpr y))))
theorem aw_icmp_lt {x y off : Int} {tgt : Nat} (hd : decode M.2.1 pc = .ok (.if_icmp .lt off, 3)) (ht : (pc : Int) + off = (tgt : Int)) (kt : x < y → aw_AW l K M d tgt ls st w r) (kf : ¬ x < y → aw_AW l K M d (pc + 3) ls st w r) : aw_AW l K M d pc ls (.inl y :: .inl x :: st) w r :=
  aw_br kt kf (fun h => aw_t1 (aw_t1 h)) (fun p e s m args below meth c H locs LS Q h hx hb kt kf => by
    have hx_ : aw_I x := aw_h1 (aw_t1 h)
    have hy_ : aw_I y := aw_h1 h
    have q := aw_lt hx_ hy_
    exact lv_icmp_lt hx hb hd ht (fun z => kt (q.mp z)) (fun z => kf (fun y => z (q.mpr y))))
theorem aw_if_ge {x off : Int} {tgt : Nat} (hd : decode M.2.1 pc = .ok (.ifCond .ge off, 3)) (ht : (pc : Int) + off = (tgt : Int)) (kt : 0 ≤ x → aw_AW l K M d tgt ls st w r) (kf : ¬ 0 ≤ x → aw_AW l K M d (pc + 3) ls st w r) : aw_AW l K M d pc ls (.inl x :: st) w r :=
  aw_br kt kf (fun h => aw_t1 h) (fun p e s m args below meth c H locs LS Q h hx hb kt kf => by
    have hx_ : aw_I x := aw_h1 h
    have h0_ : aw_I 0 := aw_I0
    have q := aw_le h0_ hx_
    exact lv_if_ge hx hb hd ht (fun z => kt (q.mp z)) (fun z => kf (fun y => z (q.mpr y))))
theorem aw_icmp_ge {x y off : Int} {tgt : Nat} (hd : decode M.2.1 pc = .ok (.if_icmp .ge off, 3)) (ht : (pc : Int) + off = (tgt : Int)) (kt : y ≤ x → aw_AW l K M d tgt ls st w r) (kf : ¬ y ≤ x → aw_AW l K M d (pc + 3) ls st w r) : aw_AW l K M d pc ls (.inl y :: .inl x :: st) w r :=
  aw_br kt kf (fun h => aw_t1 (aw_t1 h)) (fun p e s m args below meth c H locs LS Q h hx hb kt kf => by
    have hx_ : aw_I x := aw_h1 (aw_t1 h)
    have hy_ : aw_I y := aw_h1 h
    have q := aw_le hy_ hx_
    exact lv_icmp_ge hx hb hd ht (fun z => kt (q.mp z)) (fun z => kf (fun y => z (q.mpr y))))
theorem aw_if_gt {x off : Int} {tgt : Nat} (hd : decode M.2.1 pc = .ok (.ifCond .gt off, 3)) (ht : (pc : Int) + off = (tgt : Int)) (kt : 0 < x → aw_AW l K M d tgt ls st w r) (kf : ¬ 0 < x → aw_AW l K M d (pc + 3) ls st w r) : aw_AW l K M d pc ls (.inl x :: st) w r :=
  aw_br kt kf (fun h => aw_t1 h) (fun p e s m args below meth c H locs LS Q h hx hb kt kf => by
    have hx_ : aw_I x := aw_h1 h
    have h0_ : aw_I 0 := aw_I0
    have q := aw_lt h0_ hx_
    exact lv_if_gt hx hb hd ht (fun z => kt (q.mp z)) (fun z => kf (fun y => z (q.mpr y))))
theorem aw_icmp_gt {x y off : Int} {tgt : Nat} (hd : decode M.2.1 pc = .ok (.if_icmp .gt off, 3)) (ht : (pc : Int) + off = (tgt : Int)) (kt : y < x → aw_AW l K M d tgt ls st w r) (kf : ¬ y < x → aw_AW l K M d (pc + 3) ls st w r) : aw_AW l K M d pc ls (.inl y :: .inl x :: st) w r :=
  aw_br kt kf (fun h => aw_t1 (aw_t1 h)) (fun p e s m args below meth c H locs LS Q h hx hb kt kf => by
    have hx_ : aw_I x := aw_h1 (aw_t1 h)
    have hy_ : aw_I y := aw_h1 h
    have q := aw_lt hy_ hx_
    exact lv_icmp_gt hx hb hd ht (fun z => kt (q.mp z)) (fun z => kf (fun y => z (q.mpr y))))
theorem aw_if_le {x off : Int} {tgt : Nat} (hd : decode M.2.1 pc = .ok (.ifCond .le off, 3)) (ht : (pc : Int) + off = (tgt : Int)) (kt : x ≤ 0 → aw_AW l K M d tgt ls st w r) (kf : ¬ x ≤ 0 → aw_AW l K M d (pc + 3) ls st w r) : aw_AW l K M d pc ls (.inl x :: st) w r :=
  aw_br kt kf (fun h => aw_t1 h) (fun p e s m args below meth c H locs LS Q h hx hb kt kf => by
    have hx_ : aw_I x := aw_h1 h
    have h0_ : aw_I 0 := aw_I0
    have q := aw_le hx_ h0_
    exact lv_if_le hx hb hd ht (fun z => kt (q.mp z)) (fun z => kf (fun y => z (q.mpr y))))
theorem aw_icmp_le {x y off : Int} {tgt : Nat} (hd : decode M.2.1 pc = .ok (.if_icmp .le off, 3)) (ht : (pc : Int) + off = (tgt : Int)) (kt : x ≤ y → aw_AW l K M d tgt ls st w r) (kf : ¬ x ≤ y → aw_AW l K M d (pc + 3) ls st w r) : aw_AW l K M d pc ls (.inl y :: .inl x :: st) w r :=
  aw_br kt kf (fun h => aw_t1 (aw_t1 h)) (fun p e s m args below meth c H locs LS Q h hx hb kt kf => by
    have hx_ : aw_I x := aw_h1 (aw_t1 h)
    have hy_ : aw_I y := aw_h1 h
    have q := aw_le hx_ hy_
    exact lv_icmp_le hx hb hd ht (fun z => kt (q.mp z)) (fun z => kf (fun y => z (q.mpr y))))
theorem aw_if_ne {x off : Int} {tgt : Nat} (hd : decode M.2.1 pc = .ok (.ifCond .ne off, 3)) (ht : (pc : Int) + off = (tgt : Int)) (kt : ¬ x = 0 → aw_AW l K M d tgt ls st w r) (kf : x = 0 → aw_AW l K M d (pc + 3) ls st w r) : aw_AW l K M d pc ls (.inl x :: st) w r :=
  aw_br kt (fun h => kf (Classical.not_not.mp h)) (fun h => aw_t1 h) (fun p e s m args below meth c H locs LS Q h hx hb kt kf => by
    have q := aw_eq (show aw_I x from aw_h1 h) aw_I0
    exact lv_if_ne hx hb hd ht (fun z => kt (fun y => z (q.mpr y))) (fun z => kf (fun y => y (q.mp z))))
theorem aw_icmp_ne {x y off : Int} {tgt : Nat} (hd : decode M.2.1 pc = .ok (.if_icmp .ne off, 3)) (ht : (pc : Int) + off = (tgt : Int)) (kt : ¬ x = y → aw_AW l K M d tgt ls st w r) (kf : x = y → aw_AW l K M d (pc + 3) ls st w r) : aw_AW l K M d pc ls (.inl y :: .inl x :: st) w r :=
  aw_br kt (fun h => kf (Classical.not_not.mp h)) (fun h => aw_t1 (aw_t1 h)) (fun p e s m args below meth c H locs LS Q h hx hb kt kf => by
    have q := aw_eq (show aw_I x from aw_h1 (aw_t1 h)) (show aw_I y from aw_h1 h)
    exact lv_icmp_ne hx hb hd ht (fun z => kt (fun y => z (q.mpr y))) (fun z => kf (fun y => y (q.mp z))))
theorem aw_lcmp {x y : Int} (hd : decode M.2.1 pc = .ok (.lcmp, 1)) (k : aw_AW l K M d (pc + 1) ls (.inl (aw_cmpL x y) :: st) w r) : aw_AW l K M d pc ls (.inr (.inl y) :: .inr (.inl x) :: st) w r := by
  refine aw_step k (fun h => aw_ok1 (aw_t1 (aw_t1 h)) ?_) (fun p e s m args below meth c H locs LS Q h C _ _ _ k => W.lcmp C.1 C.2.1 hd ?_)
  · show aw_I (aw_cmpL x y)
    unfold aw_cmpL aw_I
    split
    · decide
    · split <;> decide
  · have hx_ : aw_L x := aw_h1 (aw_t1 h)
    have hy_ : aw_L y := aw_h1 h
    have e : lg_cmp (Int64.ofInt x) (Int64.ofInt y) = Int32.ofInt (aw_cmpL x y) := by
      unfold lg_cmp aw_cmpL
      simp only [aw_ltL hx_ hy_, aw_ltL hy_ hx_, aw_eqL hx_ hy_]
      split
      · rfl
      · split
        · rfl
        · rfl
    rw [e]
    exact k
theorem aw_tabOut {x dflt lo hi : Int} {offs : Array Int} {len tgt : Nat} (hd : decode M.2.1 pc = .ok (.tableswitch dflt lo hi offs, len)) (h : x < lo ∨ hi < x) (ht : (pc : Int) + dflt = (tgt : Int)) (k : aw_AW l K M d tgt ls st w r) : aw_AW l K M d pc ls (.inl x :: st) w r :=
  aw_step k (fun h => aw_t1 h) (fun p e s m args below meth c H locs LS Q h2 C _ _ _ k => lv_tableOut C.1 C.2.1 hd (by rw [aw_back (show aw_I x from aw_h1 h2)]; exact h) ht k)
theorem aw_tabIn {x dflt lo hi off : Int} {offs : Array Int} {len tgt : Nat} (hd : decode M.2.1 pc = .ok (.tableswitch dflt lo hi offs, len)) (h1 : lo ≤ x) (h2 : x ≤ hi) (ho : offs[(x - lo).toNat]? = some off) (ht : (pc : Int) + off = (tgt : Int)) (k : aw_AW l K M d tgt ls st w r) : aw_AW l K M d pc ls (.inl x :: st) w r :=
  aw_step k (fun h => aw_t1 h) (fun p e s m args below meth c H locs LS Q h C _ _ _ k => by
    have hb := aw_back (show aw_I x from aw_h1 h)
    exact lv_tableIn C.1 C.2.1 hd (by rw [hb]; omega) (by rw [hb]; omega) (by rw [hb]; exact ho) ht k)
theorem aw_look {x dflt off : Int} {ps : Array (Int × Int)} {len tgt : Nat} (hd : decode M.2.1 pc = .ok (.lookupswitch dflt ps, len)) (hp : (ps.toList.zip (ps.toList.drop 1)).all (fun (a, next) => a.1 < next.1) = true) (ho : Op.lookupswitch.offset ps.toList dflt x = off) (ht : (pc : Int) + off = (tgt : Int)) (k : aw_AW l K M d tgt ls st w r) : aw_AW l K M d pc ls (.inl x :: st) w r :=
  aw_step k (fun h => aw_t1 h) (fun p e s m args below meth c H locs LS Q h C _ _ _ k => lv_lookup C.1 C.2.1 hd hp (by rw [aw_back (show aw_I x from aw_h1 h)]; exact ho) ht k)
/-! answers -/
theorem aw_iret {x : Int} (hr : M.2.2.2 = some .int) (hd : decode M.2.1 pc = .ok (.ireturn, 1)) : aw_AW l K M d pc ls [.inl x] w (some (.inl x), w) := by
  intro hw hl ho
  refine ⟨⟨fun v hv => by cases hv; exact aw_h1 ho, hw⟩, fun p e s m args below meth c H locs LS C hP hS hL => ?_⟩
  have hlk := C.2.2.2.2.1
  exact W.iret C.1 C.2.1 (C.2.2.2.1.trans hr) (fun t ht _ => ⟨rfl, by rw [ht]; exact hP, hS.F ht⟩) hS.2.2 hd hlk
theorem aw_zret {x : Int} (hr : M.2.2.2 = some .boolean) (hx : x = 0 ∨ x = 1) (hd : decode M.2.1 pc = .ok (.ireturn, 1)) : aw_AW l K M d pc ls [.inl x] w (some (.inl x), w) := by
  intro hw hl ho
  refine ⟨⟨fun v hv => by cases hv; exact aw_h1 ho, hw⟩, fun p e s m args below meth c H locs LS C hP hS hL => ?_⟩
  have hlk := C.2.2.2.2.1
  exact W.zret C.1 C.2.1 (C.2.2.2.1.trans hr) (by rcases hx with rfl | rfl <;> decide) (fun t ht _ => ⟨rfl, by rw [ht]; exact hP, hS.F ht⟩) hS.2.2 hd hlk
theorem aw_lret {x : Int} (hr : M.2.2.2 = some .long) (hd : decode M.2.1 pc = .ok (.lreturn, 1)) : aw_AW l K M d pc ls [.inr (.inl x)] w (some (.inr (.inl x)), w) := by
  intro hw hl ho
  refine ⟨⟨fun v hv => by cases hv; exact aw_h1 ho, hw⟩, fun p e s m args below meth c H locs LS C hP hS hL => ?_⟩
  have hlk := C.2.2.2.2.1
  exact W.lret C.1 C.2.1 (C.2.2.2.1.trans hr) (fun t ht _ => ⟨rfl, by rw [ht]; exact hP, hS.F ht⟩) hS.2.2 hd hlk
theorem aw_vret (hr : M.2.2.2 = none) (hd : decode M.2.1 pc = .ok (.return_, 1)) : aw_AW l K M d pc ls [] w (none, w) := by
  intro hw hl ho
  refine ⟨⟨fun v hv => (by cases hv), hw⟩, fun p e s m args below meth c H locs LS C hP hS hL => ?_⟩
  have hlk := C.2.2.2.2.1
  exact W.vret C.1 C.2.1 (C.2.2.2.1.trans hr) (fun t ht _ => ⟨rfl, by rw [ht]; exact hP, hS.F ht⟩) hS.2.2 hd hlk
end AWB
