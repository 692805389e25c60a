/-! ===== the law's body: rules ===== -/
def lz_Q (below : List Frame) (a : Array Value) (s : State) : State → Prop := fun t => ∃ o, t.status = .running ∧ Ended t below o ∧ o = .returned (some (.int 1)) ∧ Framed s o t [] 601024 7293034
def lz_Cx (K : aw_K) (l : Launch) (p : Program) (s : State) (m : MethodId) (meth : Method) (c : Code) (b L : Nat) (xs : Nat → Int32) : Prop :=
  az_Cx K RL cL_law 7 p s m #[Value.ref b] c ∧ meth.sig.returnType = ret ∧ meth.locks = false ∧ va_X b L xs s s.heap ∧ b < s.heap.size ∧ K.2.2.2 = s.heap.size ∧ ax_X K s ∧ l.stackTraces = false ∧ L ≤ 3072
def lz_ls (K : aw_K) (b i : Nat) : List (Nat × Value) := [(4, .int (Int32.ofInt (i : Int))), (0, .ref b), (1, .ref (K.2.2.1 0)), (2, .ref (K.2.2.1 49)), (3, .ref (K.2.2.1 73))]
def lz_W (p : Program) (l : Launch) (e : Env) (s : State) (m : MethodId) (below : List Frame) (meth : Method) (c : Code) (K : aw_K) (b cells slots pc i : Nat) (st : List Value) (w : aw_W) : Prop :=
  ∀ (H : Heap) (locs : List Loc) (LS : Array Slot), aw_Hp K w H → va_S (aw_A K) s.heap H locs → lv_has LS 7 (lz_ls K b i) → W p l e room_1 s m #[Value.ref b] below meth c H locs cells slots (lz_Q below #[Value.ref b] s) (F0 m pc LS st)
section LZR
variable {p : Program} {l : Launch} {e : Env} {s : State} {m : MethodId} {below : List Frame} {meth : Method} {c : Code} {K : aw_K} {b L : Nat} {xs : Nat → Int32} {cells slots pc i : Nat} {st : List Value} {w : aw_W}
theorem lz_x (C : lz_Cx K l p s m meth c b L xs) (hd : decode cL_law pc = .ok (.aload_n 1, 1)) (k : lz_W p l e s m below meth c K b cells slots (pc + 1) i (.ref (K.2.2.1 0) :: st) w) : lz_W p l e s m below meth c K b cells slots pc i st w :=
  fun H locs LS hP hS hL => lv_aload_n C.1.1 C.1.2.1 hd rfl (lv_at hL 2 rfl) (k H locs LS hP hS hL)
theorem lz_m (C : lz_Cx K l p s m meth c b L xs) (hd : decode cL_law pc = .ok (.aload_n 2, 1)) (k : lz_W p l e s m below meth c K b cells slots (pc + 1) i (.ref (K.2.2.1 49) :: st) w) : lz_W p l e s m below meth c K b cells slots pc i st w :=
  fun H locs LS hP hS hL => lv_aload_n C.1.1 C.1.2.1 hd rfl (lv_at hL 3 rfl) (k H locs LS hP hS hL)
theorem lz_notA (C : lz_Cx K l p s m meth c b L xs) : ¬ aw_A K b := by
  obtain ⟨-, -, -, -, h5, h6, -⟩ := C
  show ¬ K.2.2.2 ≤ b
  omega
theorem lz_arg {k : Nat} {kI : Int} (hkI : kI = (k : Int)) (C : lz_Cx K l p s m meth c b L xs) (hi : i + k < L) (d0 : decode cL_law pc = .ok (.aload_n 0, 1)) (d1 : decode cL_law (pc + 1) = .ok (.iload 4, 2)) (d3 : decode cL_law (pc + 3) = .ok (.iconst kI, 1)) (d4 : decode cL_law (pc + 4) = .ok (.iadd, 1)) (d5 : decode cL_law (pc + 5) = .ok (.iaload, 1))
    (kk : lz_W p l e s m below meth c K b cells slots (pc + 6) i (.int (Int32.ofInt (xs (i + k)).toInt) :: st) w) : lz_W p l e s m below meth c K b cells slots pc i st w := by
  intro H locs LS hP hS hL
  subst hkI
  have hn := lz_notA C
  obtain ⟨⟨hx, hb, -⟩, -, -, hX, hbl, -, -, -, hLe⟩ := id C
  refine lv_aload_n hx hb d0 rfl (lv_at hL 1 rfl) ?_
  refine lv_iload hx hb d1 (lv_at hL 0 rfl) ?_
  refine lv_iconst (v := Int32.ofInt (k : Int)) hx hb d3 rfl ?_
  refine lv_iadd hx hb d4 ?_
  have hI : aw_I ((i : Int) + (k : Int)) := ⟨by omega, by omega⟩
  rw [aw_add32, aw_id hI]
  have hc : (Int32.ofInt ((i : Int) + (k : Int))).toNatClampNeg = i + k := by rw [aw_clamp hI]; omega
  refine va_sld hx hb hX hbl hn hS (aw_in hI (by omega) (by omega)) d5 ?_
  rw [hc, ← aw_bck (xs (i + k))]
  exact kk H locs LS hP hS hL
theorem lz_call {idx n j ci N d : Nat} {M' : aw_M} {as : List aw_V} {rest stk : List Value} {ks : List Nat} {T : u_T} {y : Int} {w1 : aw_W} (C : lz_Cx K l p s m meth c b L xs) (hd : decode cL_law pc = .ok (.invokevirtual idx, 3)) (hc : aw_CV RL idx M' n) (hj : j < aw_N) (hy : aw_lay j = .inl (ci, ks)) (hcl : vwCl[ci]? = some (M'.1.cls, T, N)) (hlen : as.length = n) (hstk : stk = (as.map (aw_cv K)).reverse ++ .ref (K.2.2.1 j) :: rest) (hroom : (rest.map fun v => v.category).sum ≤ 8) (hd2 : d ≤ 1000) (hcs : cells ≤ 601024) (hss : slots ≤ 7293034) (hok : aw_okw w) (hoa : ∀ v ∈ as, aw_ok v)
    (hM : aw_Met l K M' d (.inr (.inr j) :: as) w (some (.inl y), w1)) (kk : aw_I y → aw_okw w1 → lz_W p l e s m below meth c K b cells slots (pc + 3) i (.int (Int32.ofInt y) :: rest) w1) : lz_W p l e s m below meth c K b cells slots pc i stk w := by
  intro H locs LS hP hS hL
  exact az_callV C.1 hd hc hj hy hcl hlen hL.1 hstk hroom (show d + 2 ≤ 2048 by omega) (show 60 + 64 * (d + 1) ≤ 84000 by omega) hcs hss hok hoa hM hP hS (fun hr H1 locs1 hP1 hS1 => kk (hr.1 _ rfl) hr.2 H1 locs1 LS hP1 hS1 hL)
theorem lz_eq {off : Int} {y : Int32} (C : lz_Cx K l p s m meth c b L xs) (hd : decode cL_law pc = .ok (.if_icmp .eq off, 3)) (ht : (pc : Int) + off = ((1644 : Nat) : Int)) (k : lz_W p l e s m below meth c K b (cells + 1) (slots + 6) 1644 i [] w) : lz_W p l e s m below meth c K b cells slots pc i [.int y, .int y] w :=
  fun H locs LS hP hS hL => lv_icmp_eq (tgt := 1644) C.1.1 C.1.2.1 hd ht (fun _ => W.widen (by omega) (by omega) (k H locs LS hP hS hL)) (fun z => absurd rfl z)
def lz_long (xs : Nat → Int32) (i : Nat) : Int := aw_orL (aw_shlL (xs (i + 2)).toInt 32) (aw_andL (xs (i + 3)).toInt 4294967295)
theorem lz_ll (C : lz_Cx K l p s m meth c b L xs) (hi : i + 6 ≤ L) (hc : Cond.constantLong RL 123 (Int64.ofInt 4294967295) ∈ aw_G)
    (e0 : decode cL_law pc = .ok (.aload_n 0, 1)) (e1 : decode cL_law (pc + 1) = .ok (.iload 4, 2)) (e3 : decode cL_law (pc + 3) = .ok (.iconst 2, 1)) (e4 : decode cL_law (pc + 4) = .ok (.iadd, 1)) (e5 : decode cL_law (pc + 5) = .ok (.iaload, 1))
    (e6 : decode cL_law (pc + 6) = .ok (.i2l, 1)) (e7 : decode cL_law (pc + 7) = .ok (.bipush 32, 2)) (e9 : decode cL_law (pc + 9) = .ok (.lshl, 1))
    (f0 : decode cL_law (pc + 10) = .ok (.aload_n 0, 1)) (f1 : decode cL_law (pc + 11) = .ok (.iload 4, 2)) (f3 : decode cL_law (pc + 13) = .ok (.iconst 3, 1)) (f4 : decode cL_law (pc + 14) = .ok (.iadd, 1)) (f5 : decode cL_law (pc + 15) = .ok (.iaload, 1))
    (f6 : decode cL_law (pc + 16) = .ok (.i2l, 1)) (f7 : decode cL_law (pc + 17) = .ok (.ldc2_w 123, 3)) (g0 : decode cL_law (pc + 20) = .ok (.land, 1)) (g1 : decode cL_law (pc + 21) = .ok (.lor, 1))
    (kk : lz_W p l e s m below meth c K b cells slots (pc + 22) i (.long (Int64.ofInt (lz_long xs i)) :: st) w) : lz_W p l e s m below meth c K b cells slots pc i st w := by
  refine lz_arg (k := 2) rfl C (by omega) e0 e1 e3 e4 e5 ?_
  intro H locs LS hP hS hL
  obtain ⟨⟨hx, hb, hml, hown, hts, -⟩, -⟩ := id C
  refine lv_i2l (v := Int64.ofInt (xs (i + 2)).toInt) hx hb e6 (aw_wide (aw_Ii _)) ?_
  refine lv_bipush (v := Int32.ofInt 32) hx hb e7 (by decide) ?_
  refine lv_lshl (v := Int64.ofInt (aw_shlL (xs (i + 2)).toInt 32)) hx hb e9 (aw_bckL _).symm ?_
  revert H locs LS
  refine lz_arg (pc := pc + 10) (k := 3) rfl C (by omega) f0 f1 f3 f4 f5 ?_
  intro H locs LS hP hS hL
  refine lv_i2l (v := Int64.ofInt (xs (i + 3)).toInt) hx hb f6 (aw_wide (aw_Ii _)) ?_
  refine lv_ldc2 (v := Int64.ofInt 4294967295) hx hb hown (hts _ hc) f7 ?_
  refine lv_land hx hb g0 ?_
  rw [← aw_bckL (Int64.ofInt (xs (i + 3)).toInt &&& Int64.ofInt 4294967295)]
  refine lv_lor hx hb g1 ?_
  rw [← aw_bckL (Int64.ofInt (aw_shlL (xs (i + 2)).toInt 32) ||| Int64.ofInt (Int64.ofInt (xs (i + 3)).toInt &&& Int64.ofInt 4294967295).toInt)]
  exact kk H locs LS hP hS hL
theorem lz_oa1 {x : Int32} : ∀ v ∈ ([.inl x.toInt] : List aw_V), aw_ok v := fun v hv => by
  rcases List.mem_cons.mp hv with rfl | hv
  · exact aw_Ii x
  · cases hv
theorem lz_oa {x : Int32} {as : List aw_V} (h : ∀ v ∈ as, aw_ok v) : ∀ v ∈ (.inl x.toInt :: as : List aw_V), aw_ok v := aw_ok1 h (show aw_I x.toInt from aw_Ii x)
theorem lz_oaL {x : Int} {as : List aw_V} (hx : aw_L x) (h : ∀ v ∈ as, aw_ok v) : ∀ v ∈ (.inr (.inl x) :: as : List aw_V), aw_ok v := aw_ok1 h (show aw_L x from hx)
theorem lz_oa0 : ∀ v ∈ ([] : List aw_V), aw_ok v := fun v hv => by cases hv
end LZR
