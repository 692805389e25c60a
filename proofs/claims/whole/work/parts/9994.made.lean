/-! ===== constructors: the cells made so far are pre ++ tl; this one and what it has made are tl ===== -/
def ac_Cx (K : aw_K) (M : aw_M) (p : Program) (s : State) (m : MethodId) (args : Array Value) (meth : Method) (c : Code) : Prop :=
  p.tables.exec = Jvm.exec ∧ c.code = M.2.1 ∧ c.maxLocals = M.2.2.1 ∧ meth.sig.returnType = M.2.2.2 ∧ meth.locks = false ∧ meth.name = M.1.name ∧ s.vm.findClass M.1.cls = some m.cls ∧ (∀ w ∈ aw_G, w.before args s = true) ∧ va_K K.1 vwCl (aw_tys K) s ∧ aw_St K s ∧ K.2.2.2 ≤ s.heap.size
def ac_Pc (K : aw_K) (as : List Value) (ws : va_W) : Array Value → State → Prop := fun v U => v = as.toArray ∧ va_P K.1 vwCl ws U.heap ∧ va_D (aw_A K) ws ∧ va_K K.1 vwCl (aw_tys K) U ∧ aw_St K U ∧ K.2.2.2 ≤ U.heap.size
def ac_Qc (K : aw_K) (pre : va_W) (post : va_W → Prop) : Array Value → State → Outcome → State → Prop := fun _ st oc t => oc = .returned none ∧ (∃ tl, post tl ∧ va_P K.1 vwCl (pre ++ tl) t.heap ∧ va_D (aw_A K) (pre ++ tl)) ∧ va_F (aw_A K) st t
def ac_rm (d mc ms : Nat) : Room := { frames := d + 1, cells := mc, slots := ms, locals := 64 * (d + 1) }
def ac_Met (l : Launch) (K : aw_K) (M : aw_M) (d mc ms : Nat) (as : List Value) (pre tl : va_W) (post : va_W → Prop) : Prop :=
  Met l M.1 (aw_ws M) (ac_rm d mc ms) (ac_Pc K as (pre ++ tl)) (ac_Qc K pre post) mc ms (aw_A K)
def ac_AW (p : Program) (l : Launch) (e : Env) (R : Room) (s : State) (m : MethodId) (args : Array Value) (below : List Frame) (meth : Method) (c : Code) (Q : State → Prop) (K : aw_K) (M : aw_M) (cells slots pc : Nat) (ls : List (Nat × Value)) (st : List Value) (pre tl : va_W) : Prop :=
  ∀ (H : Heap) (locs : List Loc) (LS : Array Slot), va_P K.1 vwCl (pre ++ tl) H → va_D (aw_A K) (pre ++ tl) → va_S (aw_A K) s.heap H locs → lv_has LS M.2.2.1 ls → W p l e R s m args below meth c H locs cells slots Q (F0 m pc LS st)
section ACW
variable {p : Program} {l : Launch} {e : Env} {R : Room} {s : State} {m : MethodId} {args : Array Value} {below : List Frame} {meth : Method} {c : Code} {Q : State → Prop} {K : aw_K} {M : aw_M} {cells slots pc : Nat} {ls : List (Nat × Value)} {st : List Value} {pre tl : va_W}
theorem ac_tl {tl' : va_W} (h : tl = tl') (k : ac_AW p l e R s m args below meth c Q K M cells slots pc ls st pre tl') : ac_AW p l e R s m args below meth c Q K M cells slots pc ls st pre tl := by
  rw [h]
  exact k
theorem ac_at (j : Nat) : (pre ++ tl)[pre.length + j]? = tl[j]? := by
  rw [List.getElem?_append_right (Nat.le_add_right _ _), Nat.add_sub_cancel_left]
theorem ac_set (j : Nat) (x : Nat × va_E) : (pre ++ tl).set (pre.length + j) x = pre ++ tl.set j x := by
  rw [List.set_append_right _ _ (Nat.le_add_right _ _), Nat.add_sub_cancel_left]
theorem ac_grow {C : ac_Cx K M p s m args meth c} : ∀ q, s.heap.size ≤ q → aw_A K q := fun q h => Nat.le_trans C.2.2.2.2.2.2.2.2.2.2 h
theorem ac_aload_n {i : Fin 4} {q : Nat} {a : Nat} (C : ac_Cx K M p s m args meth c) (hd : decode M.2.1 pc = .ok (.aload_n i, 1)) (hk : ls[q]? = some ((i : Nat), .ref a)) (k : ac_AW p l e R s m args below meth c Q K M cells slots (pc + 1) ls (.ref a :: st) pre tl) : ac_AW p l e R s m args below meth c Q K M cells slots pc ls st pre tl :=
  fun H locs LS hP hD hS hL => lv_aload_n C.1 C.2.1 hd rfl (hL.2.2 _ (List.mem_of_getElem? hk)) (k H locs LS hP hD hS hL)
theorem ac_dup {a : Nat} (C : ac_Cx K M p s m args meth c) (hd : decode M.2.1 pc = .ok (.dup, 1)) (k : ac_AW p l e R s m args below meth c Q K M cells slots (pc + 1) ls (.ref a :: .ref a :: st) pre tl) : ac_AW p l e R s m args below meth c Q K M cells slots pc ls (.ref a :: st) pre tl :=
  fun H locs LS hP hD hS hL => lv_dup C.1 C.2.1 hd rfl (k H locs LS hP hD hS hL)
theorem ac_iconst {n : Int} {x : Int32} (C : ac_Cx K M p s m args meth c) (hd : decode M.2.1 pc = .ok (.iconst n, 1)) (hn : Int32.ofInt n = x) (k : ac_AW p l e R s m args below meth c Q K M cells slots (pc + 1) ls (.int x :: st) pre tl) : ac_AW p l e R s m args below meth c Q K M cells slots pc ls st pre tl :=
  fun H locs LS hP hD hS hL => lv_iconst C.1 C.2.1 hd hn (k H locs LS hP hD hS hL)
theorem ac_bipush {n : Int} {x : Int32} (C : ac_Cx K M p s m args meth c) (hd : decode M.2.1 pc = .ok (.bipush n, 2)) (hn : (Int8.ofInt n).toInt32 = x) (k : ac_AW p l e R s m args below meth c Q K M cells slots (pc + 2) ls (.int x :: st) pre tl) : ac_AW p l e R s m args below meth c Q K M cells slots pc ls st pre tl :=
  fun H locs LS hP hD hS hL => lv_bipush C.1 C.2.1 hd hn (k H locs LS hP hD hS hL)
theorem ac_sipush {n : Int} {x : Int32} (C : ac_Cx K M p s m args meth c) (hd : decode M.2.1 pc = .ok (.sipush n, 3)) (hn : (Int16.ofInt n).toInt32 = x) (k : ac_AW p l e R s m args below meth c Q K M cells slots (pc + 3) ls (.int x :: st) pre tl) : ac_AW p l e R s m args below meth c Q K M cells slots pc ls st pre tl :=
  fun H locs LS hP hD hS hL => lv_sipush C.1 C.2.1 hd hn (k H locs LS hP hD hS hL)
def ac_CO (own : String) (idx : Nat) : Prop := Cond.methodLink own idx Lib.objectInit ∈ aw_G ∧ Cond.instanceMethod Lib.objectInit ∈ aw_G ∧ Cond.code Lib.objectInit ⟨#[0xb1]⟩ 1 none ∈ aw_G
theorem ac_obj {idx a : Nat} (C : ac_Cx K M p s m args meth c) (hd : decode M.2.1 pc = .ok (.invokespecial idx, 3)) (ho : ac_CO M.1.cls idx) (hf : 1 ≤ R.frames) (hr : (st.map fun v => v.category).sum + 12 ≤ R.locals) (k : ac_AW p l e R s m args below meth c Q K M cells slots (pc + 3) ls st pre tl) : ac_AW p l e R s m args below meth c Q K M cells slots pc ls (.ref a :: st) pre tl := by
  intro H locs LS hP hD hS hL
  obtain ⟨hx, hb, hml, -, -, -, hown, hts, -⟩ := id C
  refine W.objInit hx hb hown (hts _ ho.1) (hts _ ho.2.1) (hts _ ho.2.2) rfl (by rw [hml]; exact hL.1) rfl hd hf (by show 2 * 0 + _ + 12 ≤ _; omega) ?_
  exact k H locs LS hP hD hS hL
theorem ac_ra {U : State} {cA cB : ClassId} {ty : FieldType} (h : ty = .int ∨ ty = .byte ∨ ty = .boolean ∨ ty = .long) (hA : va_RA U cA ty) (hB : va_RA U cB ty) : cA = cB := by
  rcases h with rfl | rfl | rfl | rfl
  · exact Option.some.inj (Eq.trans (Eq.symm (show U.vm.findClass _ = some cA from hA)) (show U.vm.findClass _ = some cB from hB))
  · exact Option.some.inj (Eq.trans (Eq.symm (show U.vm.findClass _ = some cA from hA)) (show U.vm.findClass _ = some cB from hB))
  · exact Option.some.inj (Eq.trans (Eq.symm (show U.vm.findClass _ = some cA from hA)) (show U.vm.findClass _ = some cB from hB))
  · exact Option.some.inj (Eq.trans (Eq.symm (show U.vm.findClass _ = some cA from hA)) (show U.vm.findClass _ = some cB from hB))
theorem ac_newa {atype : ArrayType} {ty : FieldType} {t n : Nat} {x : Int32} {a0 : vp_A} (C : ac_Cx K M p s m args meth c) (hd : decode M.2.1 pc = .ok (.newarray atype, 2)) (hty : newarray.typeOf atype = ty) (harr : Cond.arrayClass ty ∈ aw_G) (hp : ty = .int ∨ ty = .byte ∨ ty = .boolean ∨ ty = .long) (ht : (aw_tys K)[t]? = some (K.2.1 t, ty)) (ha : ∀ cA : ClassId, vp_cell cA a0 = arrV cA n (fun _ => defaultValue ty)) (h0 : ¬ x < 0) (hn : x.toNatClampNeg = n) (hby : n * componentBytes ty ≤ 536870912) (hc : cells + 1 ≤ R.cells) (hs : slots + n ≤ R.slots)
    (k : ∀ q : Nat, ac_AW p l e R s m args below meth c Q K M (cells + 1) (slots + n) (pc + 2) ls (.ref q :: st) pre (tl ++ [(q, .inl (K.2.1 t, a0))])) : ac_AW p l e R s m args below meth c Q K M cells slots pc ls (.int x :: st) pre tl := by
  intro H locs LS hP hD hS hL
  have hg := ac_grow (C := C)
  obtain ⟨hx, hb, hml, -, -, -, hown, hts, hK, -⟩ := id C
  subst hty
  refine va_newa hx hb (hts _ harr) rfl hK hP hD hS hg ha h0 hn hby hc hs hd (fun q cA H1 hK1 hP1 hD1 hS1 => ?_)
  have e : cA = K.2.1 t := by
    have h1 := (hK1.2 4 (cA, _) rfl).2
    have h2 := (hK.2 t _ ht).2
    exact ac_ra hp h1 h2
  subst e
  rw [List.append_assoc] at hP1 hD1
  exact k q H1 locs LS hP1 hD1 hS1 hL
def ac_FF (own : String) (idx ci k : Nat) (ty : FieldType) : Prop := ∃ (C : String) (T : u_T) (N : Nat) (ty0 : Nat → FieldType), vwCl[ci]? = some (C, T, N) ∧ k < N ∧ (∀ w ∈ u_ws C T N, w ∈ aw_G) ∧ Cond.fieldLink own idx (T k).1 (T k).2.1 (T k).2.2.1 ∈ aw_G ∧ (∀ k, k < N → parseFieldDescriptor (T k).2.2.1 = some (ty0 k)) ∧ (∀ a, a < N → ∀ b, b < N → a ≠ b → (T a).2.1 ≠ (T b).2.1) ∧ (T k).2.2.2 = true ∧ (T k).1 = own ∧ ty0 k = ty
theorem ac_putF {idx ci k j a : Nat} {ty : FieldType} {fs : List Value} {v : Value} {tl' : va_W} (C : ac_Cx K M p s m args meth c) (hd : decode M.2.1 pc = .ok (.putfield idx, 3)) (hf : ac_FF M.1.cls idx ci k ty) (hI : M.1.name = "<init>") (he : tl[j]? = some (a, .inr (ci, fs))) (hn : narrow ty v = v) (hft : fits ty v = true) (hl : k < fs.length) (htl : tl.set j (a, .inr (ci, fs.set k v)) = tl')
    (kk : ac_AW p l e R s m args below meth c Q K M cells slots (pc + 3) ls st pre tl') : ac_AW p l e R s m args below meth c Q K M cells slots pc ls (v :: .ref a :: st) pre tl := by
  intro H locs LS hP hD hS hL
  subst htl
  obtain ⟨hx, hb, hml, -, -, hin, hown, hts, hK, -⟩ := id C
  obtain ⟨D, T, N, ty0, h1, h2, h3, h4, h5, h6, h7, h9, h8⟩ := hf
  refine va_putF hx hb hts h3 ty0 h5 h6 hown hK hP hD hS (pre.length + j) (by rw [ac_at]; exact he) h1 k h2 (hts _ h4) (fun x h => h) h7 (by rw [hin]; exact hI) h9 (ty := ty) (by rw [h5 k h2, h8]) hn hft hl hd (fun H1 locs1 hP1 hD1 hS1 => ?_)
  rw [ac_set] at hP1 hD1
  exact kk H1 locs1 LS hP1 hD1 hS1 hL
theorem ac_put {idx ci k j a : Nat} {ty : FieldType} {fs : List Value} {v : Value} {tl' : va_W} (C : ac_Cx K M p s m args meth c) (hd : decode M.2.1 pc = .ok (.putfield idx, 3)) (hf : aw_FP M.1.cls idx ci k ty) (he : tl[j]? = some (a, .inr (ci, fs))) (hn : narrow ty v = v) (hft : fits ty v = true) (hl : k < fs.length) (htl : tl.set j (a, .inr (ci, fs.set k v)) = tl')
    (kk : ac_AW p l e R s m args below meth c Q K M cells slots (pc + 3) ls st pre tl') : ac_AW p l e R s m args below meth c Q K M cells slots pc ls (v :: .ref a :: st) pre tl := by
  intro H locs LS hP hD hS hL
  subst htl
  obtain ⟨hx, hb, hml, -, -, hin, hown, hts, hK, -⟩ := id C
  obtain ⟨D, T, N, ty0, h1, h2, h3, h4, h5, h6, h7, h8⟩ := hf
  refine va_put hx hb hts h3 ty0 h5 h6 hown hK hP hD hS (pre.length + j) (by rw [ac_at]; exact he) h1 k h2 (hts _ h4) (fun x h => h) h7 (ty := ty) (by rw [h5 k h2, h8]) hn hft hl hd (fun H1 locs1 hP1 hD1 hS1 => ?_)
  rw [ac_set] at hP1 hD1
  exact kk H1 locs1 LS hP1 hD1 hS1 hL
theorem ac_getf {idx ci k j a : Nat} {fs : List Value} {v : Value} (C : ac_Cx K M p s m args meth c) (hd : decode M.2.1 pc = .ok (.getfield idx, 3)) (hf : aw_FL M.1.cls idx ci k) (he : tl[j]? = some (a, .inr (ci, fs))) (hv : fs[k]? = some v) (kk : ac_AW p l e R s m args below meth c Q K M cells slots (pc + 3) ls (v :: st) pre tl) : ac_AW p l e R s m args below meth c Q K M cells slots pc ls (.ref a :: st) pre tl := by
  intro H locs LS hP hD hS hL
  obtain ⟨hx, hb, hml, -, -, hin, hown, hts, hK, -⟩ := id C
  obtain ⟨D, T, N, h1, h2, h3, h4⟩ := hf
  exact va_get hx hb hts h3 hown hK hP (pre.length + j) (by rw [ac_at]; exact he) h1 k h2 (hts _ h4) (fun x h => h) hv hd (kk H locs LS hP hD hS hL)
def ac_CL (own : String) (idx ci : Nat) (fs : List Value) (N : Nat) : Prop := ∃ (C : String) (T : u_T) (ty0 : Nat → FieldType), vwCl[ci]? = some (C, T, N) ∧ (∀ w ∈ u_ws C T N, w ∈ aw_G) ∧ (∀ k, k < N → parseFieldDescriptor (T k).2.2.1 = some (ty0 k)) ∧ Cond.classLink own idx C ∈ aw_G ∧ Cond.instantiable C N ∈ aw_G ∧ Cond.initialized C ∈ aw_G ∧ ∀ j, j < N → defaultValue (ty0 j) = vp_V fs j
theorem ac_new {idx ci N : Nat} {fs : List Value} (C : ac_Cx K M p s m args meth c) (hd : decode M.2.1 pc = .ok (.new idx, 3)) (hl : ac_CL M.1.cls idx ci fs N) (hc : cells + 1 ≤ R.cells) (hs : slots + N ≤ R.slots)
    (kk : ∀ q : Nat, ac_AW p l e R s m args below meth c Q K M (cells + 1) (slots + N) (pc + 3) ls (.ref q :: st) pre (tl ++ [(q, .inr (ci, fs))])) : ac_AW p l e R s m args below meth c Q K M cells slots pc ls st pre tl := by
  intro H locs LS hP hD hS hL
  have hg := ac_grow (C := C)
  obtain ⟨hx, hb, hml, -, -, hin, hown, hts, hK, -⟩ := id C
  obtain ⟨D, T, ty0, h1, h2, h3, h4, h5, h6, h7⟩ := hl
  refine va_new hx hb hts h2 ty0 h3 hown (hts _ h4) (hts _ h5) (hts _ h6) hK hP hD hS hg h1 h7 hc hs hd (fun q H1 hP1 hD1 hS1 => ?_)
  rw [List.append_assoc] at hP1 hD1
  exact kk q H1 locs LS hP1 hD1 hS1 hL
/-- a constructor is called on the cell made last -/
def ac_CI (own : String) (idx : Nat) (M' : aw_M) (n : Nat) : Prop := (aw_CB M' n ∧ M'.2.2.2 = none ∧ M'.1.name = "<init>" ∧ Cond.instanceMethod M'.1 ∈ aw_G) ∧ (Cond.methodLink own idx M'.1 ∈ aw_G ∨ ∃ host, Cond.methodLinkNest own idx M'.1 host ∈ aw_nest)
theorem ac_after {LS : Array Slot} {st0 rest : List Value} {a : Array Value} {mc ms : Nat} {pr : va_W} {post : va_W → Prop} {H : Heap} {locs : List Loc}
    (hr : va_Run p l e R s m args below meth c H locs cells slots mc ms (F0 m pc LS st0) rest (ac_Qc K pr post a) (aw_A K)) (hS : va_S (aw_A K) s.heap H locs)
    (kk : ∀ (H1 : Heap) (locs1 : List Loc) (t1 : va_W), post t1 → va_P K.1 vwCl (pr ++ t1) H1 → va_D (aw_A K) (pr ++ t1) → va_S (aw_A K) s.heap H1 locs1 → W p l e R s m args below meth c H1 locs1 (cells + mc) (slots + ms) Q (F0 m (pc + 3) LS rest)) : W p l e R s m args below meth c H locs cells slots Q (F0 m pc LS st0) := by
  intro T hT X
  obtain ⟨v, st₀, t, T', L, h0, X', hL, e1, e2, ⟨hv, ⟨t1, hp, hP, hD⟩, hz, hk⟩, stp⟩ := hr T hT X
  have hv' : v = none := Outcome.returned.inj hv
  subst hv'
  rw [h0] at hz hk
  obtain ⟨t2, a1, b1⟩ := kk T'.heap (locs ++ L) t1 hp (by rw [e1]; exact hP) hD
    ⟨Nat.le_trans hS.1 (by rw [e1]; exact hz), fun q h1 h2 => by rw [e1, hk q (Nat.lt_of_lt_of_le h1 hS.1) h2]; exact hS.2.1 q h1 h2, fun q hq => by
      rcases List.mem_append.mp hq with h | h
      · exact hS.2.2 q h
      · exact hL q h⟩ T' rfl X'
  exact ⟨t2, stp t2 a1, b1⟩
theorem ac_blind (as : List Value) (ws : va_W) : FrameBlind (ac_Pc K as ws) := by
  intro a U g mk q
  obtain ⟨h1, h2, h3, h4, h5, h6⟩ := q
  exact ⟨h1, h2, h3, va_K.moved (u := U) (U := U.calling g mk a) (Vm.Alike.refl U.vm) h4, aw_St.same (u := U) (U := U.calling g mk a) rfl rfl h5, h6⟩
theorem ac_goodw (M' : aw_M) (hM : Cond.code M'.1 M'.2.1 M'.2.2.1 M'.2.2.2 ∈ lw_tbl) : GoodIn aw_G (aw_ws M') := aw_good M' (fun _ h => h) hM
theorem ac_call {idx n d mc ms a : Nat} {M' : aw_M} {As rest stk : List Value} {tl0 : va_W} {x : Nat × va_E} {post : va_W → Prop} (C : ac_Cx K M p s m args meth c) (hd : decode M.2.1 pc = .ok (.invokespecial idx, 3)) (hc : ac_CI M.1.cls idx M' n) (hlen : As.length = n) (hstk : stk = As.reverse ++ .ref a :: rest) (hroom : (rest.map fun v => v.category).sum ≤ 8) (hfr : d + 2 ≤ R.frames) (hlo : 60 + 64 * (d + 1) ≤ R.locals) (hcl : cells + mc ≤ R.cells) (hsl : slots + ms ≤ R.slots) (htl : tl = tl0 ++ [x])
    (hM : ac_Met l K M' d mc ms (.ref a :: As) (pre ++ tl0) [x] post)
    (kk : ∀ t1, post t1 → ac_AW p l e R s m args below meth c Q K M (cells + mc) (slots + ms) (pc + 3) ls rest pre (tl0 ++ t1)) : ac_AW p l e R s m args below meth c Q K M cells slots pc ls stk pre tl := by
  intro H locs LS hP hD hS hL
  subst hstk
  subst htl
  obtain ⟨hx, hb, hml, -, -, hin, hown, hts, hK, hSt, hbs⟩ := id C
  rw [← List.append_assoc] at hP hD
  obtain ⟨⟨⟨c1, c2, c3, c4⟩, hret, hinit, hinst⟩, hlink⟩ := hc
  obtain ⟨My, Mc, Ml, Mr⟩ := M'
  dsimp only at hret hinit hinst c1 c2 c3 c4
  subst hret
  have hrooms : (ac_rm d mc ms).frames + 1 ≤ R.frames ∧ 8 + (Ml + 11) + (ac_rm d mc ms).locals ≤ R.locals := by
    show d + 1 + 1 ≤ R.frames ∧ 8 + (Ml + 11) + 64 * (d + 1) ≤ R.locals
    omega
  have hpre : PreS s H (ac_Pc K (.ref a :: As) ((pre ++ tl0) ++ [x])) (.ref a :: As) := ⟨ac_blind _ _, fun U hU hW => ⟨rfl, by rw [hU]; exact hP, hD, va_K.moved hW.alike hK, hSt.go hW hU hS, by rw [hU]; exact Nat.le_trans hbs hS.1⟩⟩
  have hrun : va_Run p l e R s m args below meth c H locs cells slots mc ms (F0 m pc LS (As.reverse ++ .ref a :: rest)) rest (ac_Qc K (pre ++ tl0) post (Value.ref a :: As).toArray) (aw_A K) := by
    rcases hlink with h | ⟨host, h⟩
    · exact va_runI (As := As) (rest := rest) (nL := M.2.2.1) (Ts := aw_G) ⟨hx, hb, hml, hown, hts⟩ hM ⟨callB_of n hts (ac_goodw (My, Mc, Ml, none) c1) rfl rfl rfl (hts _ c3) (hts _ h) c2 hrooms, hinit, hts _ hinst⟩ hpre rfl hlen hL.1 rfl (lv_room hroom) hd ⟨hcl, hsl⟩
    · exact va_runIN (As := As) (rest := rest) (nL := M.2.2.1) (Ts := aw_G) ⟨hx, hb, hml, hown, hts⟩ hM ⟨va_cnB n hts (ac_goodw (My, Mc, Ml, none) c1) rfl rfl rfl (hSt.2.2.2 _ h) (hts _ c3) c2 hrooms, hinit, hts _ hinst⟩ hpre rfl hlen hL.1 rfl (lv_room hroom) hd ⟨hcl, hsl⟩
  refine ac_after hrun hS (fun H1 locs1 t1 hp hP1 hD1 hS1 => ?_)
  rw [List.append_assoc] at hP1 hD1
  exact kk t1 hp H1 locs1 LS hP1 hD1 hS1 hL
theorem ac_ret {mc ms : Nat} {post : va_W → Prop} (C : ac_Cx K M p s m args meth c) (hd : decode M.2.1 pc = .ok (.return_, 1)) (hr : M.2.2.2 = none) (hc : cells ≤ mc) (hs : slots ≤ ms) (hp : post tl) : ac_AW p l e R s m args below meth c (MQ below (ac_Qc K pre post) args s mc ms (aw_A K)) K M cells slots pc ls [] pre tl := by
  intro H locs LS hP hD hS hL
  obtain ⟨hx, hb, hml, hrt, hlk, hin, hown, hts, hK, hSt, hbs⟩ := id C
  refine W.widen hc hs ?_
  exact W.vret hx hb (hrt.trans hr) (fun t ht hW => ⟨rfl, ⟨tl, hp, by rw [ht]; exact hP, hD⟩, hS.F ht⟩) hS.2.2 hd hlk
theorem ac_enter {d mc ms : Nat} {as : List Value} {post : va_W → Prop} (hy : plainName M.1.cls = true) (hn : (lg_sl as).length ≤ M.2.2.1) (h : ∀ (p : Program) (e : Env) (s : State) (m : MethodId) (args : Array Value) (below : List Frame) (meth : Method) (c : Code), ac_Cx K M p s m args meth c → ac_AW p l e (ac_rm d mc ms) s m args below meth c (MQ below (ac_Qc K pre post) args s mc ms (aw_A K)) K M 0 0 0 (lv_args 0 as) [] pre tl) : ac_Met l K M d mc ms as pre tl post := by
  refine Met.ofW (cc := M.2.1) (maxL := M.2.2.1) (ret := M.2.2.2) hy rfl ?_
  intro p e s m args below meth c s₁ B hml hv
  obtain ⟨rfl, hP, hD, hK, hSt, hb0⟩ := hv
  have hl := lv_entry as hn
  rw [lg_entry_eq]
  generalize (lg_sl as ++ List.replicate (M.2.2.1 - (lg_sl as).length) Slot.unset).toArray = LS at hl ⊢
  have hts := atoms_spec (ws := aw_ws M) B.pre
  exact h p e s m _ below meth c ⟨B.exec, B.bytes, hml, B.returns, B.notSynchronized, (name_of_methodNamed B.named B.method).1, findClass_of_methodNamed B.named, fun w hw => hts w (aw_G_in M w hw), hK, hSt, hb0⟩ s.heap [] LS hP hD va_S.rf hl
/-! the static array of letters; the texts -/
theorem ac_letters {idx : Nat} {j : Nat} {q : String × String × List Int} {x : Int32} (C : ac_Cx K M p s m args meth c) (hd : decode M.2.1 pc = .ok (.getstatic idx, 3)) (hd2 : decode M.2.1 (pc + 3) = .ok (.arraylength, 1)) (hq : aw_stats[j]? = some q) (hf : Cond.fieldLink M.1.cls idx q.1 q.2.1 "[I" ∈ aw_G) (hx : Int32.ofNat q.2.2.length = x) (k : ac_AW p l e R s m args below meth c Q K M cells slots (pc + 4) ls (.int x :: st) pre tl) : ac_AW p l e R s m args below meth c Q K M cells slots pc ls st pre tl := by
  intro H locs LS hP hD hS hL
  obtain ⟨hx, hb, hml, hrt, hlk, hin, hown, hts, hK, hSt, hbs⟩ := id C
  refine va_gets hx hb (hSt.1 j q hq).1 hS hown (hts _ hf) (fun x h => h) hd ?_
  exact va_tlen hx hb (hSt.1 j q hq).2 hS (by assumption) hd2 (k H locs LS hP hD hS hL)
theorem ac_y (C : ac_Cx K M p s m args meth c) (hM : M.1.cls = "SecondHasModel") (hd : decode M.2.1 pc = .ok (.ldc 26, 2)) (k : ac_AW p l e R s m args below meth c Q K M cells slots (pc + 2) ls (.ref (K.2.2.1 220) :: st) pre tl) : ac_AW p l e R s m args below meth c Q K M cells slots pc ls st pre tl := by
  intro H locs LS hP hD hS hL
  obtain ⟨hx, hb, hml, hrt, hlk, hin, hown, hts, hK, hSt, hbs⟩ := id C
  rw [hM] at hown
  exact va_ldcS hx hb hown hSt.2.1.2.2.1 hd (k H locs LS hP hD hS hL)
theorem ac_dabolt (C : ac_Cx K M p s m args meth c) (hM : M.1.cls = "SecondHasModel") (hd : decode M.2.1 pc = .ok (.ldc 32, 2)) (k : ac_AW p l e R s m args below meth c Q K M cells slots (pc + 2) ls (.ref (K.2.2.1 221) :: st) pre tl) : ac_AW p l e R s m args below meth c Q K M cells slots pc ls st pre tl := by
  intro H locs LS hP hD hS hL
  obtain ⟨hx, hb, hml, hrt, hlk, hin, hown, hts, hK, hSt, hbs⟩ := id C
  rw [hM] at hown
  exact va_ldcS hx hb hown hSt.2.1.2.2.2.1 hd (k H locs LS hP hD hS hL)
end ACW
