/-! ===== the abstract walk: values, worlds, contracts ===== -/
abbrev aw_V : Type := Int ⊕ (Int ⊕ Nat)
abbrev aw_W : Type := Nat → Nat → Int
def aw_up (w : aw_W) (i k : Nat) (x : Int) : aw_W := fun a b => if a = i ∧ b = k then x else w a b
/-- field and class numbers, array classes, addresses of cells, the size of the heap at the law's entry -/
abbrev aw_K : Type := va_G × (Nat → ClassId) × (Nat → Nat) × Nat
def aw_ok : aw_V → Prop
  | .inl x => aw_I x
  | .inr (.inl x) => aw_L x
  | .inr (.inr _) => True
def aw_cv (K : aw_K) : aw_V → Value
  | .inl x => .int (Int32.ofInt x)
  | .inr (.inl x) => .long (Int64.ofInt x)
  | .inr (.inr i) => .ref (K.2.2.1 i)
def aw_fr (kd : Nat) (x : Int) : aw_V := match kd with
  | 0 => .inl x
  | 1 => .inr (.inl x)
  | 2 => .inr (.inr x.toNat)
  | k + 3 => .inr (.inr k)
def aw_fs (K : aw_K) (ks : List Nat) (f : Nat → Int) : List Value := (List.range ks.length).map (fun k => aw_cv K (aw_fr (ks.getD k 0) (f k)))
def aw_cl (K : aw_K) (w : aw_W) (i : Nat) : va_E := match aw_lay i with
  | .inl o => .inr (o.1, aw_fs K o.2 (w i))
  | .inr a => if a.1 = 3 then .inl (K.2.1 3, a.2, .inr (.inl (fun j => Int64.ofInt (w i j)))) else .inl (K.2.1 a.1, a.2, .inl (fun j => Int32.ofInt (w i j)))
def aw_cz (K : aw_K) (w : aw_W) : va_W := (List.range aw_N).map (fun i => (K.2.2.1 i, aw_cl K w i))
def aw_kl (i k : Nat) : Bool := match aw_lay i with
  | .inl o => o.2.getD k 0 == 1
  | .inr a => a.1 == 3
def aw_okw (w : aw_W) : Prop := ∀ i k, aw_L (w i k) ∧ (aw_kl i k = false → aw_I (w i k))
def aw_A (K : aw_K) : Nat → Prop := fun q => K.2.2.2 ≤ q
def aw_Kok (K : aw_K) : Prop := (∀ i j, i < aw_N → j < aw_N → K.2.2.1 i = K.2.2.1 j → i = j) ∧ ∀ i, i < aw_N → K.2.2.2 ≤ K.2.2.1 i
def aw_tys (K : aw_K) : List (ClassId × FieldType) := [(K.2.1 0, .int), (K.2.1 1, .byte), (K.2.1 2, .boolean), (K.2.1 3, .long)]
abbrev aw_Hp (K : aw_K) (w : aw_W) (H : Heap) : Prop := va_P K.1 vwCl (aw_cz K w) H
theorem aw_IL {x : Int} (h : aw_I x) : aw_L x := by unfold aw_I at h; unfold aw_L; omega
theorem aw_cz_at {K : aw_K} {w : aw_W} {i : Nat} (hi : i < aw_N) : (aw_cz K w)[i]? = some (K.2.2.1 i, aw_cl K w i) := by
  unfold aw_cz
  rw [List.getElem?_map, List.getElem?_range hi]
  rfl
theorem aw_cz_len (K : aw_K) (w : aw_W) : (aw_cz K w).length = aw_N := by unfold aw_cz; rw [List.length_map, List.length_range]
theorem aw_cz_set {K : aw_K} {w w' : aw_W} {i : Nat} {e : va_E} (he : aw_cl K w' i = e) (hn : ∀ j, j ≠ i → aw_cl K w' j = aw_cl K w j) : (aw_cz K w).set i (K.2.2.1 i, e) = aw_cz K w' := by
  apply List.ext_getElem?
  intro j
  by_cases hj : j < aw_N
  · rw [aw_cz_at hj]
    by_cases h : j = i
    · subst h
      rw [List.getElem?_set_self (by rw [aw_cz_len]; exact hj), he]
    · rw [List.getElem?_set_ne (Ne.symm h), aw_cz_at hj, hn j h]
  · rw [List.getElem?_eq_none (by rw [List.length_set, aw_cz_len]; omega), List.getElem?_eq_none (by rw [aw_cz_len]; omega)]
theorem aw_up_ne {w : aw_W} {i k j : Nat} {x : Int} (h : j ≠ i) : aw_up w i k x j = w j := by
  funext b
  unfold aw_up
  rw [if_neg (fun q => h q.1)]
theorem aw_cl_ne {K : aw_K} {w : aw_W} {i k j : Nat} {x : Int} (h : j ≠ i) : aw_cl K (aw_up w i k x) j = aw_cl K w j := by
  unfold aw_cl
  rw [aw_up_ne h]
theorem aw_up_self (w : aw_W) (i k : Nat) (x : Int) (j : Nat) : aw_up w i k x i j = if j = k then x else w i j := by
  unfold aw_up
  by_cases h : j = k
  · rw [if_pos ⟨rfl, h⟩, if_pos h]
  · rw [if_neg (fun q => h q.2), if_neg h]
theorem aw_okw_up {w : aw_W} {i k : Nat} {x : Int} (h : aw_okw w) (hL : aw_L x) (hI : aw_kl i k = false → aw_I x) : aw_okw (aw_up w i k x) := by
  intro a b
  unfold aw_up
  by_cases q : a = i ∧ b = k
  · rw [if_pos q, q.1, q.2]
    exact ⟨hL, hI⟩
  · rw [if_neg q]
    exact h a b
theorem aw_Dz {K : aw_K} (hK : aw_Kok K) (w : aw_W) : va_D (aw_A K) (aw_cz K w) := by
  have key : ∀ (k : Nat) (q : Nat × va_E), (aw_cz K w)[k]? = some q → k < aw_N ∧ q.1 = K.2.2.1 k := by
    intro k q h
    have hk : k < aw_N := by rw [← aw_cz_len K w]; exact (List.getElem?_eq_some_iff.mp h).1
    rw [aw_cz_at hk] at h
    cases h
    exact ⟨hk, rfl⟩
  refine ⟨fun i j p q hi hj hpq => ?_, fun k q h => ?_⟩
  · obtain ⟨a1, a2⟩ := key i p hi
    obtain ⟨b1, b2⟩ := key j q hj
    exact hK.1 i j a1 b1 (by rw [← a2, ← b2, hpq])
  · obtain ⟨a1, a2⟩ := key k q h
    show K.2.2.2 ≤ q.1
    rw [a2]
    exact hK.2 k a1
/-! the words -/
abbrev aw_M : Type := MethodName × ByteArray × Nat × Option FieldType
def aw_G : List Cond := lw_tbl.filter goodWord
def aw_ws (M : aw_M) : List Cond := .code M.1 M.2.1 M.2.2.1 M.2.2.2 :: aw_G
def aw_isN : Cond → Bool
  | .fieldLinkNest _ _ _ _ _ _ => true
  | .methodLinkNest _ _ _ _ => true
  | _ => false
def aw_nest : List Cond := lw_tbl.filter aw_isN
theorem aw_inG {w : Cond} (h : w ∈ lw_tbl) (g : goodWord w = true) : w ∈ aw_G := List.mem_filter.mpr ⟨h, g⟩
theorem aw_inN {w : Cond} (h : w ∈ lw_tbl) (g : aw_isN w = true) : w ∈ aw_nest := List.mem_filter.mpr ⟨h, g⟩
theorem aw_good {Ts : List Cond} (M : aw_M) (hG : ∀ w ∈ aw_G, w ∈ Ts) (hM : Cond.code M.1 M.2.1 M.2.2.1 M.2.2.2 ∈ lw_tbl) : GoodIn Ts (aw_ws M) := by
  have key : ∀ w ∈ aw_G, w ∈ Ts ∧ ((w.onTables && w.keeps) = true ∨ ∃ ty, w = .arrayClass ty) := fun w h => ⟨hG w h, good_of_word (List.mem_filter.mp h).2⟩
  intro w h
  rcases List.mem_cons.mp h with rfl | h
  · exact key _ (aw_inG hM rfl)
  · exact key w h
/-- what is never written: static arrays, texts, links between nest mates -/
def aw_lens : List Nat := [1, 6, 5, 4]
def aw_byt : List (List Int32) := [[121], [100, 97, 98, 111, 108, 116], [114, 116, 113, 102, 109], [112, 119, 107, 98]]
def aw_Sa (K : aw_K) (U : State) : Prop := ∀ (j : Nat) (q : String × String × List Int), aw_stats[j]? = some q → va_Z q.1 q.2.1 "[I" (.ref (K.2.2.1 (200 + j))) (aw_A K) U U.heap ∧ va_T .int (K.2.2.1 (200 + j)) q.2.2.length (fun i => .int (Int32.ofInt (q.2.2.getD i 0))) (aw_A K) U U.heap
def aw_Ss (K : aw_K) (U : State) : Prop := vk_S 4 aw_lens aw_byt (fun i => K.2.2.1 (220 + i)) (fun i => K.2.2.1 (230 + i)) (aw_A K) U U.heap ∧ va_Z "java/lang/String" "COMPACT_STRINGS" "Z" (.int 1) (aw_A K) U U.heap ∧ vk_R "SecondHasModel" 26 "y" (K.2.2.1 220) U ∧ vk_R "SecondHasModel" 32 "dabolt" (K.2.2.1 221) U ∧ vk_R "SecondHasModel" 237 "rtqfm" (K.2.2.1 222) U ∧ vk_R "SecondHasModel" 239 "pwkb" (K.2.2.1 223) U
def aw_Sx (K : aw_K) (U : State) : Prop := va_Zq "java/lang/Throwable" "UNASSIGNED_STACK" "[Ljava/lang/StackTraceElement;" (aw_A K) U U.heap ∧ va_Zq "java/lang/Throwable" "SUPPRESSED_SENTINEL" "Ljava/util/List;" (aw_A K) U U.heap ∧ va_Zq "jdk/internal/util/Preconditions" "SIOOBE_FORMATTER" "Ljava/util/function/BiFunction;" (aw_A K) U U.heap
def aw_Sn (U : State) : Prop := ∀ w ∈ aw_nest, va_Nw w U
def aw_St (K : aw_K) (U : State) : Prop := aw_Sa K U ∧ aw_Ss K U ∧ aw_Sx K U ∧ aw_Sn U
theorem aw_St.go {K : aw_K} {s U : State} {H : Heap} {locs : List Loc} (h : aw_St K s) (hW : s.WarmedH U.vm) (hU : U.heap = H) (hS : va_S (aw_A K) s.heap H locs) : aw_St K U := by
  subst hU
  have hq : ∀ a : Nat, a < s.heap.size → ¬ (aw_A K) a → U.heap[a]? = s.heap[a]? := hS.2.1
  obtain ⟨h1, ⟨h2, h3, h4, h5, h6, h7⟩, ⟨h8, h9, h11⟩, h10⟩ := h
  refine ⟨fun j q hj => ?_, ⟨(h2.moved hW.alike).kept hq, (h3.moved hW.alike).kept hq, h4.warm hW, h5.warm hW, h6.warm hW, h7.warm hW⟩, ⟨(h8.moved hW.alike).kept hq, (h9.moved hW.alike).kept hq, (h11.moved hW.alike).kept hq⟩, fun w hw => ?_⟩
  · obtain ⟨a, b⟩ := h1 j q hj
    exact ⟨(a.moved hW.alike).kept hq, (b.moved hW.alike).kept hq⟩
  · have g := (List.mem_filter.mp hw).2
    have z := h10 w hw
    cases w with
    | fieldLinkNest a i b n d hh => exact va_Nw.warmF hW z
    | methodLinkNest a i x hh => exact va_Nw.warmM hW z
    | _ => exact absurd g (by simp [aw_isN])
/-! contracts -/
def aw_okr (r : Option aw_V × aw_W) : Prop := (∀ v, r.1 = some v → aw_ok v) ∧ aw_okw r.2
def aw_Pc (K : aw_K) (as : List aw_V) (w : aw_W) : Array Value → State → Prop := fun v U => v = (as.map (aw_cv K)).toArray ∧ aw_Hp K w U.heap ∧ va_K K.1 vwCl (aw_tys K) U ∧ aw_St K U ∧ aw_Kok K ∧ K.2.2.2 ≤ U.heap.size
def aw_Qc (K : aw_K) (r : Option aw_V × aw_W) : Array Value → State → Outcome → State → Prop := fun _ st oc t => oc = .returned (r.1.map (aw_cv K)) ∧ aw_Hp K r.2 t.heap ∧ va_F (aw_A K) st t
def aw_rm (d : Nat) : Room := { frames := d + 1, cells := 0, slots := 0, locals := 64 * (d + 1) }
def aw_Met (l : Launch) (K : aw_K) (M : aw_M) (d : Nat) (as : List aw_V) (w : aw_W) (r : Option aw_V × aw_W) : Prop :=
  aw_okw w → (∀ v ∈ as, aw_ok v) → aw_okr r ∧ Met l M.1 (aw_ws M) (aw_rm d) (aw_Pc K as w) (aw_Qc K r) 0 0 (aw_A K)
abbrev aw_Ls : Type := List (Nat × aw_V)
def aw_lc (K : aw_K) (ls : aw_Ls) : List (Nat × Value) := ls.map (fun q => (q.1, aw_cv K q.2))
/-- what a body knows of the machine all along -/
def aw_Cx (K : aw_K) (M : aw_M) (p : Program) (s : State) (m : MethodId) (args : Array Value) (meth : Method) (c : Code) : Prop :=
  p.tables.exec = Jvm.exec ∧ c.code = M.2.1 ∧ c.maxLocals = M.2.2.1 ∧ meth.sig.returnType = M.2.2.2 ∧ meth.locks = false ∧ s.vm.findClass M.1.cls = some m.cls ∧ (∀ w ∈ aw_ws M, w.before args s = true) ∧ va_K K.1 vwCl (aw_tys K) s ∧ aw_St K s ∧ aw_Kok K ∧ K.2.2.2 ≤ s.heap.size
/-- at pc, with these locals, this stack and this world, the method comes to its end with the answer and the world r -/
def aw_AW (l : Launch) (K : aw_K) (M : aw_M) (d pc : Nat) (ls : aw_Ls) (st : List aw_V) (w : aw_W) (r : Option aw_V × aw_W) : Prop :=
  aw_okw w → (∀ q ∈ ls, aw_ok q.2) → (∀ v ∈ st, aw_ok v) → aw_okr r ∧
  ∀ (p : Program) (e : Env) (s : State) (m : MethodId) (args : Array Value) (below : List Frame) (meth : Method) (c : Code) (H : Heap) (locs : List Loc) (LS : Array Slot),
    aw_Cx K M p s m args meth c → aw_Hp K w H → va_S (aw_A K) s.heap H locs → lv_has LS M.2.2.1 (aw_lc K ls) →
    W p l e (aw_rm d) s m args below meth c H locs 0 0 (MQ below (aw_Qc K r) args s 0 0 (aw_A K)) (F0 m pc LS (st.map (aw_cv K)))
def aw_args : Nat → List aw_V → aw_Ls
  | _, [] => []
  | i, .inr (.inl x) :: vs => (i, .inr (.inl x)) :: aw_args (i + 2) vs
  | i, v :: vs => (i, v) :: aw_args (i + 1) vs
theorem aw_args_lc (K : aw_K) (vs : List aw_V) : ∀ i, aw_lc K (aw_args i vs) = lv_args i (vs.map (aw_cv K)) := by
  induction vs with
  | nil => intro i; rfl
  | cons v vs ih =>
    intro i
    rcases v with x | x | x
    · simp [aw_args, lv_args, aw_lc, aw_cv, Value.category] at ih ⊢; exact ih _
    · simp [aw_args, lv_args, aw_lc, aw_cv, Value.category] at ih ⊢; exact ih _
    · simp [aw_args, lv_args, aw_lc, aw_cv, Value.category] at ih ⊢; exact ih _
theorem aw_args_ok (vs : List aw_V) : ∀ i, (∀ v ∈ vs, aw_ok v) → ∀ q ∈ aw_args i vs, aw_ok q.2 := by
  induction vs with
  | nil => intro i h q hq; cases hq
  | cons v vs ih =>
    intro i h q hq
    have h1 := h v List.mem_cons_self
    have h2 : ∀ v ∈ vs, aw_ok v := fun u hu => h u (List.mem_cons_of_mem _ hu)
    rcases v with x | x | x <;> (simp only [aw_args] at hq; rcases List.mem_cons.mp hq with rfl | hq; exact h1; exact ih _ h2 q hq)
theorem aw_enter {l : Launch} {K : aw_K} {M : aw_M} {d : Nat} {as : List aw_V} {w : aw_W} {r : Option aw_V × aw_W} (hy : plainName M.1.cls = true) (hn : (lg_sl (as.map (aw_cv K))).length ≤ M.2.2.1) (h : aw_AW l K M d 0 (aw_args 0 as) [] w r) : aw_Met l K M d as w r := by
  intro hw ha
  obtain ⟨hr, h⟩ := h hw (aw_args_ok as 0 ha) (fun v hv => by cases hv)
  refine ⟨hr, Met.ofW (cc := M.2.1) (maxL := M.2.2.1) (ret := M.2.2.2) hy rfl ?_⟩
  intro p e s m args below meth c s₁ B hml hv
  obtain ⟨rfl, hP, hK, hSt, hKok, hb0⟩ := hv
  have hl := lv_entry (as.map (aw_cv K)) hn
  rw [lg_entry_eq]
  generalize (lg_sl (as.map (aw_cv K)) ++ List.replicate (M.2.2.1 - (lg_sl (as.map (aw_cv K))).length) Slot.unset).toArray = LS at hl ⊢
  rw [← aw_args_lc] at hl
  exact h p e s m _ below meth c s.heap [] LS ⟨B.exec, B.bytes, hml, B.returns, B.notSynchronized, findClass_of_methodNamed B.named, atoms_spec (ws := aw_ws M) B.pre, hK, hSt, hKok, hb0⟩ hP va_S.rf hl
