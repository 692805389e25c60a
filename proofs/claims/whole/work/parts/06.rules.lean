/-! ===== the abstract walk: a rule an instruction ===== -/
section AWR
variable {l : Launch} {K : aw_K} {M : aw_M} {d pc : Nat} {ls ls' : aw_Ls} {st : List aw_V} {w : aw_W} {r : Option aw_V × aw_W}
theorem aw_step {pc' : Nat} {st st' : List aw_V} (k : aw_AW l K M d pc' ls st' w r) (hok : (∀ v ∈ st, aw_ok v) → ∀ v ∈ st', aw_ok v)
    (hs : ∀ (p : Program) (e : Env) (s : State) (m : MethodId) (args : Array Value) (below : List Frame) (meth : Method) (c : Code) (H : Heap) (locs : List Loc) (LS : Array Slot) (Q : State → Prop), (∀ v ∈ st, aw_ok v) → aw_Cx K M p s m args meth c → aw_Hp K w H → va_S (aw_A K) s.heap H locs → lv_has LS M.2.2.1 (aw_lc K ls) →
      W p l e (aw_rm d) s m args below meth c H locs 0 0 Q (F0 m pc' LS (st'.map (aw_cv K))) → W p l e (aw_rm d) s m args below meth c H locs 0 0 Q (F0 m pc LS (st.map (aw_cv K))))
    : aw_AW l K M d pc ls st w r := by
  intro hw hl ho
  obtain ⟨hr, k⟩ := k hw hl (hok ho)
  exact ⟨hr, fun p e s m args below meth c H locs LS C hP hS hL => hs p e s m args below meth c H locs LS _ ho C hP hS hL (k p e s m args below meth c H locs LS C hP hS hL)⟩
theorem aw_ok1 {v : aw_V} {st : List aw_V} (h : ∀ u ∈ st, aw_ok u) (hv : aw_ok v) : ∀ u ∈ v :: st, aw_ok u := fun u hu => (List.mem_cons.mp hu).elim (fun e => e ▸ hv) (h u)
theorem aw_t1 {v : aw_V} {st : List aw_V} (h : ∀ u ∈ v :: st, aw_ok u) : ∀ u ∈ st, aw_ok u := fun u hu => h u (List.mem_cons_of_mem _ hu)
theorem aw_h1 {v : aw_V} {st : List aw_V} (h : ∀ u ∈ v :: st, aw_ok u) : aw_ok v := h v List.mem_cons_self
/-! constants -/
theorem aw_iconst {n : Int} (hd : decode M.2.1 pc = .ok (.iconst n, 1)) (hn : aw_I n) (k : aw_AW l K M d (pc + 1) ls (.inl n :: st) w r) : aw_AW l K M d pc ls st w r :=
  aw_step k (fun h => aw_ok1 h hn) (fun p e s m args below meth c H locs LS Q _ C _ _ _ k => lv_iconst C.1 C.2.1 hd rfl k)
theorem aw_bipush {n : Int} (hd : decode M.2.1 pc = .ok (.bipush n, 2)) (hv : (Int8.ofInt n).toInt32 = Int32.ofInt n) (hn : aw_I n) (k : aw_AW l K M d (pc + 2) ls (.inl n :: st) w r) : aw_AW l K M d pc ls st w r :=
  aw_step k (fun h => aw_ok1 h hn) (fun p e s m args below meth c H locs LS Q _ C _ _ _ k => lv_bipush C.1 C.2.1 hd hv k)
theorem aw_sipush {n : Int} (hd : decode M.2.1 pc = .ok (.sipush n, 3)) (hv : (Int16.ofInt n).toInt32 = Int32.ofInt n) (hn : aw_I n) (k : aw_AW l K M d (pc + 3) ls (.inl n :: st) w r) : aw_AW l K M d pc ls st w r :=
  aw_step k (fun h => aw_ok1 h hn) (fun p e s m args below meth c H locs LS Q _ C _ _ _ k => lv_sipush C.1 C.2.1 hd hv k)
theorem aw_lconst {n : Fin 2} {x : Int} (hd : decode M.2.1 pc = .ok (.lconst n, 1)) (hv : Int64.ofNat (n : Nat) = Int64.ofInt x) (hn : aw_L x) (k : aw_AW l K M d (pc + 1) ls (.inr (.inl x) :: st) w r) : aw_AW l K M d pc ls st w r :=
  aw_step k (fun h => aw_ok1 h hn) (fun p e s m args below meth c H locs LS Q _ C _ _ _ k => lv_lconst C.1 C.2.1 hd hv k)
theorem aw_ldc {x : Int} {idx : Nat} (hd : decode M.2.1 pc = .ok (.ldc idx, 2)) (hc : Cond.constant M.1.cls idx (Int32.ofInt x) ∈ aw_G) (hn : aw_I x) (k : aw_AW l K M d (pc + 2) ls (.inl x :: st) w r) : aw_AW l K M d pc ls st w r :=
  aw_step k (fun h => aw_ok1 h hn) (fun p e s m args below meth c H locs LS Q _ C _ _ _ k => lv_ldc C.1 C.2.1 C.2.2.2.2.2.1 (C.2.2.2.2.2.2.1 _ (List.mem_cons_of_mem _ hc)) hd k)
theorem aw_ldc2 {x : Int} {idx : Nat} (hd : decode M.2.1 pc = .ok (.ldc2_w idx, 3)) (hc : Cond.constantLong M.1.cls idx (Int64.ofInt x) ∈ aw_G) (hn : aw_L x) (k : aw_AW l K M d (pc + 3) ls (.inr (.inl x) :: st) w r) : aw_AW l K M d pc ls st w r :=
  aw_step k (fun h => aw_ok1 h hn) (fun p e s m args below meth c H locs LS Q _ C _ _ _ k => lv_ldc2 C.1 C.2.1 C.2.2.2.2.2.1 (C.2.2.2.2.2.2.1 _ (List.mem_cons_of_mem _ hc)) hd k)
/-! locals -/
theorem aw_lat {LS : Array Slot} {n : Nat} (h : lv_has LS n (aw_lc K ls)) {i : Nat} {v : aw_V} {q : Nat} (hk : ls[q]? = some (i, v)) : LS[i]? = some (.val (aw_cv K v)) := h.2.2 (i, aw_cv K v) (List.mem_map.mpr ⟨(i, v), List.mem_of_getElem? hk, rfl⟩)
theorem aw_lok {i q : Nat} {v : aw_V} (h : ∀ q ∈ ls, aw_ok q.2) (hk : ls[q]? = some (i, v)) : aw_ok v := h (i, v) (List.mem_of_getElem? hk)
theorem aw_load {pc' i q : Nat} {v : aw_V} (hk : ls[q]? = some (i, v)) (k : aw_AW l K M d pc' ls (v :: st) w r)
    (hs : ∀ (p : Program) (e : Env) (s : State) (m : MethodId) (args : Array Value) (below : List Frame) (meth : Method) (c : Code) (H : Heap) (locs : List Loc) (LS : Array Slot) (Q : State → Prop), p.tables.exec = Jvm.exec → c.code = M.2.1 → LS[i]? = some (.val (aw_cv K v)) →
      W p l e (aw_rm d) s m args below meth c H locs 0 0 Q (F0 m pc' LS (aw_cv K v :: st.map (aw_cv K))) → W p l e (aw_rm d) s m args below meth c H locs 0 0 Q (F0 m pc LS (st.map (aw_cv K))))
    : aw_AW l K M d pc ls st w r := by
  intro hw hl ho
  obtain ⟨hr, k⟩ := k hw hl (aw_ok1 ho (aw_lok hl hk))
  exact ⟨hr, fun p e s m args below meth c H locs LS C hP hS hL => hs p e s m args below meth c H locs LS _ C.1 C.2.1 (aw_lat hL hk) (k p e s m args below meth c H locs LS C hP hS hL)⟩
theorem aw_iload_n {i : Fin 4} {q : Nat} {x : Int} (hd : decode M.2.1 pc = .ok (.iload_n i, 1)) (hk : ls[q]? = some ((i : Nat), .inl x)) (k : aw_AW l K M d (pc + 1) ls (.inl x :: st) w r) : aw_AW l K M d pc ls st w r :=
  aw_load hk k (fun p e s m args below meth c H locs LS Q hx hb hL k => lv_iload_n hx hb hd rfl hL k)
theorem aw_iload {i q : Nat} {x : Int} (hd : decode M.2.1 pc = .ok (.iload i, 2)) (hk : ls[q]? = some (i, .inl x)) (k : aw_AW l K M d (pc + 2) ls (.inl x :: st) w r) : aw_AW l K M d pc ls st w r :=
  aw_load hk k (fun p e s m args below meth c H locs LS Q hx hb hL k => lv_iload hx hb hd hL k)
theorem aw_lload_n {i : Fin 4} {q : Nat} {x : Int} (hd : decode M.2.1 pc = .ok (.lload_n i, 1)) (hk : ls[q]? = some ((i : Nat), .inr (.inl x))) (k : aw_AW l K M d (pc + 1) ls (.inr (.inl x) :: st) w r) : aw_AW l K M d pc ls st w r :=
  aw_load hk k (fun p e s m args below meth c H locs LS Q hx hb hL k => lv_lload_n hx hb hd rfl hL k)
theorem aw_lload {i q : Nat} {x : Int} (hd : decode M.2.1 pc = .ok (.lload i, 2)) (hk : ls[q]? = some (i, .inr (.inl x))) (k : aw_AW l K M d (pc + 2) ls (.inr (.inl x) :: st) w r) : aw_AW l K M d pc ls st w r :=
  aw_load hk k (fun p e s m args below meth c H locs LS Q hx hb hL k => lv_lload hx hb hd hL k)
theorem aw_aload_n {i : Fin 4} {q x : Nat} (hd : decode M.2.1 pc = .ok (.aload_n i, 1)) (hk : ls[q]? = some ((i : Nat), .inr (.inr x))) (k : aw_AW l K M d (pc + 1) ls (.inr (.inr x) :: st) w r) : aw_AW l K M d pc ls st w r :=
  aw_load hk k (fun p e s m args below meth c H locs LS Q hx hb hL k => lv_aload_n hx hb hd rfl hL k)
theorem aw_aload {i q x : Nat} (hd : decode M.2.1 pc = .ok (.aload i, 2)) (hk : ls[q]? = some (i, .inr (.inr x))) (k : aw_AW l K M d (pc + 2) ls (.inr (.inr x) :: st) w r) : aw_AW l K M d pc ls st w r :=
  aw_load hk k (fun p e s m args below meth c H locs LS Q hx hb hL k => lv_aload hx hb hd hL k)
def aw_cat : aw_V → Nat
  | .inr (.inl _) => 2
  | _ => 1
theorem aw_cat_cv (v : aw_V) : (aw_cv K v).category = aw_cat v := by rcases v with x | x | x <;> rfl
def aw_st1 (ls : aw_Ls) (i : Nat) (v : aw_V) : aw_Ls := (i, v) :: ls.filter (fun q => !(q.1 == i) && !(q.1 + 1 == i && aw_cat q.2 == 2))
def aw_st2 (ls : aw_Ls) (i : Nat) (v : aw_V) : aw_Ls := (i, v) :: ls.filter (fun q => !(q.1 == i) && (!(q.1 == i + 1) && !(q.1 + 1 == i && aw_cat q.2 == 2)))
theorem aw_st1_lc (K : aw_K) (ls : aw_Ls) (i : Nat) (v : aw_V) : (i, aw_cv K v) :: (aw_lc K ls).filter (fun q => !(q.1 == i) && !(q.1 + 1 == i && q.2.category == 2)) = aw_lc K (aw_st1 ls i v) := by
  unfold aw_lc aw_st1
  rw [List.filter_map, List.map_cons]
  congr 3
  funext q
  simp [aw_cat_cv]
theorem aw_st2_lc (K : aw_K) (ls : aw_Ls) (i : Nat) (v : aw_V) : (i, aw_cv K v) :: (aw_lc K ls).filter (fun q => !(q.1 == i) && (!(q.1 == i + 1) && !(q.1 + 1 == i && q.2.category == 2))) = aw_lc K (aw_st2 ls i v) := by
  unfold aw_lc aw_st2
  rw [List.filter_map, List.map_cons]
  congr 3
  funext q
  simp [aw_cat_cv]
theorem aw_st1_ok {i : Nat} {v : aw_V} (h : ∀ q ∈ ls, aw_ok q.2) (hv : aw_ok v) : ∀ q ∈ aw_st1 ls i v, aw_ok q.2 := fun q hq => (List.mem_cons.mp hq).elim (fun e => by rw [e]; exact hv) (fun hq => h q (List.mem_filter.mp hq).1)
theorem aw_st2_ok {i : Nat} {v : aw_V} (h : ∀ q ∈ ls, aw_ok q.2) (hv : aw_ok v) : ∀ q ∈ aw_st2 ls i v, aw_ok q.2 := fun q hq => (List.mem_cons.mp hq).elim (fun e => by rw [e]; exact hv) (fun hq => h q (List.mem_filter.mp hq).1)
theorem aw_istore_n {i : Fin 4} {x : Int} (hd : decode M.2.1 pc = .ok (.istore_n i, 1)) (hn : (i : Nat) < M.2.2.1) (hl : aw_st1 ls i (.inl x) = ls') (k : aw_AW l K M d (pc + 1) ls' st w r) : aw_AW l K M d pc ls (.inl x :: st) w r := by
  intro hw ho hs
  subst hl
  obtain ⟨hr, k⟩ := k hw (aw_st1_ok ho (aw_h1 hs)) (aw_t1 hs)
  exact ⟨hr, fun p e s m args below meth c H locs LS C hP hS hL => lv_istore_n C.1 C.2.1 hd rfl hL hn (aw_st1_lc K ls i (.inl x)) (fun LS' hL' => k p e s m args below meth c H locs LS' C hP hS hL')⟩
theorem aw_istore {i : Nat} {x : Int} (hd : decode M.2.1 pc = .ok (.istore i, 2)) (hn : i < M.2.2.1) (hl : aw_st1 ls i (.inl x) = ls') (k : aw_AW l K M d (pc + 2) ls' st w r) : aw_AW l K M d pc ls (.inl x :: st) w r := by
  intro hw ho hs
  subst hl
  obtain ⟨hr, k⟩ := k hw (aw_st1_ok ho (aw_h1 hs)) (aw_t1 hs)
  exact ⟨hr, fun p e s m args below meth c H locs LS C hP hS hL => lv_istore C.1 C.2.1 hd hL hn (aw_st1_lc K ls i (.inl x)) (fun LS' hL' => k p e s m args below meth c H locs LS' C hP hS hL')⟩
theorem aw_astore_n {i : Fin 4} {x : Nat} (hd : decode M.2.1 pc = .ok (.astore_n i, 1)) (hn : (i : Nat) < M.2.2.1) (hl : aw_st1 ls i (.inr (.inr x)) = ls') (k : aw_AW l K M d (pc + 1) ls' st w r) : aw_AW l K M d pc ls (.inr (.inr x) :: st) w r := by
  intro hw ho hs
  subst hl
  obtain ⟨hr, k⟩ := k hw (aw_st1_ok ho (aw_h1 hs)) (aw_t1 hs)
  exact ⟨hr, fun p e s m args below meth c H locs LS C hP hS hL => lv_astore_n C.1 C.2.1 hd rfl hL hn (aw_st1_lc K ls i (.inr (.inr x))) (fun LS' hL' => k p e s m args below meth c H locs LS' C hP hS hL')⟩
theorem aw_astore {i x : Nat} (hd : decode M.2.1 pc = .ok (.astore i, 2)) (hn : i < M.2.2.1) (hl : aw_st1 ls i (.inr (.inr x)) = ls') (k : aw_AW l K M d (pc + 2) ls' st w r) : aw_AW l K M d pc ls (.inr (.inr x) :: st) w r := by
  intro hw ho hs
  subst hl
  obtain ⟨hr, k⟩ := k hw (aw_st1_ok ho (aw_h1 hs)) (aw_t1 hs)
  exact ⟨hr, fun p e s m args below meth c H locs LS C hP hS hL => lv_astore C.1 C.2.1 hd hL hn (aw_st1_lc K ls i (.inr (.inr x))) (fun LS' hL' => k p e s m args below meth c H locs LS' C hP hS hL')⟩
theorem aw_lstore_n {i : Fin 4} {x : Int} (hd : decode M.2.1 pc = .ok (.lstore_n i, 1)) (hn : (i : Nat) + 1 < M.2.2.1) (hl : aw_st2 ls i (.inr (.inl x)) = ls') (k : aw_AW l K M d (pc + 1) ls' st w r) : aw_AW l K M d pc ls (.inr (.inl x) :: st) w r := by
  intro hw ho hs
  subst hl
  obtain ⟨hr, k⟩ := k hw (aw_st2_ok ho (aw_h1 hs)) (aw_t1 hs)
  exact ⟨hr, fun p e s m args below meth c H locs LS C hP hS hL => lv_lstore_n C.1 C.2.1 hd rfl hL hn (aw_st2_lc K ls i (.inr (.inl x))) (fun LS' hL' => k p e s m args below meth c H locs LS' C hP hS hL')⟩
theorem aw_lstore {i : Nat} {x : Int} (hd : decode M.2.1 pc = .ok (.lstore i, 2)) (hn : i + 1 < M.2.2.1) (hl : aw_st2 ls i (.inr (.inl x)) = ls') (k : aw_AW l K M d (pc + 2) ls' st w r) : aw_AW l K M d pc ls (.inr (.inl x) :: st) w r := by
  intro hw ho hs
  subst hl
  obtain ⟨hr, k⟩ := k hw (aw_st2_ok ho (aw_h1 hs)) (aw_t1 hs)
  exact ⟨hr, fun p e s m args below meth c H locs LS C hP hS hL => lv_lstore C.1 C.2.1 hd hL hn (aw_st2_lc K ls i (.inr (.inl x))) (fun LS' hL' => k p e s m args below meth c H locs LS' C hP hS hL')⟩
theorem aw_iinc {i q : Nat} {n x : Int} (hd : decode M.2.1 pc = .ok (.iinc i n, 3)) (hk : ls[q]? = some (i, .inl x)) (hn : i < M.2.2.1) (hl : aw_st1 ls i (.inl (aw_w (x + n))) = ls') (k : aw_AW l K M d (pc + 3) ls' st w r) : aw_AW l K M d pc ls st w r := by
  intro hw ho hs
  subst hl
  obtain ⟨hr, k⟩ := k hw (aw_st1_ok ho (aw_wI _)) hs
  have hk' : (aw_lc K ls)[q]? = some (i, .int (Int32.ofInt x)) := by unfold aw_lc; rw [List.getElem?_map, hk]; rfl
  exact ⟨hr, fun p e s m args below meth c H locs LS C hP hS hL => lv_iinc C.1 C.2.1 hd hL hk' (aw_add32 x n) hn (aw_st1_lc K ls i (.inl (aw_w (x + n)))) (fun LS' hL' => k p e s m args below meth c H locs LS' C hP hS hL')⟩
/-! the stack -/
theorem aw_dup {v : aw_V} (hd : decode M.2.1 pc = .ok (.dup, 1)) (hc : aw_cat v = 1) (k : aw_AW l K M d (pc + 1) ls (v :: v :: st) w r) : aw_AW l K M d pc ls (v :: st) w r :=
  aw_step k (fun h => aw_ok1 h (aw_h1 h)) (fun p e s m args below meth c H locs LS Q _ C _ _ _ k => lv_dup C.1 C.2.1 hd ((aw_cat_cv v).trans hc) k)
theorem aw_pop {v : aw_V} (hd : decode M.2.1 pc = .ok (.pop, 1)) (hc : aw_cat v = 1) (k : aw_AW l K M d (pc + 1) ls st w r) : aw_AW l K M d pc ls (v :: st) w r :=
  aw_step k (fun h => aw_t1 h) (fun p e s m args below meth c H locs LS Q _ C _ _ _ k => lv_pop C.1 C.2.1 hd ((aw_cat_cv v).trans hc) k)
theorem aw_dup2 {u v : aw_V} (hd : decode M.2.1 pc = .ok (.dup2, 1)) (hu : aw_cat u = 1) (hv : aw_cat v = 1) (k : aw_AW l K M d (pc + 1) ls (u :: v :: u :: v :: st) w r) : aw_AW l K M d pc ls (u :: v :: st) w r :=
  aw_step k (fun h => aw_ok1 (aw_ok1 h (aw_h1 (aw_t1 h))) (aw_h1 h)) (fun p e s m args below meth c H locs LS Q _ C _ _ _ k => lv_dup2_11 C.1 C.2.1 hd ((aw_cat_cv u).trans hu) ((aw_cat_cv v).trans hv) k)
/-! numbers -/
theorem aw_iadd {x y : Int} (hd : decode M.2.1 pc = .ok (.iadd, 1)) (k : aw_AW l K M d (pc + 1) ls (.inl (aw_w (x + y)) :: st) w r) : aw_AW l K M d pc ls (.inl y :: .inl x :: st) w r :=
  aw_step k (fun h => aw_ok1 (aw_t1 (aw_t1 h)) (aw_wI _)) (fun p e s m args below meth c H locs LS Q _ C _ _ _ k => lv_iadd C.1 C.2.1 hd (by rw [aw_add32]; exact k))
theorem aw_isub {x y : Int} (hd : decode M.2.1 pc = .ok (.isub, 1)) (k : aw_AW l K M d (pc + 1) ls (.inl (aw_w (x - y)) :: st) w r) : aw_AW l K M d pc ls (.inl y :: .inl x :: st) w r :=
  aw_step k (fun h => aw_ok1 (aw_t1 (aw_t1 h)) (aw_wI _)) (fun p e s m args below meth c H locs LS Q _ C _ _ _ k => lv_isub C.1 C.2.1 hd (by rw [aw_sub32]; exact k))
theorem aw_imul {x y : Int} (hd : decode M.2.1 pc = .ok (.imul, 1)) (k : aw_AW l K M d (pc + 1) ls (.inl (aw_w (x * y)) :: st) w r) : aw_AW l K M d pc ls (.inl y :: .inl x :: st) w r :=
  aw_step k (fun h => aw_ok1 (aw_t1 (aw_t1 h)) (aw_wI _)) (fun p e s m args below meth c H locs LS Q _ C _ _ _ k => lv_imul C.1 C.2.1 hd (by rw [aw_mul32]; exact k))
theorem aw_ne0 {y : Int} (hy : aw_I y) (h : ¬ y = 0) : ¬ Int32.ofInt y = 0 := fun q => h ((aw_eq hy (x := y) (y := 0) ⟨by decide, by decide⟩).mp q)
theorem aw_idiv {x y : Int} (hd : decode M.2.1 pc = .ok (.idiv, 1)) (hy : ¬ y = 0) (k : aw_AW l K M d (pc + 1) ls (.inl (aw_w (x.tdiv y)) :: st) w r) : aw_AW l K M d pc ls (.inl y :: .inl x :: st) w r :=
  aw_step k (fun h => aw_ok1 (aw_t1 (aw_t1 h)) (aw_wI _)) (fun p e s m args below meth c H locs LS Q h C _ _ _ k => lv_idiv C.1 C.2.1 hd (aw_ne0 (aw_h1 h) hy) (by rw [aw_div32 (aw_h1 (aw_t1 h)) (aw_h1 h)]; exact k))
theorem aw_irem {x y : Int} (hd : decode M.2.1 pc = .ok (.irem, 1)) (hy : ¬ y = 0) (k : aw_AW l K M d (pc + 1) ls (.inl (aw_w (x.tmod y)) :: st) w r) : aw_AW l K M d pc ls (.inl y :: .inl x :: st) w r :=
  aw_step k (fun h => aw_ok1 (aw_t1 (aw_t1 h)) (aw_wI _)) (fun p e s m args below meth c H locs LS Q h C _ _ _ k => lv_irem C.1 C.2.1 hd (aw_ne0 (aw_h1 h) hy) (by rw [aw_rem32 (aw_h1 (aw_t1 h)) (aw_h1 h)]; exact k))
theorem aw_ineg {x : Int} (hd : decode M.2.1 pc = .ok (.ineg, 1)) (k : aw_AW l K M d (pc + 1) ls (.inl (aw_w (-x)) :: st) w r) : aw_AW l K M d pc ls (.inl x :: st) w r :=
  aw_step k (fun h => aw_ok1 (aw_t1 h) (aw_wI _)) (fun p e s m args below meth c H locs LS Q _ C _ _ _ k => lv_ineg C.1 C.2.1 hd (by first | (rw [aw_neg32]; exact k) | (rw [show (0 : Int32) - Int32.ofInt x = Int32.ofInt (aw_w (-x)) from by rw [← aw_neg32]; simp]; exact k)))
theorem aw_bck (z : Int32) : Int32.ofInt z.toInt = z := Int32.ofInt_toInt z
theorem aw_bckL (z : Int64) : Int64.ofInt z.toInt = z := Int64.ofInt_toInt z
theorem aw_iand {x y : Int} (hd : decode M.2.1 pc = .ok (.iand, 1)) (k : aw_AW l K M d (pc + 1) ls (.inl (aw_and x y) :: st) w r) : aw_AW l K M d pc ls (.inl y :: .inl x :: st) w r :=
  aw_step k (fun h => aw_ok1 (aw_t1 (aw_t1 h)) (aw_Ii _)) (fun p e s m args below meth c H locs LS Q _ C _ _ _ k => lv_iand C.1 C.2.1 hd (by rw [← aw_bck (Int32.ofInt x &&& Int32.ofInt y)]; exact k))
theorem aw_ior {x y : Int} (hd : decode M.2.1 pc = .ok (.ior, 1)) (k : aw_AW l K M d (pc + 1) ls (.inl (aw_or x y) :: st) w r) : aw_AW l K M d pc ls (.inl y :: .inl x :: st) w r :=
  aw_step k (fun h => aw_ok1 (aw_t1 (aw_t1 h)) (aw_Ii _)) (fun p e s m args below meth c H locs LS Q _ C _ _ _ k => lv_ior C.1 C.2.1 hd (by rw [← aw_bck (Int32.ofInt x ||| Int32.ofInt y)]; exact k))
theorem aw_ixor {x y : Int} (hd : decode M.2.1 pc = .ok (.ixor, 1)) (k : aw_AW l K M d (pc + 1) ls (.inl (aw_xor x y) :: st) w r) : aw_AW l K M d pc ls (.inl y :: .inl x :: st) w r :=
  aw_step k (fun h => aw_ok1 (aw_t1 (aw_t1 h)) (aw_Ii _)) (fun p e s m args below meth c H locs LS Q _ C _ _ _ k => lv_ixor C.1 C.2.1 hd (by rw [← aw_bck (Int32.ofInt x ^^^ Int32.ofInt y)]; exact k))
theorem aw_ishl {x y : Int} (hd : decode M.2.1 pc = .ok (.ishl, 1)) (k : aw_AW l K M d (pc + 1) ls (.inl (aw_shl x y) :: st) w r) : aw_AW l K M d pc ls (.inl y :: .inl x :: st) w r :=
  aw_step k (fun h => aw_ok1 (aw_t1 (aw_t1 h)) (aw_Ii _)) (fun p e s m args below meth c H locs LS Q _ C _ _ _ k => lv_ishl C.1 C.2.1 hd (by rw [← aw_bck (Int32.ofInt x <<< (Int32.ofInt y &&& 31))]; exact k))
theorem aw_ishr {x y : Int} (hd : decode M.2.1 pc = .ok (.ishr, 1)) (k : aw_AW l K M d (pc + 1) ls (.inl (aw_shr x y) :: st) w r) : aw_AW l K M d pc ls (.inl y :: .inl x :: st) w r :=
  aw_step k (fun h => aw_ok1 (aw_t1 (aw_t1 h)) (aw_Ii _)) (fun p e s m args below meth c H locs LS Q _ C _ _ _ k => lv_ishr C.1 C.2.1 hd (by rw [← aw_bck (Int32.ofInt x >>> (Int32.ofInt y &&& 31))]; exact k))
theorem aw_iushr {x y : Int} (hd : decode M.2.1 pc = .ok (.iushr, 1)) (k : aw_AW l K M d (pc + 1) ls (.inl (aw_ushr x y) :: st) w r) : aw_AW l K M d pc ls (.inl y :: .inl x :: st) w r :=
  aw_step k (fun h => aw_ok1 (aw_t1 (aw_t1 h)) (aw_Ii _)) (fun p e s m args below meth c H locs LS Q _ C _ _ _ k => lv_iushr (v := Int32.ofInt (aw_ushr x y)) C.1 C.2.1 hd (aw_bck _).symm k)
theorem aw_i2b {x : Int} (hd : decode M.2.1 pc = .ok (.i2b, 1)) (k : aw_AW l K M d (pc + 1) ls (.inl (aw_byte x) :: st) w r) : aw_AW l K M d pc ls (.inl x :: st) w r :=
  aw_step k (fun h => aw_ok1 (aw_t1 h) (aw_Ii _)) (fun p e s m args below meth c H locs LS Q _ C _ _ _ k => lv_i2b (v := Int32.ofInt (aw_byte x)) C.1 C.2.1 hd (aw_bck _).symm k)
theorem aw_i2l {x : Int} (hd : decode M.2.1 pc = .ok (.i2l, 1)) (k : aw_AW l K M d (pc + 1) ls (.inr (.inl x) :: st) w r) : aw_AW l K M d pc ls (.inl x :: st) w r :=
  aw_step k (fun h => aw_ok1 (aw_t1 h) (show aw_L x from aw_IL (aw_h1 h))) (fun p e s m args below meth c H locs LS Q h C _ _ _ k => lv_i2l C.1 C.2.1 hd (aw_wide (aw_h1 h)) k)
theorem aw_l2i {x : Int} (hd : decode M.2.1 pc = .ok (.l2i, 1)) (k : aw_AW l K M d (pc + 1) ls (.inl (aw_w x) :: st) w r) : aw_AW l K M d pc ls (.inr (.inl x) :: st) w r :=
  aw_step k (fun h => aw_ok1 (aw_t1 h) (aw_wI _)) (fun p e s m args below meth c H locs LS Q _ C _ _ _ k => lv_l2i C.1 C.2.1 hd (aw_thin x) k)
theorem aw_ladd {x y : Int} (hd : decode M.2.1 pc = .ok (.ladd, 1)) (k : aw_AW l K M d (pc + 1) ls (.inr (.inl (aw_wl (x + y))) :: st) w r) : aw_AW l K M d pc ls (.inr (.inl y) :: .inr (.inl x) :: st) w r :=
  aw_step k (fun h => aw_ok1 (aw_t1 (aw_t1 h)) (aw_wL _)) (fun p e s m args below meth c H locs LS Q _ C _ _ _ k => lv_ladd C.1 C.2.1 hd (by rw [aw_add64]; exact k))
theorem aw_lsub {x y : Int} (hd : decode M.2.1 pc = .ok (.lsub, 1)) (k : aw_AW l K M d (pc + 1) ls (.inr (.inl (aw_wl (x - y))) :: st) w r) : aw_AW l K M d pc ls (.inr (.inl y) :: .inr (.inl x) :: st) w r :=
  aw_step k (fun h => aw_ok1 (aw_t1 (aw_t1 h)) (aw_wL _)) (fun p e s m args below meth c H locs LS Q _ C _ _ _ k => lv_lsub C.1 C.2.1 hd (by rw [aw_sub64]; exact k))
theorem aw_lmul {x y : Int} (hd : decode M.2.1 pc = .ok (.lmul, 1)) (k : aw_AW l K M d (pc + 1) ls (.inr (.inl (aw_wl (x * y))) :: st) w r) : aw_AW l K M d pc ls (.inr (.inl y) :: .inr (.inl x) :: st) w r :=
  aw_step k (fun h => aw_ok1 (aw_t1 (aw_t1 h)) (aw_wL _)) (fun p e s m args below meth c H locs LS Q _ C _ _ _ k => lv_lmul C.1 C.2.1 hd (by rw [aw_mul64]; exact k))
theorem aw_ne0L {y : Int} (hy : aw_L y) (h : ¬ y = 0) : ¬ Int64.ofInt y = 0 := fun q => h ((aw_eqL hy (x := y) (y := 0) ⟨by decide, by decide⟩).mp q)
theorem aw_ldiv {x y : Int} (hd : decode M.2.1 pc = .ok (.ldiv, 1)) (hy : ¬ y = 0) (k : aw_AW l K M d (pc + 1) ls (.inr (.inl (aw_wl (x.tdiv y))) :: st) w r) : aw_AW l K M d pc ls (.inr (.inl y) :: .inr (.inl x) :: st) w r :=
  aw_step k (fun h => aw_ok1 (aw_t1 (aw_t1 h)) (aw_wL _)) (fun p e s m args below meth c H locs LS Q h C _ _ _ k => lv_ldiv C.1 C.2.1 hd (aw_ne0L (aw_h1 h) hy) (by rw [aw_div64 (aw_h1 (aw_t1 h)) (aw_h1 h)]; exact k))
theorem aw_lrem {x y : Int} (hd : decode M.2.1 pc = .ok (.lrem, 1)) (hy : ¬ y = 0) (k : aw_AW l K M d (pc + 1) ls (.inr (.inl (aw_wl (x.tmod y))) :: st) w r) : aw_AW l K M d pc ls (.inr (.inl y) :: .inr (.inl x) :: st) w r :=
  aw_step k (fun h => aw_ok1 (aw_t1 (aw_t1 h)) (aw_wL _)) (fun p e s m args below meth c H locs LS Q h C _ _ _ k => lv_lrem C.1 C.2.1 hd (aw_ne0L (aw_h1 h) hy) (by rw [aw_rem64 (aw_h1 (aw_t1 h)) (aw_h1 h)]; exact k))
theorem aw_land {x y : Int} (hd : decode M.2.1 pc = .ok (.land, 1)) (k : aw_AW l K M d (pc + 1) ls (.inr (.inl (aw_andL x y)) :: st) w r) : aw_AW l K M d pc ls (.inr (.inl y) :: .inr (.inl x) :: st) w r :=
  aw_step k (fun h => aw_ok1 (aw_t1 (aw_t1 h)) (aw_Ll _)) (fun p e s m args below meth c H locs LS Q _ C _ _ _ k => lv_land C.1 C.2.1 hd (by rw [← aw_bckL (Int64.ofInt x &&& Int64.ofInt y)]; exact k))
theorem aw_lor {x y : Int} (hd : decode M.2.1 pc = .ok (.lor, 1)) (k : aw_AW l K M d (pc + 1) ls (.inr (.inl (aw_orL x y)) :: st) w r) : aw_AW l K M d pc ls (.inr (.inl y) :: .inr (.inl x) :: st) w r :=
  aw_step k (fun h => aw_ok1 (aw_t1 (aw_t1 h)) (aw_Ll _)) (fun p e s m args below meth c H locs LS Q _ C _ _ _ k => lv_lor C.1 C.2.1 hd (by rw [← aw_bckL (Int64.ofInt x ||| Int64.ofInt y)]; exact k))
theorem aw_lxor {x y : Int} (hd : decode M.2.1 pc = .ok (.lxor, 1)) (k : aw_AW l K M d (pc + 1) ls (.inr (.inl (aw_xorL x y)) :: st) w r) : aw_AW l K M d pc ls (.inr (.inl y) :: .inr (.inl x) :: st) w r :=
  aw_step k (fun h => aw_ok1 (aw_t1 (aw_t1 h)) (aw_Ll _)) (fun p e s m args below meth c H locs LS Q _ C _ _ _ k => lv_lxor C.1 C.2.1 hd (by rw [← aw_bckL (Int64.ofInt x ^^^ Int64.ofInt y)]; exact k))
theorem aw_lshl {x y : Int} (hd : decode M.2.1 pc = .ok (.lshl, 1)) (k : aw_AW l K M d (pc + 1) ls (.inr (.inl (aw_shlL x y)) :: st) w r) : aw_AW l K M d pc ls (.inl y :: .inr (.inl x) :: st) w r :=
  aw_step k (fun h => aw_ok1 (aw_t1 (aw_t1 h)) (aw_Ll _)) (fun p e s m args below meth c H locs LS Q _ C _ _ _ k => lv_lshl (v := Int64.ofInt (aw_shlL x y)) C.1 C.2.1 hd (aw_bckL _).symm k)
theorem aw_lushr {x y : Int} (hd : decode M.2.1 pc = .ok (.lushr, 1)) (k : aw_AW l K M d (pc + 1) ls (.inr (.inl (aw_ushrL x y)) :: st) w r) : aw_AW l K M d pc ls (.inl y :: .inr (.inl x) :: st) w r :=
  aw_step k (fun h => aw_ok1 (aw_t1 (aw_t1 h)) (aw_Ll _)) (fun p e s m args below meth c H locs LS Q _ C _ _ _ k => lv_lushr (v := Int64.ofInt (aw_ushrL x y)) C.1 C.2.1 hd (aw_bckL _).symm k)
end AWR
