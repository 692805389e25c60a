/-! ===== the abstract walk: fields, arrays ===== -/
section AWF
variable {l : Launch} {K : aw_K} {M : aw_M} {d pc : Nat} {ls ls' : aw_Ls} {st : List aw_V} {w : aw_W} {r : Option aw_V × aw_W}
def aw_FL (own : String) (idx ci k : Nat) : Prop := ∃ (C : String) (T : u_T) (N : Nat), vwCl[ci]? = some (C, T, N) ∧ k < N ∧ (∀ w ∈ u_ws C T N, w ∈ aw_G) ∧ Cond.fieldLink own idx (T k).1 (T k).2.1 (T k).2.2.1 ∈ aw_G
def aw_FP (own : String) (idx ci k : Nat) (ty : FieldType) : Prop := ∃ (C : String) (T : u_T) (N : Nat) (ty0 : Nat → FieldType), vwCl[ci]? = some (C, T, N) ∧ k < N ∧ (∀ w ∈ u_ws C T N, w ∈ aw_G) ∧ Cond.fieldLink own idx (T k).1 (T k).2.1 (T k).2.2.1 ∈ aw_G ∧ (∀ k, k < N → parseFieldDescriptor (T k).2.2.1 = some (ty0 k)) ∧ (∀ a, a < N → ∀ b, b < N → a ≠ b → (T a).2.1 ≠ (T b).2.1) ∧ (T k).2.2.2 = false ∧ ty0 k = ty
theorem aw_clO {i ci : Nat} {ks : List Nat} (hy : aw_lay i = .inl (ci, ks)) (w : aw_W) : aw_cl K w i = .inr (ci, aw_fs K ks (w i)) := by unfold aw_cl; rw [hy]
theorem aw_fs_at {ks : List Nat} {k kd : Nat} (hk : ks[k]? = some kd) (f : Nat → Int) : (aw_fs K ks f)[k]? = some (aw_cv K (aw_fr kd (f k))) := by
  have hl : k < ks.length := (List.getElem?_eq_some_iff.mp hk).1
  unfold aw_fs
  rw [List.getElem?_map, List.getElem?_range hl]
  show some (aw_cv K (aw_fr (ks.getD k 0) (f k))) = _
  rw [List.getD_eq_getElem?_getD, hk]
  rfl
theorem aw_fs_len (ks : List Nat) (f : Nat → Int) : (aw_fs K ks f).length = ks.length := by unfold aw_fs; rw [List.length_map, List.length_range]
theorem aw_fs_set {ks : List Nat} {k kd : Nat} (hk : ks[k]? = some kd) (f g : Nat → Int) (x : Int) (hg : ∀ j, g j = if j = k then x else f j) : aw_fs K ks g = (aw_fs K ks f).set k (aw_cv K (aw_fr kd x)) := by
  have hl : k < ks.length := (List.getElem?_eq_some_iff.mp hk).1
  apply List.ext_getElem?
  intro j
  by_cases hj : j < ks.length
  · by_cases h : j = k
    · subst h
      rw [List.getElem?_set_self (by rw [aw_fs_len]; exact hl), aw_fs_at hk, hg, if_pos rfl]
    · rw [List.getElem?_set_ne (Ne.symm h)]
      have e := List.getElem?_eq_getElem hj
      rw [aw_fs_at e, aw_fs_at e, hg, if_neg h]
  · rw [List.getElem?_eq_none (by rw [aw_fs_len]; omega), List.getElem?_eq_none (by rw [List.length_set, aw_fs_len]; omega)]
theorem aw_klO {i ci k kd : Nat} {ks : List Nat} (hy : aw_lay i = .inl (ci, ks)) (hk : ks[k]? = some kd) : aw_kl i k = (kd == 1) := by
  unfold aw_kl
  rw [hy]
  show (ks.getD k 0 == 1) = _
  rw [List.getD_eq_getElem?_getD, hk]
  rfl
theorem aw_fr_ok {i ci k kd : Nat} {ks : List Nat} (hy : aw_lay i = .inl (ci, ks)) (hk : ks[k]? = some kd) (hw : aw_okw w) : aw_ok (aw_fr kd (w i k)) := by
  have e := aw_klO hy hk
  match kd, e with
  | 0, e => exact (hw i k).2 e
  | 1, e => exact (hw i k).1
  | 2, _ => exact trivial
  | _ + 3, _ => exact trivial
theorem aw_getf {i ci idx k kd : Nat} {ks : List Nat} {v : aw_V} (hd : decode M.2.1 pc = .ok (.getfield idx, 3)) (hf : aw_FL M.1.cls idx ci k) (hi : i < aw_N) (hy : aw_lay i = .inl (ci, ks)) (hk : ks[k]? = some kd) (hv : aw_fr kd (w i k) = v) (kk : aw_AW l K M d (pc + 3) ls (v :: st) w r) : aw_AW l K M d pc ls (.inr (.inr i) :: st) w r := by
  intro hw hl ho
  subst hv
  obtain ⟨hr, kk⟩ := kk hw hl (aw_ok1 (aw_t1 ho) (aw_fr_ok hy hk hw))
  obtain ⟨C, T, N, h1, h2, h3, h4⟩ := hf
  refine ⟨hr, fun p e s m args below meth c H locs LS Cx hP hS hL => ?_⟩
  have he : (aw_cz K w)[i]? = some (K.2.2.1 i, .inr (ci, aw_fs K ks (w i))) := by rw [aw_cz_at hi, aw_clO hy]
  obtain ⟨hx, hb, -, -, -, hown, hts, hK, -⟩ := id Cx
  exact va_get hx hb hts (fun w h => List.mem_cons_of_mem _ (h3 w h)) hown hK hP i he h1 k h2 (hts _ (List.mem_cons_of_mem _ h4)) (fun x h => h) (aw_fs_at hk (w i)) hd (kk p e s m args below meth c H locs LS Cx hP hS hL)
theorem aw_putg {i ci idx k kd : Nat} {ks : List Nat} {ty : FieldType} {x : Int} {v : aw_V} (hd : decode M.2.1 pc = .ok (.putfield idx, 3)) (hf : aw_FP M.1.cls idx ci k ty) (hi : i < aw_N) (hy : aw_lay i = .inl (ci, ks)) (hk : ks[k]? = some kd) (hv : aw_fr kd x = v) (hn : ∀ K, narrow ty (aw_cv K v) = aw_cv K v) (hft : ∀ K, fits ty (aw_cv K v) = true) (hx : aw_ok v → aw_L x ∧ (kd ≠ 1 → aw_I x)) (kk : aw_AW l K M d (pc + 3) ls st (aw_up w i k x) r) : aw_AW l K M d pc ls (v :: .inr (.inr i) :: st) w r := by
  intro hw hl ho
  subst hv
  have hx2 := hx (aw_h1 ho)
  obtain ⟨hr, kk⟩ := kk (aw_okw_up hw hx2.1 (fun q => hx2.2 (fun e => by rw [aw_klO hy hk, e] at q; cases q))) hl (aw_t1 (aw_t1 ho))
  obtain ⟨C, T, N, ty0, h1, h2, h3, h4, h5, h6, h7, h8⟩ := hf
  refine ⟨hr, fun p e s m args below meth c H locs LS Cx hP hS hL => ?_⟩
  have he : (aw_cz K w)[i]? = some (K.2.2.1 i, .inr (ci, aw_fs K ks (w i))) := by rw [aw_cz_at hi, aw_clO hy]
  obtain ⟨hx, hb, -, -, -, hown, hts, hK, -, hKok, -⟩ := id Cx
  have hz : (aw_cz K w).set i (K.2.2.1 i, .inr (ci, (aw_fs K ks (w i)).set k (aw_cv K (aw_fr kd x)))) = aw_cz K (aw_up w i k x) := by
    refine aw_cz_set ?_ (fun j h => aw_cl_ne h)
    rw [aw_clO hy, aw_fs_set hk (w i) (aw_up w i k x i) x (aw_up_self w i k x)]
  refine va_put hx hb hts (fun w h => List.mem_cons_of_mem _ (h3 w h)) ty0 h5 h6 hown hK hP (aw_Dz hKok w) hS i he h1 k h2 (hts _ (List.mem_cons_of_mem _ h4)) (fun x h => h) h7 (ty := ty) (by rw [h5 k h2, h8]) (hn K) (hft K) (by rw [aw_fs_len]; exact (List.getElem?_eq_some_iff.mp hk).1) hd (fun H1 locs1 hP1 _ hS1 => ?_)
  rw [hz] at hP1
  exact kk p e s m args below meth c H1 locs1 LS Cx hP1 hS1 hL
theorem aw_puti {i ci idx k : Nat} {ks : List Nat} {x : Int} (hd : decode M.2.1 pc = .ok (.putfield idx, 3)) (hf : aw_FP M.1.cls idx ci k .int) (hi : i < aw_N) (hy : aw_lay i = .inl (ci, ks)) (hk : ks[k]? = some 0) (kk : aw_AW l K M d (pc + 3) ls st (aw_up w i k x) r) : aw_AW l K M d pc ls (.inl x :: .inr (.inr i) :: st) w r :=
  aw_putg hd hf hi hy hk rfl (fun K => rfl) (fun K => rfl) (fun h => ⟨aw_IL h, fun _ => h⟩) kk
theorem aw_putz {i ci idx k : Nat} {ks : List Nat} {x : Int} (hd : decode M.2.1 pc = .ok (.putfield idx, 3)) (hf : aw_FP M.1.cls idx ci k .boolean) (hi : i < aw_N) (hy : aw_lay i = .inl (ci, ks)) (hk : ks[k]? = some 0) (hx : x = 0 ∨ x = 1) (kk : aw_AW l K M d (pc + 3) ls st (aw_up w i k x) r) : aw_AW l K M d pc ls (.inl x :: .inr (.inr i) :: st) w r :=
  aw_putg hd hf hi hy hk rfl (fun K => by rcases hx with rfl | rfl <;> rfl) (fun K => by rcases hx with rfl | rfl <;> rfl) (fun h => ⟨aw_IL h, fun _ => h⟩) kk
theorem aw_putl {i ci idx k : Nat} {ks : List Nat} {x : Int} (hd : decode M.2.1 pc = .ok (.putfield idx, 3)) (hf : aw_FP M.1.cls idx ci k .long) (hi : i < aw_N) (hy : aw_lay i = .inl (ci, ks)) (hk : ks[k]? = some 1) (kk : aw_AW l K M d (pc + 3) ls st (aw_up w i k x) r) : aw_AW l K M d pc ls (.inr (.inl x) :: .inr (.inr i) :: st) w r :=
  aw_putg hd hf hi hy hk rfl (fun K => rfl) (fun K => rfl) (fun h => ⟨h, fun q => absurd rfl q⟩) kk
theorem aw_putr {i ci idx k j : Nat} {ks : List Nat} {ty : FieldType} (hd : decode M.2.1 pc = .ok (.putfield idx, 3)) (hf : aw_FP M.1.cls idx ci k (.array ty)) (hi : i < aw_N) (hy : aw_lay i = .inl (ci, ks)) (hk : ks[k]? = some 2) (hj : aw_I (j : Int)) (kk : aw_AW l K M d (pc + 3) ls st (aw_up w i k (j : Int)) r) : aw_AW l K M d pc ls (.inr (.inr j) :: .inr (.inr i) :: st) w r :=
  aw_putg hd hf hi hy hk rfl (fun K => rfl) (fun K => rfl) (fun h => ⟨aw_IL hj, fun _ => hj⟩) kk
/-! arrays -/
theorem aw_clA {i ty n : Nat} (hy : aw_lay i = .inr (ty, n)) (ht : ty ≠ 3) (w : aw_W) : aw_cl K w i = .inl (K.2.1 ty, n, .inl (fun j => Int32.ofInt (w i j))) := by unfold aw_cl; rw [hy]; show (if ty = 3 then _ else _) = _; rw [if_neg ht]
theorem aw_clL {i n : Nat} (hy : aw_lay i = .inr (3, n)) (w : aw_W) : aw_cl K w i = .inl (K.2.1 3, n, .inr (.inl (fun j => Int64.ofInt (w i j)))) := by unfold aw_cl; rw [hy]; rfl
theorem aw_klA {i ty n k : Nat} (hy : aw_lay i = .inr (ty, n)) : aw_kl i k = (ty == 3) := by unfold aw_kl; rw [hy]
theorem aw_N_of {i ty n : Nat} (hy : aw_lay i = .inr (ty, n)) (hn : 0 < n) : i < aw_N := by
  rcases Nat.lt_or_ge i aw_N with h | h
  · exact h
  · exfalso
    unfold aw_lay at hy
    rw [List.getD_eq_getElem?_getD, List.getElem?_eq_none (show aw_lays.length ≤ i from h)] at hy
    cases hy
    omega
/-- a whole-number array's element is read: iaload, baload of bytes or booleans -/
theorem aw_ald {i ty n : Nat} {x : Int} {fty : FieldType} {pc' : Nat} (hy : aw_lay i = .inr (ty, n)) (ht : ty ≠ 3) (h0 : 0 ≤ x) (h1 : x < n)
    (hrow : ∀ (p : Program) (e : Env) (s : State) (m : MethodId) (args : Array Value) (below : List Frame) (meth : Method) (c : Code) (H : Heap) (locs : List Loc) (LS : Array Slot) (Q : State → Prop), p.tables.exec = Jvm.exec → c.code = M.2.1 → va_K K.1 vwCl (aw_tys K) s → va_P K.1 vwCl (aw_cz K w) H → (aw_cz K w)[i]? = some (K.2.2.1 i, .inl (K.2.1 ty, n, .inl (fun j => Int32.ofInt (w i j)))) → vp_in (Int32.ofInt x) n →
      W p l e (aw_rm d) s m args below meth c H locs 0 0 Q (F0 m pc' LS (.int (Int32.ofInt (w i (Int32.ofInt x).toNatClampNeg)) :: st.map (aw_cv K))) → W p l e (aw_rm d) s m args below meth c H locs 0 0 Q (F0 m pc LS (.int (Int32.ofInt x) :: .ref (K.2.2.1 i) :: st.map (aw_cv K))))
    (kk : aw_AW l K M d pc' ls (.inl (w i x.toNat) :: st) w r) : aw_AW l K M d pc ls (.inl x :: .inr (.inr i) :: st) w r := by
  intro hw hl ho
  have hxI : aw_I x := aw_h1 ho
  obtain ⟨hr, kk⟩ := kk hw hl (aw_ok1 (aw_t1 (aw_t1 ho)) ((hw i x.toNat).2 (by rw [aw_klA hy]; simpa using ht)))
  refine ⟨hr, fun p e s m args below meth c H locs LS Cx hP hS hL => ?_⟩
  have hi : i < aw_N := aw_N_of hy (by omega)
  have he : (aw_cz K w)[i]? = some (K.2.2.1 i, .inl (K.2.1 ty, n, .inl (fun j => Int32.ofInt (w i j)))) := by rw [aw_cz_at hi, aw_clA hy ht]
  obtain ⟨hx, hb, -, -, -, -, -, hK, -⟩ := id Cx
  refine hrow p e s m args below meth c H locs LS _ hx hb hK hP he (aw_in hxI h0 h1) ?_
  rw [aw_clamp hxI]
  exact kk p e s m args below meth c H locs LS Cx hP hS hL
theorem aw_iald {i n : Nat} {x : Int} (hd : decode M.2.1 pc = .ok (.iaload, 1)) (hy : aw_lay i = .inr (0, n)) (h0 : 0 ≤ x) (h1 : x < n) (kk : aw_AW l K M d (pc + 1) ls (.inl (w i x.toNat) :: st) w r) : aw_AW l K M d pc ls (.inl x :: .inr (.inr i) :: st) w r :=
  aw_ald (fty := .int) hy (by decide) h0 h1 (fun p e s m args below meth c H locs LS Q hx hb hK hP he hin k => va_iald hx hb hK hP i 0 he rfl hin hd k) kk
theorem aw_bald {i n : Nat} {x : Int} (hd : decode M.2.1 pc = .ok (.baload, 1)) (hy : aw_lay i = .inr (1, n)) (h0 : 0 ≤ x) (h1 : x < n) (kk : aw_AW l K M d (pc + 1) ls (.inl (w i x.toNat) :: st) w r) : aw_AW l K M d pc ls (.inl x :: .inr (.inr i) :: st) w r :=
  aw_ald (fty := .byte) hy (by decide) h0 h1 (fun p e s m args below meth c H locs LS Q hx hb hK hP he hin k => va_bald hx hb hK hP i 1 he rfl hin hd k) kk
theorem aw_zald {i n : Nat} {x : Int} (hd : decode M.2.1 pc = .ok (.baload, 1)) (hy : aw_lay i = .inr (2, n)) (h0 : 0 ≤ x) (h1 : x < n) (kk : aw_AW l K M d (pc + 1) ls (.inl (w i x.toNat) :: st) w r) : aw_AW l K M d pc ls (.inl x :: .inr (.inr i) :: st) w r :=
  aw_ald (fty := .boolean) hy (by decide) h0 h1 (fun p e s m args below meth c H locs LS Q hx hb hK hP he hin k => va_zald hx hb hK hP i 2 he rfl hin hd k) kk
theorem aw_lald {i n : Nat} {x : Int} (hd : decode M.2.1 pc = .ok (.laload, 1)) (hy : aw_lay i = .inr (3, n)) (h0 : 0 ≤ x) (h1 : x < n) (kk : aw_AW l K M d (pc + 1) ls (.inr (.inl (w i x.toNat)) :: st) w r) : aw_AW l K M d pc ls (.inl x :: .inr (.inr i) :: st) w r := by
  intro hw hl ho
  have hxI : aw_I x := aw_h1 ho
  obtain ⟨hr, kk⟩ := kk hw hl (aw_ok1 (aw_t1 (aw_t1 ho)) (hw i x.toNat).1)
  refine ⟨hr, fun p e s m args below meth c H locs LS Cx hP hS hL => ?_⟩
  have hi : i < aw_N := aw_N_of hy (by omega)
  have he : (aw_cz K w)[i]? = some (K.2.2.1 i, .inl (K.2.1 3, n, .inr (.inl (fun j => Int64.ofInt (w i j))))) := by rw [aw_cz_at hi, aw_clL hy]
  obtain ⟨hx, hb, -, -, -, -, -, hK, -⟩ := id Cx
  refine va_lald hx hb hK hP i 3 he rfl (aw_in hxI h0 h1) hd ?_
  rw [aw_clamp hxI]
  exact kk p e s m args below meth c H locs LS Cx hP hS hL
theorem aw_alen {i ty n : Nat} (hd : decode M.2.1 pc = .ok (.arraylength, 1)) (hi : i < aw_N) (hy : aw_lay i = .inr (ty, n)) (ht : ty < 4) (hn : aw_I (n : Int)) (kk : aw_AW l K M d (pc + 1) ls (.inl (n : Int) :: st) w r) : aw_AW l K M d pc ls (.inr (.inr i) :: st) w r := by
  intro hw hl ho
  obtain ⟨hr, kk⟩ := kk hw hl (aw_ok1 (aw_t1 ho) hn)
  refine ⟨hr, fun p e s m args below meth c H locs LS Cx hP hS hL => ?_⟩
  obtain ⟨hx, hb, -, -, -, -, -, hK, -⟩ := id Cx
  have k2 := kk p e s m args below meth c H locs LS Cx hP hS hL
  have hv : Int32.ofNat n = Int32.ofInt (n : Int) := rfl
  by_cases h3 : ty = 3
  · subst h3
    exact va_alen hx hb hK hP i 3 (ty := .long) (by rw [aw_cz_at hi, aw_clL hy]) rfl hv hd k2
  · have he := aw_cz_at (K := K) (w := w) hi
    rw [aw_clA hy h3] at he
    rcases (show ty = 0 ∨ ty = 1 ∨ ty = 2 by omega) with rfl | rfl | rfl
    · exact va_alen hx hb hK hP i 0 (ty := .int) he rfl hv hd k2
    · exact va_alen hx hb hK hP i 1 (ty := .byte) he rfl hv hd k2
    · exact va_alen hx hb hK hP i 2 (ty := .boolean) he rfl hv hd k2
theorem aw_upd (w : aw_W) (i k : Nat) (x : Int) : (fun j => Int32.ofInt (aw_up w i k x i j)) = upd (fun j => Int32.ofInt (w i j)) k (Int32.ofInt x) := by
  funext j
  rw [aw_up_self]
  unfold upd
  by_cases h : j = k
  · rw [if_pos h, if_pos h]
  · rw [if_neg h, if_neg h]
theorem aw_updL (w : aw_W) (i k : Nat) (x : Int) : (fun j => Int64.ofInt (aw_up w i k x i j)) = vp_updL (fun j => Int64.ofInt (w i j)) k (Int64.ofInt x) := by
  funext j
  rw [aw_up_self]
  unfold vp_updL
  by_cases h : j = k
  · rw [if_pos h, if_pos h]
  · rw [if_neg h, if_neg h]
theorem aw_ast {i ty n : Nat} {x v : Int} {pc' : Nat} (hy : aw_lay i = .inr (ty, n)) (ht : ty ≠ 3) (h0 : 0 ≤ x) (h1 : x < n) 
    (hrow : ∀ (p : Program) (e : Env) (s : State) (m : MethodId) (args : Array Value) (below : List Frame) (meth : Method) (c : Code) (H : Heap) (locs : List Loc) (LS : Array Slot) (Q : State → Prop), p.tables.exec = Jvm.exec → c.code = M.2.1 → va_K K.1 vwCl (aw_tys K) s → va_P K.1 vwCl (aw_cz K w) H → va_D (aw_A K) (aw_cz K w) → va_S (aw_A K) s.heap H locs → (aw_cz K w)[i]? = some (K.2.2.1 i, .inl (K.2.1 ty, n, .inl (fun j => Int32.ofInt (w i j)))) → vp_in (Int32.ofInt x) n →
      (∀ (H1 : Heap) (locs1 : List Loc), va_P K.1 vwCl ((aw_cz K w).set i (K.2.2.1 i, .inl (K.2.1 ty, n, .inl (upd (fun j => Int32.ofInt (w i j)) (Int32.ofInt x).toNatClampNeg (Int32.ofInt v))))) H1 → va_S (aw_A K) s.heap H1 locs1 → W p l e (aw_rm d) s m args below meth c H1 locs1 0 0 Q (F0 m pc' LS (st.map (aw_cv K)))) → W p l e (aw_rm d) s m args below meth c H locs 0 0 Q (F0 m pc LS (.int (Int32.ofInt v) :: .int (Int32.ofInt x) :: .ref (K.2.2.1 i) :: st.map (aw_cv K))))
    (kk : aw_AW l K M d pc' ls st (aw_up w i x.toNat v) r) : aw_AW l K M d pc ls (.inl v :: .inl x :: .inr (.inr i) :: st) w r := by
  intro hw hl ho
  have hvI : aw_I v := aw_h1 ho
  have hxI : aw_I x := aw_h1 (aw_t1 ho)
  obtain ⟨hr, kk⟩ := kk (aw_okw_up hw (aw_IL hvI) (fun _ => hvI)) hl (aw_t1 (aw_t1 (aw_t1 ho)))
  refine ⟨hr, fun p e s m args below meth c H locs LS Cx hP hS hL => ?_⟩
  have hi : i < aw_N := aw_N_of hy (by omega)
  have he : (aw_cz K w)[i]? = some (K.2.2.1 i, .inl (K.2.1 ty, n, .inl (fun j => Int32.ofInt (w i j)))) := by rw [aw_cz_at hi, aw_clA hy ht]
  obtain ⟨hx, hb, -, -, -, -, -, hK, -, hKok, -⟩ := id Cx
  refine hrow p e s m args below meth c H locs LS _ hx hb hK hP (aw_Dz hKok w) hS he (aw_in hxI h0 h1) (fun H1 locs1 hP1 hS1 => ?_)
  rw [aw_clamp hxI, aw_cz_set (w' := aw_up w i x.toNat v) (by rw [aw_clA hy ht, aw_upd]) (fun j h => aw_cl_ne h)] at hP1
  exact kk p e s m args below meth c H1 locs1 LS Cx hP1 hS1 hL
theorem aw_iast {i n : Nat} {x v : Int} (hd : decode M.2.1 pc = .ok (.iastore, 1)) (hy : aw_lay i = .inr (0, n)) (h0 : 0 ≤ x) (h1 : x < n) (kk : aw_AW l K M d (pc + 1) ls st (aw_up w i x.toNat v) r) : aw_AW l K M d pc ls (.inl v :: .inl x :: .inr (.inr i) :: st) w r :=
  aw_ast hy (by decide) h0 h1 (fun p e s m args below meth c H locs LS Q hx hb hK hP hD hS he hin k => va_iast hx hb hK hP hD hS i 0 he rfl hin hd (fun H1 locs1 hP1 _ hS1 => k H1 locs1 hP1 hS1)) kk
theorem aw_zast {i n : Nat} {x v : Int} (hd : decode M.2.1 pc = .ok (.bastore, 1)) (hy : aw_lay i = .inr (2, n)) (h0 : 0 ≤ x) (h1 : x < n) (hv : v = 0 ∨ v = 1) (kk : aw_AW l K M d (pc + 1) ls st (aw_up w i x.toNat v) r) : aw_AW l K M d pc ls (.inl v :: .inl x :: .inr (.inr i) :: st) w r :=
  aw_ast hy (by decide) h0 h1 (fun p e s m args below meth c H locs LS Q hx hb hK hP hD hS he hin k => va_zast hx hb hK hP hD hS i 2 he rfl hin hd (fun H1 locs1 hP1 _ hS1 => k H1 locs1 (by rw [show vp_nar .boolean (Int32.ofInt v) = Int32.ofInt v by rcases hv with rfl | rfl <;> rfl] at hP1; exact hP1) hS1)) kk
theorem aw_bnar {v : Int} (h0 : -128 ≤ v) (h1 : v < 128) : vp_nar .byte (Int32.ofInt v) = Int32.ofInt v := by
  rw [vp_nar_byte]
  have hI : aw_I v := by unfold aw_I; omega
  rw [← Int32.toInt_inj, aw_back hI, Int8.toInt_toInt32, Int32.toInt_toInt8, aw_back hI, Int.bmod_def]
  split <;> omega
theorem aw_bast {i n : Nat} {x v : Int} (hd : decode M.2.1 pc = .ok (.bastore, 1)) (hy : aw_lay i = .inr (1, n)) (h0 : 0 ≤ x) (h1 : x < n) (hv0 : -128 ≤ v) (hv1 : v < 128) (kk : aw_AW l K M d (pc + 1) ls st (aw_up w i x.toNat v) r) : aw_AW l K M d pc ls (.inl v :: .inl x :: .inr (.inr i) :: st) w r :=
  aw_ast hy (by decide) h0 h1 (fun p e s m args below meth c H locs LS Q hx hb hK hP hD hS he hin k => va_bast hx hb hK hP hD hS i 1 he rfl hin hd (fun H1 locs1 hP1 _ hS1 => k H1 locs1 (by rw [aw_bnar hv0 hv1] at hP1; exact hP1) hS1)) kk
theorem aw_last {i n : Nat} {x v : Int} (hd : decode M.2.1 pc = .ok (.lastore, 1)) (hy : aw_lay i = .inr (3, n)) (h0 : 0 ≤ x) (h1 : x < n) (kk : aw_AW l K M d (pc + 1) ls st (aw_up w i x.toNat v) r) : aw_AW l K M d pc ls (.inr (.inl v) :: .inl x :: .inr (.inr i) :: st) w r := by
  intro hw hl ho
  have hvL : aw_L v := aw_h1 ho
  have hxI : aw_I x := aw_h1 (aw_t1 ho)
  obtain ⟨hr, kk⟩ := kk (aw_okw_up hw hvL (fun q => by rw [aw_klA hy] at q; cases q)) hl (aw_t1 (aw_t1 (aw_t1 ho)))
  refine ⟨hr, fun p e s m args below meth c H locs LS Cx hP hS hL => ?_⟩
  have hi : i < aw_N := aw_N_of hy (by omega)
  have he : (aw_cz K w)[i]? = some (K.2.2.1 i, .inl (K.2.1 3, n, .inr (.inl (fun j => Int64.ofInt (w i j))))) := by rw [aw_cz_at hi, aw_clL hy]
  obtain ⟨hx, hb, -, -, -, -, -, hK, -, hKok, -⟩ := id Cx
  refine va_last hx hb hK hP (aw_Dz hKok w) hS i 3 he rfl (aw_in hxI h0 h1) hd (fun H1 locs1 hP1 _ hS1 => ?_)
  rw [aw_clamp hxI, aw_cz_set (w' := aw_up w i x.toNat v) (by rw [aw_clL hy, aw_updL]) (fun j h => aw_cl_ne h)] at hP1
  exact kk p e s m args below meth c H1 locs1 LS Cx hP1 hS1 hL
end AWF
