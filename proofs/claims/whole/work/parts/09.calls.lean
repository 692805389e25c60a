/-! ===== the abstract walk: static arrays, calls, copies ===== -/
section AWC
variable {l : Launch} {K : aw_K} {M : aw_M} {d pc : Nat} {ls ls' : aw_Ls} {st : List aw_V} {w : aw_W} {r : Option aw_V × aw_W}
/-- a static array's name is read; .. of a nest mate -/
theorem aw_gets {idx j : Nat} {q : String × String × List Int} (hd : decode M.2.1 pc = .ok (.getstatic idx, 3)) (hq : aw_stats[j]? = some q) (hf : Cond.fieldLink M.1.cls idx q.1 q.2.1 "[I" ∈ aw_G) (kk : aw_AW l K M d (pc + 3) ls (.inr (.inr (200 + j)) :: st) w r) : aw_AW l K M d pc ls st w r :=
  aw_step kk (fun h => aw_ok1 h trivial) (fun p e s m args below meth c H locs LS Q _ C hP hS hL k => by
    obtain ⟨hx, hb, -, -, -, hown, hts, -, hSt, -⟩ := id C
    exact va_gets hx hb (hSt.1 j q hq).1 hS hown (hts _ (List.mem_cons_of_mem _ hf)) (fun x h => h) hd k)
theorem aw_getsN {idx j : Nat} {q : String × String × List Int} {host : String} (hd : decode M.2.1 pc = .ok (.getstatic idx, 3)) (hq : aw_stats[j]? = some q) (hf : Cond.fieldLinkNest M.1.cls idx q.1 q.2.1 "[I" host ∈ aw_nest) (kk : aw_AW l K M d (pc + 3) ls (.inr (.inr (200 + j)) :: st) w r) : aw_AW l K M d pc ls st w r :=
  aw_step kk (fun h => aw_ok1 h trivial) (fun p e s m args below meth c H locs LS Q _ C hP hS hL k => by
    obtain ⟨hx, hb, -, -, -, hown, hts, -, hSt, -⟩ := id C
    exact va_getsN hx hb (hSt.1 j q hq).1 hS hown (va_Nw.use rfl (hSt.2.2.2 _ hf)) (fun x h => h) hd k)
theorem aw_sald {j : Nat} {q : String × String × List Int} {x : Int} (hd : decode M.2.1 pc = .ok (.iaload, 1)) (hq : aw_stats[j]? = some q) (h0 : 0 ≤ x) (h1 : x < q.2.2.length) (hv : aw_I (q.2.2.getD x.toNat 0)) (kk : aw_AW l K M d (pc + 1) ls (.inl (q.2.2.getD x.toNat 0) :: st) w r) : aw_AW l K M d pc ls (.inl x :: .inr (.inr (200 + j)) :: st) w r :=
  aw_step kk (fun h => aw_ok1 (aw_t1 (aw_t1 h)) hv) (fun p e s m args below meth c H locs LS Q ho C hP hS hL k => by
    obtain ⟨hx, hb, -, -, -, hown, hts, -, hSt, -⟩ := id C
    have hxI : aw_I x := aw_h1 ho
    exact va_ti hx hb (hSt.1 j q hq).2 hS (aw_in hxI h0 h1) (by rw [aw_clamp hxI]; rfl) hd k)
theorem aw_slen {j : Nat} {q : String × String × List Int} {n : Int} (hd : decode M.2.1 pc = .ok (.arraylength, 1)) (hq : aw_stats[j]? = some q) (hn : (q.2.2.length : Int) = n) (hI : aw_I n) (kk : aw_AW l K M d (pc + 1) ls (.inl n :: st) w r) : aw_AW l K M d pc ls (.inr (.inr (200 + j)) :: st) w r :=
  aw_step kk (fun h => aw_ok1 (aw_t1 h) hI) (fun p e s m args below meth c H locs LS Q ho C hP hS hL k => by
    obtain ⟨hx, hb, -, -, -, hown, hts, -, hSt, -⟩ := id C
    subst hn
    exact va_tlen hx hb (hSt.1 j q hq).2 hS (v := Int32.ofInt (q.2.2.length : Int)) rfl hd k)
/-! calls -/
theorem aw_after {p : Program} {e : Env} {s : State} {m : MethodId} {args : Array Value} {below : List Frame} {meth : Method} {c : Code} {H : Heap} {locs : List Loc} {Q : State → Prop} {LS : Array Slot} {st0 rest : List Value} {a : Array Value} {R : Room} {r1 : Option aw_V × aw_W}
    (hr : va_Run p l e R s m args below meth c H locs 0 0 0 0 (F0 m pc LS st0) rest (aw_Qc K r1 a) (aw_A K)) (hS : va_S (aw_A K) s.heap H locs)
    (kk : ∀ (H1 : Heap) (locs1 : List Loc), aw_Hp K r1.2 H1 → va_S (aw_A K) s.heap H1 locs1 → W p l e R s m args below meth c H1 locs1 0 0 Q (F0 m (pc + 3) LS ((r1.1.map (aw_cv K)).toList ++ rest))) : W p l e R s m args below meth c H locs 0 0 Q (F0 m pc LS st0) := by
  intro T hT X
  obtain ⟨v, st₀, t, T', L, h0, X', hL, e1, e2, ⟨hv, hP, hz, hk⟩, stp⟩ := hr T hT X
  have hv' : v = r1.1.map (aw_cv K) := Outcome.returned.inj hv
  subst hv'
  rw [h0] at hz hk
  obtain ⟨t2, a1, b1⟩ := kk T'.heap (locs ++ L) (by rw [e1]; exact hP)
    ⟨Nat.le_trans hS.1 (by rw [e1]; exact hz), fun q h1 h2 => by rw [e1, hk q (Nat.lt_of_lt_of_le h1 hS.1) h2]; exact hS.2.1 q h1 h2, fun q hq => by
      rcases List.mem_append.mp hq with h | h
      · exact hS.2.2 q h
      · exact hL q h⟩ T' rfl X'
  exact ⟨t2, stp t2 a1, b1⟩
theorem aw_St.same {u U : State} (hv : U.vm = u.vm) (hh : U.heap = u.heap) (h : aw_St K u) : aw_St K U := by
  have hal : u.vm.Alike U.vm := by rw [hv]; exact Vm.Alike.refl _
  obtain ⟨h1, ⟨h2, h3, h4, h5, h6, h7⟩, ⟨h8, h9, h11⟩, h10⟩ := h
  refine ⟨fun j q hj => ?_, ⟨by rw [hh]; exact h2.moved hal, by rw [hh]; exact h3.moved hal, h4.same hv, h5.same hv, h6.same hv, h7.same hv⟩, ⟨by rw [hh]; exact h8.moved hal, by rw [hh]; exact h9.moved hal, by rw [hh]; exact h11.moved hal⟩, fun w hw => ?_⟩
  · obtain ⟨a, b⟩ := h1 j q hj
    exact ⟨by rw [hh]; exact a.moved hal, by rw [hh]; exact b.moved hal⟩
  · have g := (List.mem_filter.mp hw).2
    have z := h10 w hw
    cases w with
    | fieldLinkNest a i b n d hh => exact va_Nw.same rfl hv.symm z
    | methodLinkNest a i x hh => exact va_Nw.same rfl hv.symm z
    | _ => exact absurd g (by simp [aw_isN])
theorem aw_blind (as : List aw_V) (w : aw_W) : FrameBlind (aw_Pc K as w) := by
  intro a U g mk q
  obtain ⟨h1, h2, h3, h4, h5, h6⟩ := q
  exact ⟨h1, h2, va_K.moved (u := U) (U := U.calling g mk a) (Vm.Alike.refl U.vm) h3, aw_St.same (u := U) (U := U.calling g mk a) rfl rfl h4, h5, h6⟩
theorem aw_sum (st : List aw_V) : ((st.map (aw_cv K)).map fun v => v.category).sum = (st.map aw_cat).sum := by
  rw [List.map_map]
  congr 1
  apply List.map_congr_left
  intro v _
  exact aw_cat_cv v
theorem aw_pcU {p : Program} {s U : State} {m : MethodId} {args : Array Value} {meth : Method} {c : Code} {H : Heap} {locs : List Loc} (C : aw_Cx K M p s m args meth c) (hP : aw_Hp K w H) (hS : va_S (aw_A K) s.heap H locs) (hU : U.heap = H) (hW : s.WarmedH U.vm) (as : List aw_V) : aw_Pc K as w (as.map (aw_cv K)).toArray U := by
  obtain ⟨-, -, -, -, -, -, -, hK, hSt, hKok, hb0⟩ := C
  refine ⟨rfl, by rw [hU]; exact hP, va_K.moved hW.alike hK, hSt.go hW hU hS, hKok, ?_⟩
  rw [hU]
  exact Nat.le_trans hb0 hS.1
theorem aw_G_in (M : aw_M) : ∀ w ∈ aw_G, w ∈ aw_ws M := fun _ h => List.mem_cons_of_mem _ h
/-- what the tables say of a method that is called -/
def aw_CB (M' : aw_M) (n : Nat) : Prop := Cond.code M'.1 M'.2.1 M'.2.2.1 M'.2.2.2 ∈ lw_tbl ∧ (M'.1.cls ≠ "java/lang/invoke/MethodHandle" ∧ M'.1.cls ≠ "java/lang/invoke/VarHandle" ∧ (parseMethodDescriptor M'.1.desc).map (fun d => d.parameters.length) = some n) ∧ Cond.initialized M'.1.cls ∈ aw_G ∧ M'.2.2.1 ≤ 40
def aw_CV (own : String) (idx : Nat) (M' : aw_M) (n : Nat) : Prop := aw_CB M' n ∧ Cond.methodLink own idx M'.1 ∈ aw_G ∧ Cond.instanceMethod M'.1 ∈ aw_G ∧ Cond.selects M'.1.cls M'.1 M'.1 ∈ aw_G
def aw_CS (own : String) (idx : Nat) (M' : aw_M) (n : Nat) : Prop := aw_CB M' n ∧ Cond.methodLink own idx M'.1 ∈ aw_G ∧ Cond.static M'.1 ∈ aw_G
def aw_CN (own : String) (idx : Nat) (M' : aw_M) (n : Nat) (host : String) : Prop := aw_CB M' n ∧ Cond.methodLinkNest own idx M'.1 host ∈ aw_nest ∧ Cond.static M'.1 ∈ aw_G
theorem aw_roomy {d x : Nat} (h : x ≤ 40) : (aw_rm d).frames + 1 ≤ (aw_rm (d + 1)).frames ∧ 8 + (x + 11) + (aw_rm d).locals ≤ (aw_rm (d + 1)).locals := by
  show d + 1 + 1 ≤ d + 1 + 1 ∧ 8 + (x + 11) + 64 * (d + 1) ≤ 64 * (d + 1 + 1)
  omega
theorem aw_toArr (as : List aw_V) (v : aw_V) : (aw_cv K v :: as.map (aw_cv K)).toArray = ((v :: as).map (aw_cv K)).toArray := rfl
theorem aw_callV {idx n i ci N : Nat} {M' : aw_M} {as stk st' : List aw_V} {ks : List Nat} {T : u_T} {rv : Option aw_V} {w1 : aw_W} (hd : decode M.2.1 pc = .ok (.invokevirtual idx, 3)) (hc : aw_CV M.1.cls idx M' n) (hi : i < aw_N) (hy : aw_lay i = .inl (ci, ks)) (hcl : vwCl[ci]? = some (M'.1.cls, T, N)) (hlen : as.length = n) (hstk : stk = as.reverse ++ .inr (.inr i) :: st) (hroom : (st.map aw_cat).sum ≤ 8)
    (hM : aw_Met l K M' d (.inr (.inr i) :: as) w (rv, w1)) (hout : st' = rv.toList ++ st) (kk : aw_AW l K M (d + 1) (pc + 3) ls st' w1 r) : aw_AW l K M (d + 1) pc ls stk w r := by
  intro hw hl ho
  subst hstk
  subst hout
  have hoas : ∀ v ∈ as, aw_ok v := fun v hv => ho v (List.mem_append_left _ (List.mem_reverse.mpr hv))
  have host : ∀ v ∈ st, aw_ok v := fun v hv => ho v (List.mem_append_right _ (List.mem_cons_of_mem _ hv))
  obtain ⟨hr1, hMet⟩ := hM hw (aw_ok1 hoas trivial)
  obtain ⟨hr, kk⟩ := kk hr1.2 hl (fun v hv => by
    rcases List.mem_append.mp hv with h | h
    · exact hr1.1 v (by simpa using h)
    · exact host v h)
  refine ⟨hr, fun p e s m args below meth c H locs LS Cx hP hS hL => ?_⟩
  obtain ⟨hx, hb, hml, -, -, hown, hts, hK, hSt, hKok, hb0⟩ := id Cx
  obtain ⟨⟨c1, c2, c3, c4⟩, c5, c6, c7⟩ := hc
  have he : (aw_cz K w)[i]? = some (K.2.2.1 i, .inr (ci, aw_fs K ks (w i))) := by rw [aw_cz_at hi, aw_clO hy]
  have ok : ∀ w ∈ aw_G, w.before args s = true := fun w h => hts w (aw_G_in M w h)
  have cB : CallB (aw_rm (d + 1)) s args M.1.cls idx M'.1 M'.2.1 M'.2.2.1 M'.2.2.2 (aw_ws M') (aw_rm d) 0 0 n := callB_of n hts (aw_good M' (aw_G_in M) c1) rfl rfl rfl (ok _ c3) (ok _ c5) c2 (aw_roomy c4)
  have hrun := va_runV (As := as.map (aw_cv K)) (rest := st.map (aw_cv K)) (b := K.2.2.1 i) (g := F0 m pc LS ((as.reverse ++ .inr (.inr i) :: st).map (aw_cv K))) (H := H) (locs := locs) (cells := 0) (slots := 0) (e := e) (below := below) (meth := meth) (free := aw_A K) ⟨hx, hb, hml, hown, hts⟩ hMet ⟨cB, ok _ c6, ok _ c7⟩ ⟨aw_blind _ w, va_recv hK hP hcl he, fun U hU hW => aw_pcU Cx hP hS hU hW (.inr (.inr i) :: as)⟩ rfl (by rw [List.length_map]; exact hlen) hL.1 (by simp [aw_cv]) (lv_room (by rw [aw_sum]; exact hroom)) hd ⟨Nat.zero_le _, Nat.zero_le _⟩
  refine aw_after hrun hS (fun H1 locs1 hP1 hS1 => ?_)
  have k2 := kk p e s m args below meth c H1 locs1 LS Cx hP1 hS1 hL
  have e2 : List.map (aw_cv K) (rv.toList ++ st) = (Option.map (aw_cv K) rv).toList ++ List.map (aw_cv K) st := by cases rv <;> simp
  rw [e2] at k2
  exact k2
theorem aw_callSg {idx n : Nat} {M' : aw_M} {as stk st' : List aw_V} {rv : Option aw_V} {w1 : aw_W} (hstk : stk = as.reverse ++ st)
    (hrun : ∀ (p : Program) (e : Env) (s : State) (m : MethodId) (args : Array Value) (below : List Frame) (meth : Method) (c : Code) (H : Heap) (locs : List Loc) (LS : Array Slot), Met l M'.1 (aw_ws M') (aw_rm d) (aw_Pc K as w) (aw_Qc K (rv, w1)) 0 0 (aw_A K) → aw_Cx K M p s m args meth c → aw_Hp K w H → va_S (aw_A K) s.heap H locs → lv_has LS M.2.2.1 (aw_lc K ls) → va_Run p l e (aw_rm (d + 1)) s m args below meth c H locs 0 0 0 0 (F0 m pc LS ((as.reverse ++ st).map (aw_cv K))) (st.map (aw_cv K)) (aw_Qc K (rv, w1) (as.map (aw_cv K)).toArray) (aw_A K))
    (hM : aw_Met l K M' d as w (rv, w1)) (hout : st' = rv.toList ++ st) (kk : aw_AW l K M (d + 1) (pc + 3) ls st' w1 r) : aw_AW l K M (d + 1) pc ls stk w r := by
  intro hw hl ho
  subst hstk
  subst hout
  have hoas : ∀ v ∈ as, aw_ok v := fun v hv => ho v (List.mem_append_left _ (List.mem_reverse.mpr hv))
  have host : ∀ v ∈ st, aw_ok v := fun v hv => ho v (List.mem_append_right _ hv)
  obtain ⟨hr1, hMet⟩ := hM hw hoas
  obtain ⟨hr, kk⟩ := kk hr1.2 hl (fun v hv => by
    rcases List.mem_append.mp hv with h | h
    · exact hr1.1 v (by simpa using h)
    · exact host v h)
  refine ⟨hr, fun p e s m args below meth c H locs LS Cx hP hS hL => ?_⟩
  refine aw_after (hrun p e s m args below meth c H locs LS hMet Cx hP hS hL) hS (fun H1 locs1 hP1 hS1 => ?_)
  have k2 := kk p e s m args below meth c H1 locs1 LS Cx hP1 hS1 hL
  have e2 : List.map (aw_cv K) (rv.toList ++ st) = (Option.map (aw_cv K) rv).toList ++ List.map (aw_cv K) st := by cases rv <;> simp
  rw [e2] at k2
  exact k2
theorem aw_callS {idx n : Nat} {M' : aw_M} {as stk st' : List aw_V} {rv : Option aw_V} {w1 : aw_W} (hd : decode M.2.1 pc = .ok (.invokestatic idx, 3)) (hc : aw_CS M.1.cls idx M' n) (hlen : as.length = n) (hstk : stk = as.reverse ++ st) (hroom : (st.map aw_cat).sum ≤ 8)
    (hM : aw_Met l K M' d as w (rv, w1)) (hout : st' = rv.toList ++ st) (kk : aw_AW l K M (d + 1) (pc + 3) ls st' w1 r) : aw_AW l K M (d + 1) pc ls stk w r := by
  refine aw_callSg (idx := idx) (n := n) hstk (fun p e s m args below meth c H locs LS hMet Cx hP hS hL => ?_) hM hout kk
  obtain ⟨hx, hb, hml, -, -, hown, hts, hK, hSt, hKok, hb0⟩ := id Cx
  obtain ⟨⟨c1, c2, c3, c4⟩, c5, c6⟩ := hc
  have ok : ∀ w ∈ aw_G, w.before args s = true := fun w h => hts w (aw_G_in M w h)
  have cB : CallB (aw_rm (d + 1)) s args M.1.cls idx M'.1 M'.2.1 M'.2.2.1 M'.2.2.2 (aw_ws M') (aw_rm d) 0 0 n := callB_of n hts (aw_good M' (aw_G_in M) c1) rfl rfl rfl (ok _ c3) (ok _ c5) c2 (aw_roomy c4)
  exact va_runS (As := as.map (aw_cv K)) (rest := st.map (aw_cv K)) ⟨hx, hb, hml, hown, hts⟩ hMet ⟨cB, ok _ c6⟩ ⟨aw_blind _ w, fun U hU hW => aw_pcU Cx hP hS hU hW as⟩ rfl (by rw [List.length_map]; exact hlen) hL.1 (by simp) (lv_room (by rw [aw_sum]; exact hroom)) hd ⟨Nat.zero_le _, Nat.zero_le _⟩
theorem aw_callN {idx n : Nat} {M' : aw_M} {as stk st' : List aw_V} {rv : Option aw_V} {w1 : aw_W} {host : String} (hd : decode M.2.1 pc = .ok (.invokestatic idx, 3)) (hc : aw_CN M.1.cls idx M' n host) (hlen : as.length = n) (hstk : stk = as.reverse ++ st) (hroom : (st.map aw_cat).sum ≤ 8)
    (hM : aw_Met l K M' d as w (rv, w1)) (hout : st' = rv.toList ++ st) (kk : aw_AW l K M (d + 1) (pc + 3) ls st' w1 r) : aw_AW l K M (d + 1) pc ls stk w r := by
  refine aw_callSg (idx := idx) (n := n) hstk (fun p e s m args below meth c H locs LS hMet Cx hP hS hL => ?_) hM hout kk
  obtain ⟨hx, hb, hml, -, -, hown, hts, hK, hSt, hKok, hb0⟩ := id Cx
  obtain ⟨⟨c1, c2, c3, c4⟩, c5, c6⟩ := hc
  have ok : ∀ w ∈ aw_G, w.before args s = true := fun w h => hts w (aw_G_in M w h)
  exact va_runSN (As := as.map (aw_cv K)) (rest := st.map (aw_cv K)) ⟨hx, hb, hml, hown, hts⟩ hMet ⟨va_cnB n hts (aw_good M' (aw_G_in M) c1) rfl rfl rfl (hSt.2.2.2 _ c5) (ok _ c3) c2 (aw_roomy c4), ok _ c6, trivial⟩ ⟨aw_blind _ w, fun U hU hW => aw_pcU Cx hP hS hU hW as⟩ rfl (by rw [List.length_map]; exact hlen) hL.1 (by simp) (lv_room (by rw [aw_sum]; exact hroom)) hd ⟨Nat.zero_le _, Nat.zero_le _⟩
end AWC
