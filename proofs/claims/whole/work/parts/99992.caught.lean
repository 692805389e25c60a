/-! ===== SecondHasLaw.striver ===== -/
theorem ax_ofWH {l : Launch} {y : MethodName} {ws ws' : List Cond} {rm : Room} {Pc : Array Value → State → Prop} {Qc : Array Value → State → Outcome → State → Prop} {mc ms : Nat} {free : Addr → Prop} {cc : ByteArray} {maxL : Nat} {ret : Option FieldType} {hh : List (Nat × Nat × Nat × Nat)}
    (hy : plainName y.cls = true) (hw : ws = Cond.codeWith y cc maxL ret hh :: ws')
    (body : ∀ p e s m args below meth c s₁, BodyLoose p l y (headSpec ws rm) cc maxL ret e s m args below meth c s₁ → c.maxLocals = maxL → Pc args s →
      W p l e (headSpec ws rm).room s m args below meth c s.heap [] 0 0 (MQ below Qc args s mc ms free) (entryFrame m args maxL)) : Met l y ws rm Pc Qc mc ms free := by
  refine MetFree.of_bodyS (code := cc) (maxLocals := maxL) (ret := ret) hy ?_ ?_
  · intro args s m h hn
    obtain ⟨m9, meth, c, hn9, h1, h2, h3, h4, -, h5, h6, -⟩ := Cond.codeWith_spec (atoms_spec (ws := ws) h _ (by rw [hw]; exact List.mem_cons_self))
    cases hn.symm.trans hn9
    exact ⟨meth, c, h1, h2, h3, h4, h5, h6⟩
  · intro p e s m args below meth c s₁ B hml hP _
    have hh0 : s₁.heap = s.heap := by rw [B.state]; rfl
    obtain ⟨t, a1, o, b1, b2, b3⟩ := body p e s m args below meth c s₁ B hml hP s₁ hh0 (Stand.of_body B)
    exact ⟨t, o, a1, b1, b2, ⟨b3.1, b3.2⟩⟩
def ax_wl : List Cond := Cond.codeWith yL_striver cL_striver 5 (some .int) [(0, 10, 13, 13)] :: aw_G
theorem ax_wl_good : GoodIn aw_G ax_wl := by
  have key : ∀ w ∈ aw_G, w ∈ aw_G ∧ ((w.onTables && w.keeps) = true ∨ ∃ ty, w = .arrayClass ty) := fun w h => ⟨h, good_of_word (List.mem_filter.mp h).2⟩
  intro w h
  rcases List.mem_cons.mp h with rfl | h
  · exact key _ ax_cw
  · exact key w h
section AXL
variable {p : Program} {l : Launch} {e : Env} {R : Room} {s : State} {m : MethodId} {args : Array Value} {below : List Frame} {meth : Method} {c : Code} {Q : State → Prop} {K : aw_K} {cells slots pc : Nat} {H : Heap} {locs : List Loc} {LS : Array Slot} {w : aw_W} {n : Nat} {lw it rl : Nat → Int} {x1 x2 : Int}
theorem ax_after {st0 rest : List Value} {a : Array Value} {b : Bool} {y : Int} {mc ms : Nat} (hr : vx_Run p l e R s m args below meth c H locs cells slots mc ms (F0 m pc LS st0) rest (ax_Qs K b y w a) (ax_Xs K b w) (aw_A K)) (hS : va_S (aw_A K) s.heap H locs)
    (kx : b = false → ∀ (ce : Cell) (q9 : Addr) (H1 : Heap) (locs1 : List Loc), aw_Hp K w H1 → va_S (aw_A K) s.heap H1 locs1 → H1[q9]? = some ce → ce.vm = .none → s.vm.findClass ax_E = some ce.cls → vx_W p l e R s m args below meth c H1 locs1 (cells + mc) (slots + ms) Q (F0 m pc LS rest) q9)
    (kk : b = true → ∀ (H1 : Heap) (locs1 : List Loc), aw_Hp K w H1 → va_S (aw_A K) s.heap H1 locs1 → W p l e R s m args below meth c H1 locs1 (cells + mc) (slots + ms) Q (F0 m (pc + 3) LS (.int (Int32.ofInt y) :: rest))) : W p l e R s m args below meth c H locs cells slots Q (F0 m pc LS st0) := by
  have hA : ∀ q, q < H.size → (aw_A K) q → (aw_A K) q := fun _ _ h => h
  have hf : ∀ q, (aw_A K) q → (aw_A K) q := fun _ h => h
  intro T hT X
  rcases hr T hT X with ⟨v, st₀, t, T', L, h0, X', hL, e1, e2, ⟨hb, hv, hP, hF⟩, st⟩ | ⟨q, st₀, t, T', L, E, ce, h0, X', hL, e1, e2, ⟨hb, hE, hP, hF⟩, hce, hcv, hcl, st⟩
  · have hv' : v = some (.int (Int32.ofInt y)) := Outcome.returned.inj hv
    subst hv'
    obtain ⟨k1, k2, k3⟩ := vx_keep h0 e1 hS hA hf hL hF
    obtain ⟨t2, a1, b1⟩ := kk hb T'.heap (locs ++ L) (by rw [e1]; exact hP) k3 T' rfl X'
    exact ⟨t2, st t2 a1, b1⟩
  · subst hE
    obtain ⟨k1, k2, k3⟩ := vx_keep h0 e1 hS hA hf hL hF
    obtain ⟨t2, a1, b1⟩ := kx hb ce q T'.heap (locs ++ L) (by rw [e1]; exact hP) k3 (by rw [e1]; exact hce) hcv hcl T' rfl X'
    exact ⟨t2, st.trans a1, b1⟩
def ax_r (n : Nat) (it rl : Nat → Int) (x1 x2 : Int) (w : aw_W) : Option aw_V × aw_W := (some (.inl (b2i (!(sok n x1 x2)))), if sok n x1 x2 then aw_up w 73 0 (a_str n it rl x1 x2) else w)
theorem ax_law (hl : l.stackTraces = false) (hok : aw_okw w) (hI1 : aw_I x1) (hI2 : aw_I x2) (hX : XL w n lw it) (hU : XU w rl) : Met l yL_striver ax_wl ax_rl (ax_Pc K [.inr (.inr 0), .inl x1, .inl x2, .inr (.inr 73)] w) (aw_Qc K (ax_r n it rl x1 x2 w)) 1 6 (aw_A K) := by
  refine ax_ofWH (cc := cL_striver) (maxL := 5) (ret := some .int) (hh := [(0, 10, 13, 13)]) (by decide) rfl ?_
  intro p e s m args below meth c s₁ B hml hv
  obtain ⟨⟨rfl, hP, hK, hSt, hKok, hb0⟩, hA⟩ := hv
  have hts := atoms_spec (ws := ax_wl) B.pre
  have ok : ∀ w ∈ aw_G, w.before _ s = true := fun w h => hts w (List.mem_cons_of_mem _ h)
  have htab := vx_table (x := yL_striver) B (hts _ List.mem_cons_self)
  have hx := B.exec
  have hb := B.bytes
  have hrt := B.returns
  have hlk := B.notSynchronized
  have hown : s.vm.findClass RL = some m.cls := findClass_of_methodNamed B.named
  have hL := lv_entry ([.ref (K.2.2.1 0), .int (Int32.ofInt x1), .int (Int32.ofInt x2), .ref (K.2.2.1 73)]) (n := 5) (Nat.le_of_ble_eq_true rfl)
  show W p l e ax_rl s m _ below meth c s.heap [] 0 0 _ (entryFrame m ([.ref (K.2.2.1 0), .int (Int32.ofInt x1), .int (Int32.ofInt x2), .ref (K.2.2.1 73)] : List Value).toArray 5)
  rw [lg_entry_eq]
  generalize (lg_sl ([.ref (K.2.2.1 0), .int (Int32.ofInt x1), .int (Int32.ofInt x2), .ref (K.2.2.1 73)]) ++ List.replicate (5 - (lg_sl ([.ref (K.2.2.1 0), .int (Int32.ofInt x1), .int (Int32.ofInt x2), .ref (K.2.2.1 73)])).length) Slot.unset).toArray = LS at hL ⊢
  have hL : lv_has LS 5 [(0, .ref (K.2.2.1 0)), (1, .int (Int32.ofInt x1)), (2, .int (Int32.ofInt x2)), (3, .ref (K.2.2.1 73))] := hL
  have C : az_Cx K RL cL_striver 5 p s m _ c := ⟨hx, hb, hml, hown, ok, hK, hSt, hKok, hb0⟩
  have hS : va_S (aw_A K) s.heap s.heap [] := va_S.rf
  refine lv_aload_n hx hb dL_striver_0 rfl (lv_at hL 3 rfl) ?_
  refine lv_iconst (v := Int32.ofInt 0) hx hb dL_striver_1 rfl ?_
  refine lv_aload_n hx hb dL_striver_2 rfl (lv_at hL 0 rfl) ?_
  refine lv_iload_n hx hb dL_striver_3 rfl (lv_at hL 1 rfl) ?_
  refine lv_iload_n hx hb dL_striver_4 rfl (lv_at hL 2 rfl) ?_
  have he : (aw_cz K w)[0]? = some (K.2.2.1 0, .inr (11, aw_fs K [4, 6, 10, 14, 20, 25, 26, 29, 37, 42, 44, 47, 50, 51, 0] (w 0))) := by rw [aw_cz_at (by decide), aw_clO rfl]
  obtain ⟨⟨c1, c2, c3, c4⟩, c5, c6, c7⟩ := cv_RL_7
  have cB : CallB ax_rl s _ RL 7 yX11_striver cX11_striver 3 (some .int) (aw_ws MX11_striver) ax_rm 1 6 2 := callB_of 2 ok (ac_goodw MX11_striver c1) rfl rfl rfl (ok _ c3) (ok _ c5) c2 ⟨by decide, by decide⟩
  have hrun := vx_runV (As := [.int (Int32.ofInt x1), .int (Int32.ofInt x2)]) (rest := [.int (Int32.ofInt 0), .ref (K.2.2.1 73)]) (b := K.2.2.1 0) (g := F0 m 5 LS [.int (Int32.ofInt x2), .int (Int32.ofInt x1), .ref (K.2.2.1 0), .int (Int32.ofInt 0), .ref (K.2.2.1 73)]) (H := s.heap) (locs := []) (cells := 0) (slots := 0) (e := e) (below := below) (meth := meth) (free := aw_A K) (Ts := aw_G) ⟨hx, hb, hml, hown, ok⟩ (ax_striver (K := K) hl hok hI1 hI2 hX hU) ⟨cB, ok _ c6, ok _ c7⟩ ⟨ax_blind _ w, va_recv hK hP (ci := 11) rfl he, fun U hU hW => ⟨az_pcU C hP hS hU hW [.inr (.inr 0), .inl x1, .inl x2], hA.go hW hU hS⟩⟩ rfl rfl hL.1 rfl (lv_room (Nat.le_of_ble_eq_true rfl)) dL_striver_5 ⟨by decide, by decide⟩
  refine ax_after hrun hS (fun hbad ce q9 H1 locs1 hP1 hS1 hce hcv hcl => ?_) (fun hgood H1 locs1 hP1 hS1 => ?_)
  · refine ax_catch (own := RL) (name := ax_E) (E := ax_E) hown ⟨0, 10, 13, 13⟩ [] (by rw [htab]; rfl) (by decide) (by decide) (ok _ cl_RL_13) (va_Nw.use rfl (hA.2 _ (by decide))) hce hcv hcl ?_
    refine lv_astore (lv' := [(4, .ref q9), (0, .ref (K.2.2.1 0)), (1, .int (Int32.ofInt x1)), (2, .int (Int32.ofInt x2)), (3, .ref (K.2.2.1 73))]) hx hb dL_striver_13 hL (by decide) rfl (fun LS' hL' => ?_)
    refine lv_iconst (v := Int32.ofInt 1) hx hb dL_striver_15 rfl ?_
    refine W.iret hx hb hrt (fun t ht _ => ?_) hS1.2.2 dL_striver_16 hlk
    unfold ax_r
    rw [hbad]
    exact ⟨rfl, by rw [ht]; exact hP1, hS1.F ht⟩
  · have hyI := ax_strI hok hX hU hgood
    refine lv_i2l (v := Int64.ofInt (a_str n it rl x1 x2)) hx hb dL_striver_8 (aw_wide hyI) ?_
    have he73 : (aw_cz K w)[73]? = some (K.2.2.1 73, .inl (K.2.1 3, 1, .inr (.inl (fun j => Int64.ofInt (w 73 j))))) := by rw [aw_cz_at (by decide), aw_clL rfl]
    refine va_last hx hb hK hP1 (aw_Dz hKok w) hS1 73 3 he73 rfl (aw_in aw_I0 (by decide) (by decide)) dL_striver_9 (fun H2 locs2 hP2 _ hS2 => ?_)
    rw [aw_clamp aw_I0, aw_cz_set (w' := aw_up w 73 0 (a_str n it rl x1 x2)) (by rw [aw_clL rfl, aw_updL]; rfl) (fun j h => aw_cl_ne h)] at hP2
    refine lv_goto (tgt := 17) hx hb dL_striver_10 (by decide) ?_
    refine lv_iconst (v := Int32.ofInt 0) hx hb dL_striver_17 rfl ?_
    refine W.iret hx hb hrt (fun t ht _ => ?_) hS2.2.2 dL_striver_18 hlk
    unfold ax_r
    rw [hgood]
    exact ⟨rfl, by rw [ht]; exact hP2, hS2.F ht⟩
theorem ax_r_ok (hok : aw_okw w) (hX : XL w n lw it) (hU : XU w rl) : aw_okr (ax_r n it rl x1 x2 w) := by
  refine ⟨fun v hv => ?_, ?_⟩
  · cases hv
    show aw_I _
    cases sok n x1 x2 <;> exact ⟨by decide, by decide⟩
  · show aw_okw (if sok n x1 x2 then aw_up w 73 0 (a_str n it rl x1 x2) else w)
    cases hb : sok n x1 x2 with
    | false => exact hok
    | true =>
      have h := ax_strI hok hX hU hb
      exact aw_okw_up hok (aw_IL h) (fun _ => h)
end AXL
