/-! ===== SecondHas.striver: it answers or throws; SecondHasLaw.striver: it catches ===== -/
def az_Cx (K : aw_K) (cls : String) (cc : ByteArray) (nL : Nat) (p : Program) (s : State) (m : MethodId) (args : Array Value) (c : Code) : Prop :=
  p.tables.exec = Jvm.exec ∧ c.code = cc ∧ c.maxLocals = nL ∧ s.vm.findClass cls = some m.cls ∧ (∀ w ∈ aw_G, w.before args s = true) ∧ va_K K.1 vwCl (aw_tys K) s ∧ aw_St K s ∧ aw_Kok K ∧ K.2.2.2 ≤ s.heap.size
section AZC
variable {p : Program} {l : Launch} {e : Env} {R : Room} {s : State} {m : MethodId} {args : Array Value} {below : List Frame} {meth : Method} {c : Code} {Q : State → Prop} {K : aw_K} {cls : String} {cc : ByteArray} {nL : Nat} {cells slots pc : Nat} {H : Heap} {locs : List Loc} {LS : Array Slot} {w : aw_W}
theorem az_after {st0 rest : List Value} {a : Array Value} {r1 : Option aw_V × aw_W}
    (hr : va_Run p l e R s m args below meth c H locs cells slots 0 0 (F0 m pc LS st0) rest (aw_Qc K r1 a) (aw_A K)) (hS : va_S (aw_A K) s.heap H locs)
    (kk : ∀ (H1 : Heap) (locs1 : List Loc), aw_Hp K r1.2 H1 → va_S (aw_A K) s.heap H1 locs1 → W p l e R s m args below meth c H1 locs1 cells slots Q (F0 m (pc + 3) LS ((r1.1.map (aw_cv K)).toList ++ rest))) : W p l e R s m args below meth c H locs cells slots Q (F0 m pc LS st0) := by
  intro T hT X
  obtain ⟨v, st₀, t, T', L, h0, X', hL, e1, e2, ⟨hv, hP, hz, hk⟩, stp⟩ := hr T hT X
  have hv' : v = r1.1.map (aw_cv K) := Outcome.returned.inj hv
  subst hv'
  rw [h0] at hz hk
  obtain ⟨t2, a1, b1⟩ := kk T'.heap (locs ++ L) (by rw [e1]; exact hP)
    ⟨Nat.le_trans hS.1 (by rw [e1]; exact hz), fun q h1 h2 => by rw [e1, hk q (Nat.lt_of_lt_of_le h1 hS.1) h2]; exact hS.2.1 q h1 h2, fun q hq => by
      rcases List.mem_append.mp hq with h | h
      · exact hS.2.2 q h
      · exact hL q h⟩ T' rfl X'
  exact ⟨t2, stp t2 a1, b1⟩
theorem az_pcU {U : State} (C : az_Cx K cls cc nL p s m args c) (hP : aw_Hp K w H) (hS : va_S (aw_A K) s.heap H locs) (hU : U.heap = H) (hW : s.WarmedH U.vm) (as : List aw_V) : aw_Pc K as w (as.map (aw_cv K)).toArray U := by
  obtain ⟨-, -, -, -, -, hK, hSt, hKok, hb0⟩ := C
  refine ⟨rfl, by rw [hU]; exact hP, va_K.moved hW.alike hK, hSt.go hW hU hS, hKok, ?_⟩
  rw [hU]
  exact Nat.le_trans hb0 hS.1
/-- a method of the class or of the reference is called, by its contract -/
theorem az_callV {idx n i ci N d : Nat} {M' : aw_M} {as : List aw_V} {rest stk : List Value} {ks : List Nat} {T : u_T} {rv : Option aw_V} {w1 : aw_W} (C : az_Cx K cls cc nL p s m args c) (hd : decode cc pc = .ok (.invokevirtual idx, 3)) (hc : aw_CV cls idx M' n) (hi : i < aw_N) (hy : aw_lay i = .inl (ci, ks)) (hcl : vwCl[ci]? = some (M'.1.cls, T, N)) (hlen : as.length = n) (hsz : LS.size = nL) (hstk : stk = (as.map (aw_cv K)).reverse ++ .ref (K.2.2.1 i) :: rest) (hroom : (rest.map fun v => v.category).sum ≤ 8) (hfr : d + 2 ≤ R.frames) (hlo : 60 + 64 * (d + 1) ≤ R.locals) (hcs : cells ≤ R.cells) (hss : slots ≤ R.slots) (hok : aw_okw w) (hoa : ∀ v ∈ as, aw_ok v)
    (hM : aw_Met l K M' d (.inr (.inr i) :: as) w (rv, w1)) (hP : aw_Hp K w H) (hS : va_S (aw_A K) s.heap H locs)
    (kk : aw_okr (rv, w1) → ∀ (H1 : Heap) (locs1 : List Loc), aw_Hp K w1 H1 → va_S (aw_A K) s.heap H1 locs1 → W p l e R s m args below meth c H1 locs1 cells slots Q (F0 m (pc + 3) LS ((rv.map (aw_cv K)).toList ++ rest))) : W p l e R s m args below meth c H locs cells slots Q (F0 m pc LS stk) := by
  subst hstk
  obtain ⟨hr1, hMet⟩ := hM hok (aw_ok1 hoa trivial)
  obtain ⟨hx, hb, hml, hown, hts, hK, hSt, hKok, hb0⟩ := id C
  obtain ⟨⟨c1, c2, c3, c4⟩, c5, c6, c7⟩ := hc
  have he : (aw_cz K w)[i]? = some (K.2.2.1 i, .inr (ci, aw_fs K ks (w i))) := by rw [aw_cz_at hi, aw_clO hy]
  have hrooms : (aw_rm d).frames + 1 ≤ R.frames ∧ 8 + (M'.2.2.1 + 11) + (aw_rm d).locals ≤ R.locals := by
    show d + 1 + 1 ≤ R.frames ∧ 8 + (M'.2.2.1 + 11) + 64 * (d + 1) ≤ R.locals
    omega
  have cB : CallB R s args cls idx M'.1 M'.2.1 M'.2.2.1 M'.2.2.2 (aw_ws M') (aw_rm d) 0 0 n := callB_of n hts (ac_goodw M' c1) rfl rfl rfl (hts _ c3) (hts _ c5) c2 hrooms
  have hrun := va_runV (As := as.map (aw_cv K)) (rest := rest) (b := K.2.2.1 i) (g := F0 m pc LS ((as.map (aw_cv K)).reverse ++ .ref (K.2.2.1 i) :: rest)) (H := H) (locs := locs) (cells := cells) (slots := slots) (e := e) (below := below) (meth := meth) (free := aw_A K) (Ts := aw_G) ⟨hx, hb, hml, hown, hts⟩ hMet ⟨cB, hts _ c6, hts _ c7⟩ ⟨aw_blind _ w, va_recv hK hP hcl he, fun U hU hW => az_pcU C hP hS hU hW (.inr (.inr i) :: as)⟩ rfl (by rw [List.length_map]; exact hlen) hsz rfl (lv_room hroom) hd ⟨hcs, hss⟩
  exact az_after hrun hS (fun H1 locs1 hP1 hS1 => kk hr1 H1 locs1 hP1 hS1)
end AZC
def ax_X (K : aw_K) (U : State) : Prop := (vx_Zq Bundle.tN "UNASSIGNED_STACK" Bundle.steD (aw_A K) U U.heap ∧ vx_Zq Bundle.tN "SUPPRESSED_SENTINEL" Bundle.listD (aw_A K) U U.heap) ∧ ∀ w ∈ ax_B, va_Nw w U
theorem ax_X.go {K : aw_K} {s U : State} {H : Heap} {locs : List Loc} (h : ax_X K s) (hW : s.WarmedH U.vm) (hU : U.heap = H) (hS : va_S (aw_A K) s.heap H locs) : ax_X K U := by
  subst hU
  have hq : ∀ a : Nat, a < s.heap.size → ¬ (aw_A K) a → U.heap[a]? = s.heap[a]? := hS.2.1
  obtain ⟨⟨h1, h2⟩, h3⟩ := h
  refine ⟨⟨(h1.moved hW.alike).kept hq, (h2.moved hW.alike).kept hq⟩, fun w hw => ?_⟩
  have z := h3 w hw
  unfold ax_B at hw
  rcases List.mem_cons.mp hw with rfl | hw
  · exact va_Nw.warmD hW z
  rcases List.mem_cons.mp hw with rfl | hw
  · exact va_Nw.warmD hW z
  rcases List.mem_cons.mp hw with rfl | hw
  · exact va_Nw.warmD hW z
  rcases List.mem_cons.mp hw with rfl | hw
  · exact va_Nw.warmC hW z
  · cases hw
theorem ax_X.same {K : aw_K} {u U : State} (hv : U.vm = u.vm) (hh : U.heap = u.heap) (h : ax_X K u) : ax_X K U := by
  have hal : u.vm.Alike U.vm := by rw [hv]; exact Vm.Alike.refl _
  obtain ⟨⟨h1, h2⟩, h3⟩ := h
  exact ⟨⟨by rw [hh]; exact h1.moved hal, by rw [hh]; exact h2.moved hal⟩, fun w hw => va_Nw.same (ax_Bot w hw) hv.symm (h3 w hw)⟩
def ax_Pc (K : aw_K) (as : List aw_V) (w : aw_W) : Array Value → State → Prop := fun v U => aw_Pc K as w v U ∧ ax_X K U
theorem ax_blind {K : aw_K} (as : List aw_V) (w : aw_W) : FrameBlind (ax_Pc K as w) := fun a U g mk q => ⟨aw_blind as w a U g mk q.1, ax_X.same (u := U) (U := U.calling g mk a) rfl rfl q.2⟩
def ax_rm : Room := { frames := 8, cells := 1, slots := 6, locals := 512 }
def ax_rl : Room := { frames := 10, cells := 1, slots := 6, locals := 640 }
def ax_Qs (K : aw_K) (b : Bool) (y : Int) (w : aw_W) : Array Value → State → Outcome → State → Prop := fun _ st oc t => b = true ∧ oc = .returned (some (.int (Int32.ofInt y))) ∧ aw_Hp K w t.heap ∧ va_F (aw_A K) st t
def ax_Xs (K : aw_K) (b : Bool) (w : aw_W) : String → State → State → Prop := fun E st t => b = false ∧ E = ax_E ∧ aw_Hp K w t.heap ∧ va_F (aw_A K) st t
section AXS
variable {p : Program} {l : Launch} {e : Env} {R R' : Room} {s : State} {m : MethodId} {args : Array Value} {below : List Frame} {meth : Method} {c : Code} {Q : State → Prop} {K : aw_K} {cells slots pc : Nat} {H : Heap} {locs : List Loc} {LS : Array Slot} {w : aw_W} {n : Nat} {lw it rl : Nat → Int} {x1 x2 : Int}
theorem ax_W {g : JFrame} (h1 : R'.frames ≤ R.frames) (h2 : R'.locals ≤ R.locals) (h3 : R'.cells ≤ R.cells) (h4 : R'.slots ≤ R.slots) (k : W p l e R' s m args below meth c H locs cells slots Q g) : W p l e R s m args below meth c H locs cells slots Q g := by
  intro T hT X
  refine k T hT ⟨X.admits, X.cas, X.clock, X.frames, ?_, X.hears, X.method, X.code, X.here, X.tail, X.warmed, X.limits, X.bytes, X.same⟩
  have h := X.room
  simp only [State.hasRoom, Bool.and_eq_true, decide_eq_true_eq] at h ⊢
  obtain ⟨⟨⟨⟨a1, a2, a3, a4, a5, a6⟩, a7⟩, a8⟩, a9⟩ := h
  exact ⟨⟨⟨⟨by omega, by omega, by omega, by omega, by omega, a6⟩, by omega⟩, by omega⟩, a9⟩
theorem ax_up {g : JFrame} {Qc Qc' : Array Value → State → Outcome → State → Prop} {XC : String → State → State → Prop} {free : Addr → Prop} (hq : ∀ o t, Qc args s o t → Qc' args s o t) (k : W p l e R s m args below meth c H locs cells slots (MQ below Qc args s 0 0 free) g) : W p l e R s m args below meth c H locs cells slots (vx_MQ below Qc' XC args s 1 6 free) g := by
  intro T hT X
  obtain ⟨t, a1, o, b1, b2, b3, L, b4, b5⟩ := k T hT X
  obtain ⟨c1, c2, c3⟩ := b4
  exact ⟨t, a1, o, b1, b2, Or.inl ⟨hq _ _ b3, L, ⟨c1, c2, c3.mono (Nat.zero_le _) (Nat.zero_le _)⟩, b5⟩⟩
set_option maxHeartbeats 1000000 in
theorem ax_sret {s1 : Nat} (hX : XL w n lw it) (hU : XU w rl) (h1 : s1 < n) (h2 : 0 ≤ x2) (h3 : x2 ≤ 4) : aw_AW l K MX11_striver 3 0 [(0, .inr (.inr 0)), (1, .inl (s1 : Int)), (2, .inl x2)] [] w (some (.inl (a_str n it rl s1 x2)), w) := by
  have hn := hX.2.1
  have hh : x_Land_holds 0 (s1 : Int) w = some (1, w) := by
    have a1 : (0 : Int) ≤ s1 := by omega
    have a2 : (s1 : Int) < w 3 4 := by rw [hX.1]; omega
    rw [xl_holds, decide_eq_true a1, decide_eq_true a2]
    rfl
  refine aw_aload_n (pc := 0) (q := 0) dX11_striver_0 rfl ?_
  refine aw_getf (pc := 1) (v := .inr (.inr 3)) dX11_striver_1 fl_RX11_19 (by decide) rfl rfl rfl ?_
  refine aw_iload_n (pc := 4) (q := 1) dX11_striver_4 rfl ?_
  refine aw_callV (pc := 5) (as := [.inl (s1 : Int)]) (st := []) (st' := [.inl 1]) dX11_striver_5 cv_RX11_137 (by decide) rfl rfl rfl rfl (Nat.le_of_ble_eq_true rfl) (w_x_Land_holds 0 2 (by omega) _ _ _ _ hh) rfl ?_
  refine aw_if_eq (pc := 8) (tgt := 20) dX11_striver_8 (by decide) (fun hc => absurd hc (by decide)) (fun hc => ?_)
  refine aw_iload_n (pc := 11) (q := 2) dX11_striver_11 rfl ?_
  refine aw_if_lt (pc := 12) (tgt := 20) dX11_striver_12 (by decide) (fun hc => absurd hc (by omega)) (fun hc => ?_)
  refine aw_iload_n (pc := 15) (q := 2) dX11_striver_15 rfl ?_
  refine aw_iconst (pc := 16) dX11_striver_16 ⟨by decide, by decide⟩ ?_
  refine aw_icmp_le (pc := 17) (tgt := 28) dX11_striver_17 (by decide) (fun hc => ?_) (fun hc => absurd h3 hc)
  refine aw_iload_n (pc := 28) (q := 2) dX11_striver_28 rfl ?_
  refine aw_iconst (pc := 29) dX11_striver_29 ⟨by decide, by decide⟩ ?_
  refine aw_icmp_ne (pc := 30) (tgt := 45) dX11_striver_30 (by decide) (fun hc => ?_) (fun hc => ?_)
  · have e1 : a_str n it rl s1 x2 = it (4 * s1 + x2.toNat) := by
      unfold a_str
      rw [if_neg hc, Int.toNat_natCast]
    rw [e1]
    obtain ⟨k, rfl⟩ : ∃ k : Nat, x2 = k := ⟨x2.toNat, by omega⟩
    rw [Int.toNat_natCast]
    have hi : x_Land_item 0 (s1 : Int) (k : Int) w = some (it (4 * s1 + k), w) := by
      rw [xl_item hX.1 hn h1 (by omega), hX.2.2.2.2.1 _ (by omega)]
    refine aw_aload_n (pc := 45) (q := 0) dX11_striver_45 rfl ?_
    refine aw_getf (pc := 46) (v := .inr (.inr 3)) dX11_striver_46 fl_RX11_19 (by decide) rfl rfl rfl ?_
    refine aw_iload_n (pc := 49) (q := 1) dX11_striver_49 rfl ?_
    refine aw_iload_n (pc := 50) (q := 2) dX11_striver_50 rfl ?_
    refine aw_callV (pc := 51) (as := [.inl (s1 : Int), .inl (k : Int)]) (st := []) (st' := [.inl (it (4 * s1 + k))]) dX11_striver_51 cv_RX11_147 (by decide) rfl rfl rfl rfl (Nat.le_of_ble_eq_true rfl) (w_x_Land_item 0 2 (by omega) _ _ _ _ _ hi) rfl ?_
    exact aw_iret (pc := 54) rfl dX11_striver_54
  · have e1 : a_str n it rl s1 x2 = rl s1 := by
      unfold a_str
      rw [if_pos hc, Int.toNat_natCast]
    rw [e1]
    refine aw_aload_n (pc := 33) (q := 0) dX11_striver_33 rfl ?_
    refine aw_getf (pc := 34) (v := .inr (.inr 3)) dX11_striver_34 fl_RX11_19 (by decide) rfl rfl rfl ?_
    refine aw_getf (pc := 37) (v := .inr (.inr 6)) dX11_striver_37 fl_RX11_144 (by decide) rfl rfl rfl ?_
    refine aw_iload_n (pc := 40) (q := 1) dX11_striver_40 rfl ?_
    refine aw_ialdv (pc := 41) (v := rl s1) dX11_striver_41 rfl (by omega) (by omega) (by rw [Int.toNat_natCast]; exact hU s1 (by omega)) ?_
    refine aw_goto (pc := 42) (tgt := 54) dX11_striver_42 (by decide) ?_
    exact aw_iret (pc := 54) rfl dX11_striver_54
theorem ax_t20 {Qc : Array Value → State → Outcome → State → Prop} (hl : l.stackTraces = false) (C : aw_Cx K MX11_striver p s m args meth c) (hA : ax_X K s) (hP : aw_Hp K w H) (hS : va_S (aw_A K) s.heap H locs) (hsz : LS.size = 3) (hn : ∀ x ∈ c.exceptionTable.toList, False) : W p l e ax_rm s m args below meth c H locs 0 0 (vx_MQ below Qc (ax_Xs K false w) args s 1 6 (aw_A K)) (F0 m 20 LS []) := by
  obtain ⟨hx, hb, hml, hrt, hlk, hown, hts, hK, hSt, hKok, hbs⟩ := id C
  have ok : ∀ w ∈ aw_G, w.before args s = true := fun w h => hts w (aw_G_in _ w h)
  have hat : ∀ w ∈ vx_at0 RX11 143 ax_E ["java/lang/RuntimeException", "java/lang/Exception"], w.before args s = true := by
    refine vx_hat (B := ax_B) (fun w hw => ?_) ax_rest (fun w hw => va_Nw.use (ax_Bot w hw) (hA.2 w hw))
    obtain ⟨q1, q2⟩ := List.mem_filter.mp hw
    exact ok w (aw_inG (ax_in w (List.mem_cons_of_mem _ (List.mem_cons_of_mem _ q1))) q2)
  refine vx_throw0 (pc := 20) (names := ["java/lang/RuntimeException", "java/lang/Exception"]) (A := aw_A K) hx hb hl hown (by decide) (by decide) (ok _ ax_g1.1) (ok _ ax_g1.2) hat ax_ot hA.1.1 hA.1.2 hS (hsz.trans hml.symm) dX11_striver_20 dX11_striver_23 dX11_striver_24 dX11_striver_27 (fun x hx => (hn x hx).elim) (by decide) (by decide) (by decide) (by decide) hlk (fun t ht hz hk => ?_) hS.2.2 (by decide) (by decide)
  exact ⟨rfl, rfl, hP.kept (fun k x hx => hk x.1 ((hP k x hx).lt)), Nat.le_trans hS.1 hz, fun q g1 g2 => (hk q (Nat.lt_of_lt_of_le g1 hS.1)).trans (hS.2.1 q g1 g2)⟩
theorem ax_sthr {Qc : Array Value → State → Outcome → State → Prop} (hl : l.stackTraces = false) (C : aw_Cx K MX11_striver p s m args meth c) (hA : ax_X K s) (hok : aw_okw w) (hI1 : aw_I x1) (hI2 : aw_I x2) (hX : XL w n lw it) (hbad : sok n x1 x2 = false) (hP : aw_Hp K w H) (hS : va_S (aw_A K) s.heap H locs) (hL : lv_has LS 3 [(0, .ref (K.2.2.1 0)), (1, .int (Int32.ofInt x1)), (2, .int (Int32.ofInt x2))]) (hn : ∀ x ∈ c.exceptionTable.toList, False) : W p l e ax_rm s m args below meth c H locs 0 0 (vx_MQ below Qc (ax_Xs K false w) args s 1 6 (aw_A K)) (F0 m 0 LS []) := by
  obtain ⟨hx, hb, hml, hrt, hlk, hown, hts, hK, hSt, hKok, hbs⟩ := id C
  have ok : ∀ w ∈ aw_G, w.before args s = true := fun w h => hts w (aw_G_in _ w h)
  have hh : x_Land_holds 0 x1 w = some (b2i (decide (0 ≤ x1) && decide (x1 < w 3 4)), w) := xl_holds
  refine lv_aload_n hx hb dX11_striver_0 rfl (lv_at hL 0 rfl) ?_
  have he : (aw_cz K w)[0]? = some (K.2.2.1 0, .inr (11, aw_fs K [4, 6, 10, 14, 20, 25, 26, 29, 37, 42, 44, 47, 50, 51, 0] (w 0))) := by rw [aw_cz_at (by decide), aw_clO rfl]
  obtain ⟨Cn, T, N, f1, f2, f3, f4⟩ := fl_RX11_19
  refine va_get hx hb hts (fun w h => List.mem_cons_of_mem _ (f3 w h)) hown hK hP 0 he f1 1 f2 (hts _ (List.mem_cons_of_mem _ f4)) (fun x h => h) (aw_fs_at (kd := 6) rfl (w 0)) dX11_striver_1 ?_
  refine lv_iload_n hx hb dX11_striver_4 rfl (lv_at hL 1 rfl) ?_
  refine az_callV (d := 2) (i := 3) (as := [.inl x1]) (rest := []) ⟨hx, hb, hml, hown, ok, hK, hSt, hKok, hbs⟩ dX11_striver_5 cv_RX11_137 (by decide) rfl rfl rfl hL.1 rfl (by decide) (by decide) (by decide) (by decide) (by decide) hok (fun v hv => by rcases List.mem_cons.mp hv with rfl | hv; exact hI1; cases hv) (w_x_Land_holds 0 2 (by omega) _ _ _ _ hh) hP hS (fun hr H1 locs1 hP1 hS1 => ?_)
  have hbI : aw_I (b2i (decide (0 ≤ x1) && decide (x1 < w 3 4))) := hr.1 _ rfl
  refine lv_if_eq (tgt := 20) hx hb dX11_striver_8 (by decide) (fun z => ax_t20 hl C hA hP1 hS1 hL.1 hn) (fun z => ?_)
  refine lv_iload_n hx hb dX11_striver_11 rfl (lv_at hL 2 rfl) ?_
  refine lv_if_lt (tgt := 20) hx hb dX11_striver_12 (by decide) (fun z => ax_t20 hl C hA hP1 hS1 hL.1 hn) (fun z2 => ?_)
  refine lv_iload_n hx hb dX11_striver_15 rfl (lv_at hL 2 rfl) ?_
  refine lv_iconst (v := Int32.ofInt 4) hx hb dX11_striver_16 rfl ?_
  refine lv_icmp_le (tgt := 28) hx hb dX11_striver_17 (by decide) (fun z3 => ?_) (fun z => ax_t20 hl C hA hP1 hS1 hL.1 hn)
  exfalso
  have q1 : ¬ b2i (decide (0 ≤ x1) && decide (x1 < w 3 4)) = 0 := fun y => z ((aw_eq hbI aw_I0).mpr y)
  have q2 : ¬ x2 < 0 := fun y => z2 ((aw_lt hI2 aw_I0).mpr y)
  have q3 : x2 ≤ 4 := (aw_le hI2 (y := 4) ⟨by decide, by decide⟩).mp z3
  have q4 : 0 ≤ x1 ∧ x1 < w 3 4 := by
    by_cases a : 0 ≤ x1
    · by_cases b : x1 < w 3 4
      · exact ⟨a, b⟩
      · exact absurd (by rw [decide_eq_false b, Bool.and_false]; rfl) q1
    · exact absurd (by rw [decide_eq_false a, Bool.false_and]; rfl) q1
  have q5 : ¬ (0 ≤ x1 ∧ x1 < (n : Int) ∧ 0 ≤ x2 ∧ x2 ≤ 4) := of_decide_eq_false hbad
  rw [hX.1] at q4
  omega
/-- SecondHas.striver -/
theorem ax_striver (hl : l.stackTraces = false) (hok : aw_okw w) (hI1 : aw_I x1) (hI2 : aw_I x2) (hX : XL w n lw it) (hU : XU w rl) : vx_Met l yX11_striver (aw_ws MX11_striver) ax_rm (ax_Pc K [.inr (.inr 0), .inl x1, .inl x2] w) (ax_Qs K (sok n x1 x2) (a_str n it rl x1 x2) w) (ax_Xs K (sok n x1 x2) w) 1 6 (aw_A K) := by
  refine vx_ofW (cc := cX11_striver) (maxL := 3) (ret := some .int) (by decide) rfl ?_
  intro p e s m args below meth c s₁ B hml hn hv
  obtain ⟨⟨rfl, hP, hK, hSt, hKok, hb0⟩, hA⟩ := hv
  have hL := lv_entry ([.ref (K.2.2.1 0), .int (Int32.ofInt x1), .int (Int32.ofInt x2)]) (n := 3) (Nat.le_of_ble_eq_true rfl)
  have hC : aw_Cx K MX11_striver p s m (([.inr (.inr 0), .inl x1, .inl x2] : List aw_V).map (aw_cv K)).toArray meth c := ⟨B.exec, B.bytes, hml, B.returns, B.notSynchronized, findClass_of_methodNamed B.named, atoms_spec (ws := aw_ws MX11_striver) B.pre, hK, hSt, hKok, hb0⟩
  show W p l e ax_rm s m _ below meth c s.heap [] 0 0 _ (entryFrame m ([.ref (K.2.2.1 0), .int (Int32.ofInt x1), .int (Int32.ofInt x2)] : List Value).toArray 3)
  rw [lg_entry_eq]
  generalize (lg_sl ([.ref (K.2.2.1 0), .int (Int32.ofInt x1), .int (Int32.ofInt x2)]) ++ List.replicate (3 - (lg_sl ([.ref (K.2.2.1 0), .int (Int32.ofInt x1), .int (Int32.ofInt x2)])).length) Slot.unset).toArray = LS at hL ⊢
  have hL : lv_has LS 3 [(0, .ref (K.2.2.1 0)), (1, .int (Int32.ofInt x1)), (2, .int (Int32.ofInt x2))] := hL
  cases hb : sok n x1 x2 with
  | false => exact ax_sthr hl hC hA hok hI1 hI2 hX hb hP va_S.rf hL hn
  | true =>
    have hs : 0 ≤ x1 ∧ x1 < (n : Int) ∧ 0 ≤ x2 ∧ x2 ≤ 4 := of_decide_eq_true hb
    obtain ⟨s1, rfl⟩ : ∃ s1 : Nat, x1 = s1 := ⟨x1.toNat, by omega⟩
    obtain ⟨hr, k⟩ := ax_sret (l := l) (K := K) hX hU (s1 := s1) (x2 := x2) (by omega) hs.2.2.1 hs.2.2.2 hok (fun q hq => by rcases List.mem_cons.mp hq with rfl | hq; exact trivial; rcases List.mem_cons.mp hq with rfl | hq; exact hI1; rcases List.mem_cons.mp hq with rfl | hq; exact hI2; cases hq) (fun v hv => by cases hv)
    refine ax_up (Qc := aw_Qc K (some (.inl (a_str n it rl s1 x2)), w)) (fun o t h => ⟨rfl, h.1, h.2.1, h.2.2⟩) ?_
    exact ax_W (R' := aw_rm 3) (by decide) (by decide) (by decide) (by decide) (k p e s m _ below meth c s.heap [] LS hC hP va_S.rf hL)
theorem ax_strI (hok : aw_okw w) (hX : XL w n lw it) (hU : XU w rl) (hb : sok n x1 x2 = true) : aw_I (a_str n it rl x1 x2) := by
  have hs : 0 ≤ x1 ∧ x1 < (n : Int) ∧ 0 ≤ x2 ∧ x2 ≤ 4 := of_decide_eq_true hb
  have hn := hX.2.1
  unfold a_str
  split
  · rw [← hU _ (by omega)]
    exact (hok 6 _).2 rfl
  · rw [← hX.2.2.2.2.1 _ (by omega)]
    exact (hok 4 _).2 rfl
end AXS
