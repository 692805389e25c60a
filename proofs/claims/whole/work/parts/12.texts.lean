/-! ===== the abstract walk: the four texts of the reference: cells 220 + k, their bytes 230 + k ===== -/
def aw_txt (k : Nat) : List Int := (aw_byt.getD k []).map Int32.toInt
def aw_chr (x : Int) : Int := ((Int32.ofInt x).toUInt32 % 65536).toInt32.toInt
section AWT
variable {l : Launch} {K : aw_K} {M : aw_M} {d pc : Nat} {ls ls' : aw_Ls} {st : List aw_V} {w : aw_W} {r : Option aw_V × aw_W}
theorem aw_sval {idx k : Nat} (hd : decode M.2.1 pc = .ok (.getfield idx, 3)) (hk : k < 4) (hf : Cond.fieldLink M.1.cls idx "java/lang/String" "value" "[B" ∈ aw_G) (kk : aw_AW l K M d (pc + 3) ls (.inr (.inr (230 + k)) :: st) w r) : aw_AW l K M d pc ls (.inr (.inr (220 + k)) :: st) w r :=
  aw_step kk (fun h => aw_ok1 (aw_t1 h) trivial) (fun p e s m args below meth c H locs LS Q _ C hP hS hL kk => by
    obtain ⟨hx, hb, -, -, -, hown, hts, -, hSt, -⟩ := id C
    exact vk_getf hx hb (hSt.2.1.1.1 k hk).2.2.1 hS hown (hts _ (List.mem_cons_of_mem _ hf)) (fun x h => h) hd kk)
theorem aw_scod {idx k : Nat} (hd : decode M.2.1 pc = .ok (.getfield idx, 3)) (hk : k < 4) (hf : Cond.fieldLink M.1.cls idx "java/lang/String" "coder" "B" ∈ aw_G) (kk : aw_AW l K M d (pc + 3) ls (.inl 0 :: st) w r) : aw_AW l K M d pc ls (.inr (.inr (220 + k)) :: st) w r :=
  aw_step kk (fun h => aw_ok1 (aw_t1 h) aw_I0) (fun p e s m args below meth c H locs LS Q _ C hP hS hL kk => by
    obtain ⟨hx, hb, -, -, -, hown, hts, -, hSt, -⟩ := id C
    exact vk_getf hx hb (hSt.2.1.1.1 k hk).2.1 hS hown (hts _ (List.mem_cons_of_mem _ hf)) (fun x h => h) hd kk)
theorem aw_scom {idx : Nat} (hd : decode M.2.1 pc = .ok (.getstatic idx, 3)) (hf : Cond.fieldLink M.1.cls idx "java/lang/String" "COMPACT_STRINGS" "Z" ∈ aw_G) (kk : aw_AW l K M d (pc + 3) ls (.inl 1 :: st) w r) : aw_AW l K M d pc ls st w r :=
  aw_step kk (fun h => aw_ok1 h (show aw_I 1 from ⟨by decide, by decide⟩)) (fun p e s m args below meth c H locs LS Q _ C hP hS hL kk => by
    obtain ⟨hx, hb, -, -, -, hown, hts, -, hSt, -⟩ := id C
    exact va_gets hx hb hSt.2.1.2.1 hS hown (hts _ (List.mem_cons_of_mem _ hf)) (fun x h => h) hd kk)
theorem aw_stlen {k : Nat} {n : Int} (hd : decode M.2.1 pc = .ok (.arraylength, 1)) (hk : k < 4) (hn : (aw_lens.getD k 0 : Int) = n) (hI : aw_I n) (kk : aw_AW l K M d (pc + 1) ls (.inl n :: st) w r) : aw_AW l K M d pc ls (.inr (.inr (230 + k)) :: st) w r :=
  aw_step kk (fun h => aw_ok1 (aw_t1 h) hI) (fun p e s m args below meth c H locs LS Q ho C hP hS hL kk => by
    obtain ⟨hx, hb, -, -, -, hown, hts, -, hSt, -⟩ := id C
    subst hn
    exact va_tlen hx hb (hSt.2.1.1.1 k hk).2.2.2 hS (v := Int32.ofInt (aw_lens.getD k 0 : Int)) rfl hd kk)
theorem aw_txt_at (k j : Nat) : Int32.ofInt ((aw_txt k).getD j 0) = (aw_byt.getD k []).getD j 0 := by
  unfold aw_txt
  generalize aw_byt.getD k [] = q
  rw [List.getD_eq_getElem?_getD, List.getD_eq_getElem?_getD, List.getElem?_map]
  cases q[j]? with
  | none => rfl
  | some x => exact Int32.ofInt_toInt x
theorem aw_stald {k : Nat} {x v : Int} (hd : decode M.2.1 pc = .ok (.baload, 1)) (hk : k < 4) (h0 : 0 ≤ x) (h1 : x < (aw_lens.getD k 0 : Int)) (hv : (aw_txt k).getD x.toNat 0 = v) (hI : aw_I v) (kk : aw_AW l K M d (pc + 1) ls (.inl v :: st) w r) : aw_AW l K M d pc ls (.inl x :: .inr (.inr (230 + k)) :: st) w r :=
  aw_step kk (fun h => aw_ok1 (aw_t1 (aw_t1 h)) hI) (fun p e s m args below meth c H locs LS Q ho C hP hS hL kk => by
    obtain ⟨hx, hb, -, -, -, hown, hts, -, hSt, -⟩ := id C
    have hxI : aw_I x := aw_h1 ho
    exact va_tb hx hb (hSt.2.1.1.1 k hk).2.2.2 hS (aw_in hxI h0 h1) (v := .int (Int32.ofInt v)) (by rw [aw_clamp hxI, ← hv, aw_txt_at]) hd kk)
theorem aw_i2c {x : Int} (hd : decode M.2.1 pc = .ok (.i2c, 1)) (k : aw_AW l K M d (pc + 1) ls (.inl (aw_chr x) :: st) w r) : aw_AW l K M d pc ls (.inl x :: st) w r :=
  aw_step k (fun h => aw_ok1 (aw_t1 h) (aw_Ii _)) (fun p e s m args below meth c H locs LS Q _ C _ _ _ k => lv_i2c (v := Int32.ofInt (aw_chr x)) C.1 C.2.1 hd (aw_bck _).symm k)
theorem aw_bret {x : Int} (hr : M.2.2.2 = some .byte) (hx : -128 ≤ x ∧ x < 128) (hd : decode M.2.1 pc = .ok (.ireturn, 1)) : aw_AW l K M d pc ls [.inl x] w (some (.inl x), w) := by
  intro hw hl ho
  refine ⟨⟨fun v hv => by cases hv; exact aw_h1 ho, hw⟩, fun p e s m args below meth c H locs LS C hP hS hL => ?_⟩
  have hlk := C.2.2.2.2.1
  refine W.zret C.1 C.2.1 (C.2.2.2.1.trans hr) ?_ (fun t ht _ => ⟨rfl, by rw [ht]; exact hP, hS.F ht⟩) hS.2.2 hd hlk
  have h := aw_bnar hx.1 hx.2
  rw [vp_nar_byte] at h
  show Value.int (Int32.ofInt x).toInt8.toInt32 = _
  rw [h]
theorem aw_cret {x : Int} (hr : M.2.2.2 = some .char) (hx : 0 ≤ x ∧ x < 65536) (hd : decode M.2.1 pc = .ok (.ireturn, 1)) : aw_AW l K M d pc ls [.inl x] w (some (.inl x), w) := by
  intro hw hl ho
  refine ⟨⟨fun v hv => by cases hv; exact aw_h1 ho, hw⟩, fun p e s m args below meth c H locs LS C hP hS hL => ?_⟩
  have hlk := C.2.2.2.2.1
  refine W.zret C.1 C.2.1 (C.2.2.2.1.trans hr) ?_ (fun t ht _ => ⟨rfl, by rw [ht]; exact hP, hS.F ht⟩) hS.2.2 hd hlk
  have e : Int32.ofInt x = nI x.toNat := by
    unfold nI
    have h2 : ((x.toNat : Nat) : Int) = x := by omega
    show _ = Int32.ofInt (x.toNat : Int)
    rw [h2]
  rw [e]
  exact (pk_charN (by omega)).1
/-- a call of a text's own method -/
theorem aw_callT {idx n k : Nat} {M' : aw_M} {as stk st' : List aw_V} {rv : Option aw_V} {w1 : aw_W} (hd : decode M.2.1 pc = .ok (.invokevirtual idx, 3)) (hc : aw_CV M.1.cls idx M' n) (hk : k < 4) (hcl : M'.1.cls = "java/lang/String") (hlen : as.length = n) (hstk : stk = as.reverse ++ .inr (.inr (220 + k)) :: st) (hroom : (st.map aw_cat).sum ≤ 8)
    (hM : aw_Met l K M' d (.inr (.inr (220 + k)) :: as) w (rv, w1)) (hout : st' = rv.toList ++ st) (kk : aw_AW l K M (d + 1) (pc + 3) ls st' w1 r) : aw_AW l K M (d + 1) pc ls stk w r := by
  intro hw hl ho
  subst hstk
  subst hout
  have hoas : ∀ v ∈ as, aw_ok v := fun v hv => ho v (List.mem_append_left _ (List.mem_reverse.mpr hv))
  have host : ∀ v ∈ st, aw_ok v := fun v hv => ho v (List.mem_append_right _ (List.mem_cons_of_mem _ hv))
  obtain ⟨hr1, hMet⟩ := hM hw (aw_ok1 hoas trivial)
  obtain ⟨hr, kk⟩ := kk hr1.2 hl (fun v hv => by
    rcases List.mem_append.mp hv with h | h
    · exact hr1.1 v (by simpa using h)
    · exact host v h)
  refine ⟨hr, fun p e s m args below meth c H locs LS Cx hP hS hL => ?_⟩
  obtain ⟨hx, hb, hml, -, -, hown, hts, hK, hSt, hKok, hb0⟩ := id Cx
  obtain ⟨⟨c1, c2, c3, c4⟩, c5, c6, c7⟩ := hc
  have ok : ∀ w ∈ aw_G, w.before args s = true := fun w h => hts w (aw_G_in M w h)
  have cB : CallB (aw_rm (d + 1)) s args M.1.cls idx M'.1 M'.2.1 M'.2.2.1 M'.2.2.2 (aw_ws M') (aw_rm d) 0 0 n := callB_of n hts (aw_good M' (aw_G_in M) c1) rfl rfl rfl (ok _ c3) (ok _ c5) c2 (aw_roomy c4)
  have hrun := va_runV (As := as.map (aw_cv K)) (rest := st.map (aw_cv K)) (b := K.2.2.1 (220 + k)) (g := F0 m pc LS ((as.reverse ++ .inr (.inr (220 + k)) :: st).map (aw_cv K))) (H := H) (locs := locs) (cells := 0) (slots := 0) (e := e) (below := below) (meth := meth) (free := aw_A K) ⟨hx, hb, hml, hown, hts⟩ hMet ⟨cB, ok _ c6, ok _ c7⟩ ⟨aw_blind _ w, by rw [hcl]; exact vk_recv (i := k) hSt.2.1.1 hk hS, fun U hU hW => aw_pcU Cx hP hS hU hW (.inr (.inr (220 + k)) :: as)⟩ rfl (by rw [List.length_map]; exact hlen) hL.1 (by simp [aw_cv]) (lv_room (by rw [aw_sum]; exact hroom)) hd ⟨Nat.zero_le _, Nat.zero_le _⟩
  refine aw_after hrun hS (fun H1 locs1 hP1 hS1 => ?_)
  have k2 := kk p e s m args below meth c H1 locs1 LS Cx hP1 hS1 hL
  have e2 : List.map (aw_cv K) (rv.toList ++ st) = (Option.map (aw_cv K) rv).toList ++ List.map (aw_cv K) st := by cases rv <;> simp
  rw [e2] at k2
  exact k2
end AWT
