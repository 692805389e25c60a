theorem lw_get {A : List Nat} {f : Nat → Nat} {i : Nat} (h : A.length ≤ i) : A.getD i (f i) = f i := by
  rw [List.getD_eq_getElem?_getD, List.getElem?_eq_none h]
  rfl
set_option maxRecDepth 100000 in
set_option maxHeartbeats 4000000 in
theorem lw_start {p : Program} {e : Env} {s : State} {m : MethodId} {below : List Frame} {meth : Method} {c : Code} {l : Launch} {b L : Nat} {xs : Nat → Int32} (htr : l.stackTraces = false) (hL : L ≤ 3072) (hx : p.tables.exec = Jvm.exec) (hb : c.code = code) (hr : meth.sig.returnType = ret) (hml : c.maxLocals = 7) (hown : s.vm.findClass "SecondHasLaw" = some m.cls) (hts : ∀ w ∈ lw_tbl, w.before #[Value.ref b] s = true) (hX : va_X b L xs s s.heap) (hbl : b < s.heap.size) (hlk : meth.locks = false) (hgv : (Jvm.Cond.and given_1 narrow_1).before #[Value.ref b] s = true) : W p l e room_1 s m #[Value.ref b] below meth c s.heap [] 0 0 (lz_Q below #[Value.ref b] s) (entryFrame m ([Value.ref b] : List Value).toArray 7) := by
  have hg : ∀ q ∈ lw_fl, q.before #[Value.ref b] s = true := flat_of_before _ hgv
  have hG : ∀ w ∈ aw_G, w.before #[Value.ref b] s = true := fun w h => hts w (List.mem_filter.mp h).1
  obtain ⟨adr, hadr⟩ := lw_stat hg hts
  obtain ⟨D, cA, hkn⟩ := lw_known hG
  obtain ⟨K, hKe⟩ : ∃ K : aw_K, K = (D, cA, adr, s.heap.size) := ⟨_, rfl⟩
  have k1 : K.1 = D := by rw [hKe]
  have k2 : K.2.1 = cA := by rw [hKe]
  have k3 : K.2.2.1 = adr := by rw [hKe]
  have k4 : K.2.2.2 = s.heap.size := by rw [hKe]
  clear hKe
  have hK := hkn K k1 k2
  have hSt := hadr K (fun i _ => by rw [k3]) k4
  have C : ac_Cx K (⟨RL, meth.name, ""⟩, cL_law, 7, ret) p s m #[Value.ref b] meth c := ⟨hx, hb, hml, hr, hlk, rfl, hown, hG, hK, hSt, by rw [k4]; exact Nat.le_refl _⟩
  have hl := lv_entry ([.ref b]) (n := 7) (Nat.le_of_ble_eq_true rfl)
  rw [lg_entry_eq]
  generalize (lg_sl ([.ref b]) ++ List.replicate (7 - (lg_sl ([.ref b])).length) Slot.unset).toArray = LS at hl ⊢
  have hl : lv_has LS 7 [(0, .ref b)] := hl
  refine lw_made (b := b) C (fun qx q1 q2 q3 q4 q5 q6 q7 q8 q9 q10 q11 q12 q13 q14 q15 q16 q17 q18 q19 q20 q21 q22 q23 q24 q25 q26 q27 q28 q29 q30 q31 q32 q33 q34 q35 q36 q37 q38 q39 q40 q41 q42 q43 q44 q45 q46 q47 q48 qm p1 p2 p3 p4 p5 p6 p7 p8 p9 p10 p11 p12 p13 p14 p15 p16 p17 p18 p19 p20 p21 p22 p23 qo => ?_) s.heap [] LS (fun k q h => by simp at h) ⟨fun i j p q h => by simp at h, fun k q h => by simp at h⟩ va_S.rf hl
  intro H locs LS hP hD hS hL5
  have hcz := cz0 (K.1, K.2.1, fun i => [qx, q1, q2, q3, q4, q5, q6, q7, q8, q9, q10, q11, q12, q13, q14, q15, q16, q17, q18, q19, q20, q21, q22, q23, q24, q25, q26, q27, q28, q29, q30, q31, q32, q33, q34, q35, q36, q37, q38, q39, q40, q41, q42, q43, q44, q45, q46, q47, q48, qm, p1, p2, p3, p4, p5, p6, p7, p8, p9, p10, p11, p12, p13, p14, p15, p16, p17, p18, p19, p20, p21, p22, p23, qo].getD i (K.2.2.1 i), K.2.2.2)
  have hf : ∀ i, 200 ≤ i → (fun i => [qx, q1, q2, q3, q4, q5, q6, q7, q8, q9, q10, q11, q12, q13, q14, q15, q16, q17, q18, q19, q20, q21, q22, q23, q24, q25, q26, q27, q28, q29, q30, q31, q32, q33, q34, q35, q36, q37, q38, q39, q40, q41, q42, q43, q44, q45, q46, q47, q48, qm, p1, p2, p3, p4, p5, p6, p7, p8, p9, p10, p11, p12, p13, p14, p15, p16, p17, p18, p19, p20, p21, p22, p23, qo].getD i (K.2.2.1 i)) i = adr i := fun i hi => (lw_get (show 74 ≤ i by omega)).trans (by rw [k3])
  obtain ⟨K', hKe⟩ : ∃ K' : aw_K, K' = (K.1, K.2.1, fun i => [qx, q1, q2, q3, q4, q5, q6, q7, q8, q9, q10, q11, q12, q13, q14, q15, q16, q17, q18, q19, q20, q21, q22, q23, q24, q25, q26, q27, q28, q29, q30, q31, q32, q33, q34, q35, q36, q37, q38, q39, q40, q41, q42, q43, q44, q45, q46, q47, q48, qm, p1, p2, p3, p4, p5, p6, p7, p8, p9, p10, p11, p12, p13, p14, p15, p16, p17, p18, p19, p20, p21, p22, p23, qo].getD i (K.2.2.1 i), K.2.2.2) := ⟨_, rfl⟩
  have hP' : aw_Hp K' aw_w0 H := by
    rw [hKe]
    show va_P K.1 vwCl (aw_cz _ aw_w0) H
    rw [hcz]
    exact hP
  have hD' : va_D (aw_A K') (aw_cz K' aw_w0) := by
    rw [hKe, hcz]
    exact hD
  have hS' : va_S (aw_A K') s.heap H locs := by rw [hKe]; exact hS
  have hL' : lv_has LS 7 (lz_ls K' b 0) := by
    rw [hKe]
    exact lv_sub hL5 [0, 4, 3, 2, 1] rfl
  have j4 : K'.2.2.2 = s.heap.size := by rw [hKe]; exact k4
  have hK' : va_K K'.1 vwCl (aw_tys K') s := hkn K' (by rw [hKe]; exact k1) (by rw [hKe]; exact k2)
  have hSt' : aw_St K' s := hadr K' (by rw [hKe]; exact hf) j4
  have hKok := lw_Kok hD'
  have CZ : lz_Cx K' l p s m meth c b L xs := ⟨⟨hx, hb, hml, hown, hG, hK', hSt', hKok, by rw [j4]; exact Nat.le_refl _⟩, hr, hlk, hX, hbl, j4, lw_ax hg hts j4, htr, hL⟩
  exact lz_loop CZ 600 0 _ _ aw_w0 (Nat.zero_le _) (by omega) (by decide) (by decide) nv_init aw_w0_ok H locs LS hP' hS' hL'
