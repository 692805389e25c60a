/-! ===== the abstract walk: System.arraycopy of int arrays ===== -/
def aw_cpy (f : Nat → Int) (w : aw_W) (i sp dp n : Nat) : aw_W := fun a b => if a = i ∧ dp ≤ b ∧ b < dp + n then f (sp + (b - dp)) else w a b
theorem aw_cpy_ok {f : Nat → Int} {w : aw_W} {i sp dp n : Nat} (h : aw_okw w) (hf : ∀ j, aw_I (f j)) : aw_okw (aw_cpy f w i sp dp n) := by
  intro a b
  unfold aw_cpy
  by_cases q : a = i ∧ dp ≤ b ∧ b < dp + n
  · rw [if_pos q]
    exact ⟨aw_IL (hf _), fun _ => hf _⟩
  · rw [if_neg q]
    exact h a b
theorem aw_cpy_ne {K : aw_K} {f : Nat → Int} {w : aw_W} {i sp dp n j : Nat} (h : j ≠ i) : aw_cl K (aw_cpy f w i sp dp n) j = aw_cl K w j := by
  have e : aw_cpy f w i sp dp n j = w j := by
    funext b
    unfold aw_cpy
    rw [if_neg (fun q => h q.1)]
  unfold aw_cl
  rw [e]
theorem aw_cpy_cell {K : aw_K} {f : Nat → Int} {w : aw_W} {i sp dp n N : Nat} (hy : aw_lay i = .inr (0, N)) : aw_cl K (aw_cpy f w i sp dp n) i = .inl (K.2.1 0, N, .inl (va_cpy (fun j => Int32.ofInt (f j)) (fun j => Int32.ofInt (w i j)) sp dp n)) := by
  rw [aw_clA hy (by decide)]
  congr 4
  funext b
  unfold aw_cpy va_cpy
  by_cases q : dp ≤ b ∧ b < dp + n
  · rw [if_pos ⟨rfl, q⟩, if_pos q]
  · rw [if_neg (fun z => q z.2), if_neg q]
def aw_CC (own : String) (idx : Nat) : Prop := Cond.methodLink own idx arraycopyName ∈ aw_G ∧ Cond.native arraycopyName ∈ aw_G ∧ Cond.static arraycopyName ∈ aw_G ∧ Cond.initialized "java/lang/System" ∈ aw_G
section AWY
variable {l : Launch} {K : aw_K} {M : aw_M} {d pc : Nat} {ls ls' : aw_Ls} {st : List aw_V} {w : aw_W} {r : Option aw_V × aw_W}
theorem aw_nn {x : Int} (hI : aw_I x) (h : 0 ≤ x) : ¬ Int32.ofInt x < 0 := by
  intro q
  have := (aw_lt hI aw_I0).mp q
  omega
theorem aw_nroom {st : List aw_V} (h : (st.map aw_cat).sum ≤ 8) : ((st.map (aw_cv K)).map fun v => v.category).sum + (nativeFrameWords "java/lang/System" "arraycopy" 5 + 11) ≤ (aw_rm d).locals := by
  rw [aw_sum]
  show _ + (5 + 2 + 11) ≤ 64 * (d + 1)
  omega
theorem aw_copyW {idx i j n0 n1 : Nat} {sp dp n : Int} (hd : decode M.2.1 pc = .ok (.invokestatic idx, 3)) (hc : aw_CC M.1.cls idx) (hy0 : aw_lay j = .inr (0, n0)) (hy1 : aw_lay i = .inr (0, n1)) (hj : j < aw_N) (hi : i < aw_N) (h1 : 0 ≤ sp) (h2 : 0 ≤ dp) (h3 : 0 ≤ n) (h4 : sp + n ≤ n0) (h5 : dp + n ≤ n1) (hroom : (st.map aw_cat).sum ≤ 8)
    (kk : aw_AW l K M d (pc + 3) ls st (aw_cpy (w j) w i sp.toNat dp.toNat n.toNat) r) : aw_AW l K M d pc ls (.inl n :: .inl dp :: .inr (.inr i) :: .inl sp :: .inr (.inr j) :: st) w r := by
  intro hw hl ho
  have oN : aw_I n := aw_h1 ho
  have oD : aw_I dp := aw_h1 (aw_t1 ho)
  have oS : aw_I sp := aw_h1 (aw_t1 (aw_t1 (aw_t1 ho)))
  obtain ⟨hr, kk⟩ := kk (aw_cpy_ok hw (fun q => (hw j q).2 (by rw [aw_klA hy0]; rfl))) hl (aw_t1 (aw_t1 (aw_t1 (aw_t1 (aw_t1 ho)))))
  refine ⟨hr, fun p e s m args below meth c H locs LS Cx hP hS hL => ?_⟩
  obtain ⟨hx, hb, hml, -, -, hown, hts, hK, hSt, hKok, hb0⟩ := id Cx
  obtain ⟨c1, c2, c3, c4⟩ := hc
  have ok : ∀ w ∈ aw_G, w.before args s = true := fun w h => hts w (aw_G_in M w h)
  have he0 : (aw_cz K w)[j]? = some (K.2.2.1 j, .inl (K.2.1 0, n0, .inl (fun q => Int32.ofInt (w j q)))) := by rw [aw_cz_at hj, aw_clA hy0 (by decide)]
  have he1 : (aw_cz K w)[i]? = some (K.2.2.1 i, .inl (K.2.1 0, n1, .inl (fun q => Int32.ofInt (w i q)))) := by rw [aw_cz_at hi, aw_clA hy1 (by decide)]
  refine va_copyi hx hb (hml.trans hL.1.symm) hown (ok _ c1) (ok _ c2) (ok _ c3) (ok _ c4) hK hP (aw_Dz hKok w) hS j i 0 0 he0 he1 (ty := .int) rfl rfl rfl (aw_nn oS h1) (aw_nn oD h2) (aw_nn oN h3) (by rw [aw_clamp oS, aw_clamp oN]; omega) (by rw [aw_clamp oD, aw_clamp oN]; omega) (fun q _ => rfl) (by show 1 ≤ d + 1; omega) (aw_nroom hroom) hd (fun H1 locs1 hP1 _ hS1 => ?_)
  rw [aw_clamp oS, aw_clamp oD, aw_clamp oN, aw_cz_set (w' := aw_cpy (w j) w i sp.toNat dp.toNat n.toNat) (aw_cpy_cell hy1) (fun q h => aw_cpy_ne h)] at hP1
  exact kk p e s m args below meth c H1 locs1 LS Cx hP1 hS1 hL
theorem aw_copyS {idx i j n1 : Nat} {q : String × String × List Int} {sp dp n : Int} (hd : decode M.2.1 pc = .ok (.invokestatic idx, 3)) (hc : aw_CC M.1.cls idx) (hq : aw_stats[j]? = some q) (hqI : ∀ x, aw_I (q.2.2.getD x 0)) (hy1 : aw_lay i = .inr (0, n1)) (hi : i < aw_N) (h1 : 0 ≤ sp) (h2 : 0 ≤ dp) (h3 : 0 ≤ n) (h4 : sp + n ≤ q.2.2.length) (h5 : dp + n ≤ n1) (hroom : (st.map aw_cat).sum ≤ 8)
    (kk : aw_AW l K M d (pc + 3) ls st (aw_cpy (fun x => q.2.2.getD x 0) w i sp.toNat dp.toNat n.toNat) r) : aw_AW l K M d pc ls (.inl n :: .inl dp :: .inr (.inr i) :: .inl sp :: .inr (.inr (200 + j)) :: st) w r := by
  intro hw hl ho
  have oN : aw_I n := aw_h1 ho
  have oD : aw_I dp := aw_h1 (aw_t1 ho)
  have oS : aw_I sp := aw_h1 (aw_t1 (aw_t1 (aw_t1 ho)))
  obtain ⟨hr, kk⟩ := kk (aw_cpy_ok hw hqI) hl (aw_t1 (aw_t1 (aw_t1 (aw_t1 (aw_t1 ho)))))
  refine ⟨hr, fun p e s m args below meth c H locs LS Cx hP hS hL => ?_⟩
  obtain ⟨hx, hb, hml, -, -, hown, hts, hK, hSt, hKok, hb0⟩ := id Cx
  obtain ⟨c1, c2, c3, c4⟩ := hc
  have ok : ∀ w ∈ aw_G, w.before args s = true := fun w h => hts w (aw_G_in M w h)
  have he1 : (aw_cz K w)[i]? = some (K.2.2.1 i, .inl (K.2.1 0, n1, .inl (fun q => Int32.ofInt (w i q)))) := by rw [aw_cz_at hi, aw_clA hy1 (by decide)]
  have hD := aw_Dz hKok w
  have cS := aw_clamp oS
  have cD := aw_clamp oD
  have cN := aw_clamp oN
  obtain ⟨scr, s1, s2, s3, s4, -, s5, s7⟩ := (hSt.1 j q hq).2
  have hc0 : H[K.2.2.1 (200 + j)]? = some scr := by rw [hS.2.1 _ (Array.getElem?_eq_some_iff.mp s1).1 s7]; exact s1
  have hc1 : H[K.2.2.1 i]? = some (vp_cell (K.2.1 0) (n1, .inl (fun q => Int32.ofInt (w i q)))) := hP i _ he1
  obtain ⟨s6, k0, hk0, cm0, hkk0⟩ := s2
  obtain ⟨-, k1, hk1, cm1, hkk1⟩ := (hK.2 0 _ rfl).1 n1 (fun q => .int (Int32.ofInt (w i q)))
  intro T hT X
  obtain ⟨vm', X', step⟩ := X.arraycopy hx hown (ok _ c1) (ok _ c2) (ok _ c3) (ok _ c4) (src := K.2.2.1 (200 + j)) (dst := K.2.2.1 i) (cs := scr) (cd := vp_cell (K.2.1 0) (n1, .inl (fun q => Int32.ofInt (w i q)))) (srcPos := Int32.ofInt sp) (destPos := Int32.ofInt dp) (n := Int32.ofInt n) (by rw [hT]; exact hc0) (by rw [hT]; exact hc1)
    s6 (fun _ h => by cases h) s3 (fun h => by cases h) hk0 hk1 hkk0 hkk1 (by simp [refKind]) (aw_nn oS h1) (aw_nn oD h2) (aw_nn oN h3)
    (by rw [aw_back oS, aw_back oN]; omega)
    (by rw [aw_back oD, aw_back oN]; show ¬ _ > ((arrV (K.2.1 0) n1 (fun q => .int (Int32.ofInt (w i q)))).slots.size : Int); rw [arrV_size]; omega)
    (fun vm₁ _ z hz => by
      rw [cN] at hz
      have e : scr.slots.getD ((Int32.ofInt sp).toNatClampNeg + z) .null = .int (Int32.ofInt (q.2.2.getD (sp.toNat + z) 0)) := by
        rw [cS, Array.getD_eq_getD_getElem?, s5 _ (by omega)]
        rfl
      rw [e]
      exact ⟨rfl, trivial⟩)
    (g := F0 m pc LS (.int (Int32.ofInt n) :: .int (Int32.ofInt dp) :: .ref (K.2.2.1 i) :: .int (Int32.ofInt sp) :: .ref (K.2.2.1 (200 + j)) :: st.map (aw_cv K))) rfl (hL.1.trans hml.symm) (rest := st.map (aw_cv K)) rfl (by rw [hb]; exact hd) (by show 1 ≤ d + 1; omega) (by have := aw_nroom (K := K) (d := d) hroom; show 2 * 0 + _ + _ ≤ _; omega)
  have e1 : copied scr (vp_cell (K.2.1 0) (n1, .inl (fun q => Int32.ofInt (w i q)))) (Int32.ofInt sp) (Int32.ofInt dp) (Int32.ofInt n) = vp_cell (K.2.1 0) (n1, .inl (va_cpy (fun x => Int32.ofInt (q.2.2.getD x 0)) (fun q => Int32.ofInt (w i q)) sp.toNat dp.toNat n.toNat)) := by
    have := va_copiedX (fun z => Value.int z) scr (K.2.1 0) (n1 := n1) (dp := (Int32.ofInt dp).toNatClampNeg) (fun x => Int32.ofInt (q.2.2.getD x 0)) (fun q => Int32.ofInt (w i q)) s5 (sp := (Int32.ofInt sp).toNatClampNeg) (n := (Int32.ofInt n).toNatClampNeg) (by rw [cS, cN]; omega)
    rw [cS, cD, cN] at this
    show (vp_cell (K.2.1 0) (n1, .inl (fun q => Int32.ofInt (w i q)))).storeRun (Int32.ofInt dp).toNatClampNeg (scr.stretch (Int32.ofInt sp).toNatClampNeg (Int32.ofInt n).toNatClampNeg) = _
    rw [cS, cD, cN]
    exact this
  rw [e1] at X' step
  have hlt : K.2.2.1 i < H.size := (Array.getElem?_eq_some_iff.mp hc1).1
  have hA := hD.2 i _ he1
  have hheap : ((T.setVm vm').setCell (K.2.2.1 i) (vp_cell (K.2.1 0) (n1, .inl (va_cpy (fun x => Int32.ofInt (q.2.2.getD x 0)) (fun q => Int32.ofInt (w i q)) sp.toNat dp.toNat n.toNat)))).heap = H.setIfInBounds (K.2.2.1 i) (vp_cell (K.2.1 0) (n1, .inl (va_cpy (fun x => Int32.ofInt (q.2.2.getD x 0)) (fun q => Int32.ofInt (w i q)) sp.toNat dp.toNat n.toNat))) := by rw [← hT]; rfl
  generalize hce : vp_cell (K.2.1 0) (n1, .inl (va_cpy (fun x => Int32.ofInt (q.2.2.getD x 0)) (fun q => Int32.ofInt (w i q)) sp.toNat dp.toNat n.toNat)) = ce at hheap X' step
  have oq : ∀ z : Nat, z ≠ K.2.2.1 i → (H.setIfInBounds (K.2.2.1 i) ce)[z]? = H[z]? := fun z hz => by simp [Array.getElem?_setIfInBounds, Ne.symm hz]
  have hP1 := hP.set hD he1 (e := .inl (K.2.1 0, n1, .inl (va_cpy (fun x => Int32.ofInt (q.2.2.getD x 0)) (fun q => Int32.ofInt (w i q)) sp.toNat dp.toNat n.toNat))) (H1 := H.setIfInBounds (K.2.2.1 i) ce) (show (H.setIfInBounds (K.2.2.1 i) ce)[K.2.2.1 i]? = some (vp_cell _ _) by rw [hce]; simp [Array.getElem?_setIfInBounds, hlt]) oq
  rw [aw_cz_set (w' := aw_cpy (fun x => q.2.2.getD x 0) w i sp.toNat dp.toNat n.toNat) (aw_cpy_cell hy1) (fun q h => aw_cpy_ne h)] at hP1
  obtain ⟨t, a1, b1⟩ := kk p e s m args below meth c _ _ LS Cx hP1 ⟨by simp; exact hS.1, fun z g1 g2 => by
      rw [oq z (fun e => g2 (by rw [e]; exact hA))]
      exact hS.2.1 z g1 g2, fun z hz => by
      rcases List.mem_append.mp hz with h | h
      · exact hS.2.2 z h
      · obtain ⟨y, -, hy⟩ := List.mem_map.mp h
        rw [← hy]
        exact hA⟩ hL _ hheap X'
  exact ⟨t, step t a1, b1⟩
end AWY
