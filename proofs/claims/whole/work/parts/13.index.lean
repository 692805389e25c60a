/-! ===== String.checkIndex, by hand: it carries a reference of which only 'a reference or null' is known ===== -/
theorem dJ3_checkIndex_8e157_0 : decode cJ3_checkIndex_8e157 0 = .ok (.iload_n 0, 1) := by decide +kernel
theorem dJ3_checkIndex_8e157_1 : decode cJ3_checkIndex_8e157 1 = .ok (.ifCond .lt 8, 3) := by decide +kernel
theorem dJ3_checkIndex_8e157_4 : decode cJ3_checkIndex_8e157 4 = .ok (.iload_n 0, 1) := by decide +kernel
theorem dJ3_checkIndex_8e157_5 : decode cJ3_checkIndex_8e157 5 = .ok (.iload_n 1, 1) := by decide +kernel
theorem dJ3_checkIndex_8e157_6 : decode cJ3_checkIndex_8e157 6 = .ok (.if_icmp .lt 10, 3) := by decide +kernel
theorem dJ3_checkIndex_8e157_16 : decode cJ3_checkIndex_8e157 16 = .ok (.iload_n 0, 1) := by decide +kernel
theorem dJ3_checkIndex_8e157_17 : decode cJ3_checkIndex_8e157 17 = .ok (.ireturn, 1) := by decide +kernel
theorem dJ0_checkIndex_df160_0 : decode cJ0_checkIndex_df160 0 = .ok (.iload_n 0, 1) := by decide +kernel
theorem dJ0_checkIndex_df160_1 : decode cJ0_checkIndex_df160 1 = .ok (.iload_n 1, 1) := by decide +kernel
theorem dJ0_checkIndex_df160_2 : decode cJ0_checkIndex_df160 2 = .ok (.getstatic 1053, 3) := by decide +kernel
theorem dJ0_checkIndex_df160_5 : decode cJ0_checkIndex_df160 5 = .ok (.invokestatic 1059, 3) := by decide +kernel
theorem dJ0_checkIndex_df160_8 : decode cJ0_checkIndex_df160 8 = .ok (.pop, 1) := by decide +kernel
theorem dJ0_checkIndex_df160_9 : decode cJ0_checkIndex_df160 9 = .ok (.return_, 1) := by decide +kernel
abbrev MJ3_checkIndex_8e157 : aw_M := (yJ3_checkIndex_8e157, cJ3_checkIndex_8e157, 3, some .int)
abbrev MJ0_checkIndex_df160 : aw_M := (yJ0_checkIndex_df160, cJ0_checkIndex_df160, 2, none)
section AWX
variable {l : Launch} {K : aw_K}
def aw_PcX (K : aw_K) (i n : Int) (z : Value) (w : aw_W) : Array Value → State → Prop := fun v U => v = ([Value.int (Int32.ofInt i), Value.int (Int32.ofInt n), z] : List Value).toArray ∧ aw_Hp K w U.heap
theorem aw_pre_checkIndex (d : Nat) {i n : Int} {z : Value} {w : aw_W} (hz : z = .null ∨ ∃ a, z = .ref a) (hi : aw_I i) (hn : aw_I n) (h0 : 0 ≤ i) (h1 : i < n) : Met l yJ3_checkIndex_8e157 (aw_ws MJ3_checkIndex_8e157) (aw_rm d) (aw_PcX K i n z w) (aw_Qc K (some (.inl i), w)) 0 0 (aw_A K) := by
  refine Met.ofW (cc := cJ3_checkIndex_8e157) (maxL := 3) (ret := some .int) (by decide) rfl ?_
  intro p e s m args below meth c s₁ B hml hv
  obtain ⟨rfl, hP⟩ := hv
  have hx := B.exec
  have hb := B.bytes
  have hr := B.returns
  have hlocks := B.notSynchronized
  have hlen : (lg_sl ([Value.int (Int32.ofInt i), Value.int (Int32.ofInt n), z])).length ≤ 3 := by rcases hz with rfl | ⟨a, rfl⟩ <;> exact Nat.le_of_ble_eq_true rfl
  have hl := lv_entry ([Value.int (Int32.ofInt i), Value.int (Int32.ofInt n), z]) (n := 3) hlen
  rw [lg_entry_eq]
  generalize (lg_sl ([Value.int (Int32.ofInt i), Value.int (Int32.ofInt n), z]) ++ List.replicate (3 - (lg_sl ([Value.int (Int32.ofInt i), Value.int (Int32.ofInt n), z])).length) Slot.unset).toArray = ls at hl ⊢
  have hl0 : ls[0]? = some (.val (.int (Int32.ofInt i))) := hl.2.2 (0, _) (by simp [lv_args])
  have hl1 : ls[1]? = some (.val (.int (Int32.ofInt n))) := hl.2.2 (1, _) (by simp [lv_args, Value.category])
  have e0 : (aw_lt hi aw_I0).mp = (aw_lt hi aw_I0).mp := rfl
  refine lv_iload_n hx hb dJ3_checkIndex_8e157_0 rfl hl0 ?_
  refine lv_if_lt (tgt := 9) hx hb dJ3_checkIndex_8e157_1 (by decide) (fun q => ?_) (fun _ => ?_)
  · exact absurd ((aw_lt hi aw_I0).mp q) (by omega)
  refine lv_iload_n hx hb dJ3_checkIndex_8e157_4 rfl hl0 ?_
  refine lv_iload_n hx hb dJ3_checkIndex_8e157_5 rfl hl1 ?_
  refine lv_icmp_lt (tgt := 16) hx hb dJ3_checkIndex_8e157_6 (by decide) (fun _ => ?_) (fun q => ?_)
  · refine lv_iload_n hx hb dJ3_checkIndex_8e157_16 rfl hl0 ?_
    exact W.iret hx hb hr (fun t ht _ => ⟨rfl, by rw [ht]; exact hP, va_S.rf.F ht⟩) (fun q hq => by cases hq) dJ3_checkIndex_8e157_17
  · exact absurd ((aw_lt hi hn).mpr h1) q
theorem cbJ3_checkIndex_8e157 : aw_CB MJ3_checkIndex_8e157 3 := ⟨List.mem_of_getElem? (i := 1462) (by decide +kernel), ⟨by decide, by decide, by decide +kernel⟩, aw_inG (List.mem_of_getElem? (i := 102) (by decide +kernel)) rfl, by decide⟩
theorem cs_RJ0_1059 : aw_CS RJ0 1059 MJ3_checkIndex_8e157 3 := ⟨cbJ3_checkIndex_8e157, aw_inG (List.mem_of_getElem? (i := 1460) (by decide +kernel)) rfl, aw_inG (List.mem_of_getElem? (i := 1461) (by decide +kernel)) rfl⟩
theorem fx_RJ0_1053 : Cond.fieldLink RJ0 1053 "jdk/internal/util/Preconditions" "SIOOBE_FORMATTER" "Ljava/util/function/BiFunction;" ∈ aw_G := aw_inG (List.mem_of_getElem? (i := 1458) (by decide +kernel)) rfl
/-- String.checkIndex of an index that is in -/
def j_Str_checkIndex (N : Nat) (i n : Int) (w : aw_W) : Option aw_W := if 0 ≤ i ∧ i < n then some w else none
theorem w_j_Str_checkIndex (N d : Nat) (hd : 1 ≤ d) : ∀ (i n : Int) (w v : aw_W), j_Str_checkIndex N i n w = some v → aw_Met l K MJ0_checkIndex_df160 d [.inl i, .inl n] w (none, v) := by
  intro i n w v h
  unfold j_Str_checkIndex at h
  obtain ⟨⟨h0, h1⟩, h⟩ := aw_cks h
  cases h
  obtain ⟨d, rfl⟩ : ∃ e, d = e + 1 := ⟨d - 1, by omega⟩
  refine aw_enter rfl (Nat.le_of_ble_eq_true rfl) ?_
  show aw_AW l K MJ0_checkIndex_df160 (d + 1) 0 [(0, .inl i), (1, .inl n)] [] w (none, w)
  refine aw_iload_n (pc := 0) (q := 0) dJ0_checkIndex_df160_0 rfl ?_
  refine aw_iload_n (pc := 1) (q := 1) dJ0_checkIndex_df160_1 rfl ?_
  intro hw hl ho
  have hn : aw_I n := aw_h1 ho
  have hi : aw_I i := aw_h1 (aw_t1 ho)
  refine ⟨⟨fun v hv => (by cases hv), hw⟩, fun p e s m args below meth c H locs LS Cx hP hS hL => ?_⟩
  obtain ⟨hx, hb, hml, hret, hlk, hown, hts, hK, hSt, hKok, hb0⟩ := id Cx
  have ok : ∀ w ∈ aw_G, w.before args s = true := fun w h => hts w (aw_G_in MJ0_checkIndex_df160 w h)
  have key : ∃ z : Value, (z = .null ∨ ∃ a, z = .ref a) ∧ va_Z "jdk/internal/util/Preconditions" "SIOOBE_FORMATTER" "Ljava/util/function/BiFunction;" z (aw_A K) s s.heap := by
    rcases hSt.2.2.1.2.2 with h | ⟨t, h⟩
    · exact ⟨.null, Or.inl rfl, h⟩
    · exact ⟨.ref t, Or.inr ⟨t, rfl⟩, h⟩
  obtain ⟨z, hz, hZ⟩ := key
  refine va_gets (pc := 2) hx hb hZ hS hown (ok _ fx_RJ0_1053) (fun x h => h) dJ0_checkIndex_df160_2 ?_
  obtain ⟨⟨c1, c2, c3, c4⟩, c5, c6⟩ := cs_RJ0_1059
  have cB : CallB (aw_rm (d + 1)) s args RJ0 1059 yJ3_checkIndex_8e157 cJ3_checkIndex_8e157 3 (some .int) (aw_ws MJ3_checkIndex_8e157) (aw_rm d) 0 0 3 := callB_of 3 hts (aw_good MJ3_checkIndex_8e157 (aw_G_in MJ0_checkIndex_df160) c1) rfl rfl rfl (ok _ c3) (ok _ c5) c2 (aw_roomy c4)
  have hrun := va_runS (As := [Value.int (Int32.ofInt i), Value.int (Int32.ofInt n), z]) (rest := []) (g := F0 m 5 LS [z, Value.int (Int32.ofInt n), Value.int (Int32.ofInt i)]) (H := H) (locs := locs) (cells := 0) (slots := 0) (e := e) (below := below) (meth := meth) (free := aw_A K) ⟨hx, hb, hml, hown, hts⟩ (aw_pre_checkIndex (l := l) (K := K) d (w := w) hz hi hn h0 h1) ⟨cB, ok _ c6⟩ ⟨fun a U g mk q => q, fun U hU hW => ⟨rfl, by rw [hU]; exact hP⟩⟩ rfl rfl hL.1 rfl (lv_room (Nat.le_of_ble_eq_true rfl)) dJ0_checkIndex_df160_5 ⟨Nat.zero_le _, Nat.zero_le _⟩
  refine aw_after hrun hS (fun H1 locs1 hP1 hS1 => ?_)
  refine lv_pop (pc := 8) hx hb dJ0_checkIndex_df160_8 rfl ?_
  exact W.vret hx hb hret (fun t ht _ => ⟨rfl, by rw [ht]; exact hP1, hS1.F ht⟩) hS1.2.2 dJ0_checkIndex_df160_9 hlk
end AWX
