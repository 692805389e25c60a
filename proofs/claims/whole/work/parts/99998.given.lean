/-! ===== the law's start: what the Statement gives of statics, texts, classes ===== -/
def lw_fl : List Cond := flatC (Jvm.Cond.and given_1 narrow_1)
theorem lw_f1 : ∀ q ∈ aw_stats, Cond.arrayOf (.static q.1 q.2.1 "[I") .int ∈ lw_fl := by decide +kernel
theorem lw_f2 : ∀ q ∈ aw_stats, Cond.eq (.length (.static q.1 q.2.1 "[I")) (.int (Int32.ofNat q.2.2.length)) ∈ lw_fl := by decide +kernel
theorem lw_f3 : ∀ q ∈ aw_stats, ∀ j, j < q.2.2.length → Cond.eq (.elem (.static q.1 q.2.1 "[I") (.int (Int32.ofNat j))) (.int (Int32.ofInt (q.2.2.getD j 0))) ∈ lw_fl := by decide +kernel
theorem lw_f4 : ∀ q ∈ aw_stats, Cond.laysStatic q.1 q.2.1 "[I" ∈ lw_tbl ∧ Cond.initialized q.1 ∈ lw_tbl := by decide +kernel
theorem lw_f5 : ∀ q ∈ aw_stats, q.2.2.length < 2 ^ 31 := by decide
def lw_tm (i : Nat) : Term := .string "SecondHasModel" ([26, 32, 237, 239].getD i 0)
theorem lw_g0 : ∀ i, i < 4 → aw_lens.getD i 0 < 2 ^ 31 := by decide
theorem lw_g1 : ∀ i, i < 4 → Cond.exactly (lw_tm i) "java/lang/String" ∈ lw_fl := by decide +kernel
theorem lw_g2 : ∀ i, i < 4 → Cond.eq (.field (lw_tm i) "java/lang/String" "coder" "B") (.int 0) ∈ lw_fl := by decide +kernel
theorem lw_g3 : ∀ i, i < 4 → Cond.arrayOf (.field (lw_tm i) "java/lang/String" "value" "[B") .byte ∈ lw_fl := by decide +kernel
theorem lw_g4 : ∀ i, i < 4 → Cond.eq (.length (.field (lw_tm i) "java/lang/String" "value" "[B")) (.int (Int32.ofNat (aw_lens.getD i 0))) ∈ lw_fl := by decide +kernel
theorem lw_g5 : ∀ i, i < 4 → ∀ j, j < aw_lens.getD i 0 → Cond.eq (.elem (.field (lw_tm i) "java/lang/String" "value" "[B") (.int (Int32.ofNat j))) (.int ((aw_byt.getD i []).getD j 0)) ∈ lw_fl := by decide +kernel
theorem lw_g6 : ∀ i, i < 4 → ∀ j, j < 4 → i ≠ j → Cond.not (Cond.eq (lw_tm i) (lw_tm j)) ∈ lw_fl ∨ Cond.not (Cond.eq (lw_tm j) (lw_tm i)) ∈ lw_fl := by decide +kernel
theorem lw_g7 : Cond.stringRef "SecondHasModel" 26 "y" ∈ lw_tbl ∧ Cond.stringRef "SecondHasModel" 32 "dabolt" ∈ lw_tbl ∧ Cond.stringRef "SecondHasModel" 237 "rtqfm" ∈ lw_tbl ∧ Cond.stringRef "SecondHasModel" 239 "pwkb" ∈ lw_tbl := by decide +kernel
theorem lw_h1 : Cond.laysStatic "java/lang/String" "COMPACT_STRINGS" "Z" ∈ lw_tbl ∧ Cond.initialized "java/lang/String" ∈ lw_tbl ∧ Cond.eq (.static "java/lang/String" "COMPACT_STRINGS" "Z") (.int 1) ∈ lw_fl := by decide +kernel
theorem lw_h2 : Cond.laysStatic "java/lang/Throwable" "UNASSIGNED_STACK" "[Ljava/lang/StackTraceElement;" ∈ lw_tbl ∧ Cond.laysStatic "java/lang/Throwable" "SUPPRESSED_SENTINEL" "Ljava/util/List;" ∈ lw_tbl ∧ Cond.initialized "java/lang/Throwable" ∈ lw_tbl := by decide +kernel
theorem lw_h3 : Cond.isRef (.static "java/lang/Throwable" "UNASSIGNED_STACK" "[Ljava/lang/StackTraceElement;") ∈ lw_fl ∧ Cond.isRef (.static "java/lang/Throwable" "SUPPRESSED_SENTINEL" "Ljava/util/List;") ∈ lw_fl ∧ Cond.isRef (.static "jdk/internal/util/Preconditions" "SIOOBE_FORMATTER" "Ljava/util/function/BiFunction;") ∈ lw_fl := by decide +kernel
theorem lw_h4 : Cond.laysStatic "jdk/internal/util/Preconditions" "SIOOBE_FORMATTER" "Ljava/util/function/BiFunction;" ∈ lw_tbl ∧ Cond.initialized "jdk/internal/util/Preconditions" ∈ lw_tbl := by decide +kernel
theorem lw_h5 : ∀ w ∈ ax_B, w ∈ lw_tbl := by decide +kernel
section LWS
variable {args : Array Value} {s : State} {A : Nat → Prop}
theorem lw_Sa (hg : ∀ c ∈ lw_fl, c.before args s = true) (ht : ∀ w ∈ lw_tbl, w.before args s = true) (hA : ∀ a, a < s.heap.size → ¬ A a) : ∃ ad : Nat → Nat, ∀ (j : Nat) (q : String × String × List Int), aw_stats[j]? = some q → va_Z q.1 q.2.1 "[I" (.ref (ad j)) A s s.heap ∧ va_T .int (ad j) q.2.2.length (fun i => .int (Int32.ofInt (q.2.2.getD i 0))) A s s.heap := by
  have h : ∀ j : Nat, ∃ t : Nat, ∀ q : String × String × List Int, aw_stats[j]? = some q → va_Z q.1 q.2.1 "[I" (.ref t) A s s.heap ∧ va_T .int t q.2.2.length (fun i => .int (Int32.ofInt (q.2.2.getD i 0))) A s s.heap := by
    intro j
    cases hq : aw_stats[j]? with
    | none => exact ⟨0, fun q h => by cases h⟩
    | some q =>
      have hm := List.mem_of_getElem? hq
      obtain ⟨t, h1, hT⟩ := va_Tof (args := args) (s := s) (A := A) (f := fun i => .int (Int32.ofInt (q.2.2.getD i 0))) (N := q.2.2.length) (lw_f5 q hm) (hg _ (lw_f1 q hm)) (va_eqt (hg _ (lw_f2 q hm))) (fun j hj => va_eqt (hg _ (lw_f3 q hm j hj))) hA
      exact ⟨t, fun q' h' => by cases h'; exact ⟨va_Zof (ht _ (lw_f4 q hm).1) (ht _ (lw_f4 q hm).2) h1 hA, hT⟩⟩
  exact ⟨fun j => (h j).choose, fun j => (h j).choose_spec⟩
theorem lw_stat (hg : ∀ c ∈ lw_fl, c.before args s = true) (ht : ∀ w ∈ lw_tbl, w.before args s = true) : ∃ adr : Nat → Nat, ∀ K : aw_K, (∀ i, 200 ≤ i → K.2.2.1 i = adr i) → K.2.2.2 = s.heap.size → aw_St K s := by
  have hA : ∀ a, a < s.heap.size → ¬ (fun q => s.heap.size ≤ q) a := fun a h => Nat.not_le.mpr h
  obtain ⟨ad, had⟩ := lw_Sa (args := args) (s := s) (A := fun q => s.heap.size ≤ q) hg ht hA
  obtain ⟨adK, adV, hS, hE⟩ := vk_Sof (args := args) (s := s) (N := 4) (tm := lw_tm) (len := aw_lens) (byt := aw_byt) (A := fun q => s.heap.size ≤ q) lw_g0 (fun i hi => hg _ (lw_g1 i hi)) (fun i hi => hg _ (lw_g2 i hi)) (fun i hi => hg _ (lw_g3 i hi)) (fun i hi => hg _ (lw_g4 i hi)) (fun i hi j hj => hg _ (lw_g5 i hi j hj)) (fun i j hi hj hn => (lw_g6 i hi j hj hn).elim (fun h => Or.inl (hg _ h)) (fun h => Or.inr (hg _ h))) hA
  refine ⟨fun i => if i < 220 then ad (i - 200) else if i < 230 then adK (i - 220) else adV (i - 230), fun K hK hb => ?_⟩
  have hK : ∀ i, 200 ≤ i → K.2.2.1 i = if i < 220 then ad (i - 200) else if i < 230 then adK (i - 220) else adV (i - 230) := hK
  have eA : aw_A K = fun q => s.heap.size ≤ q := by unfold aw_A; rw [hb]
  have e1 : ∀ j, j < 20 → K.2.2.1 (200 + j) = ad j := by
    intro j hj
    rw [hK _ (by omega), if_pos (by omega), show 200 + j - 200 = j by omega]
  have e2 : ∀ j, j < 4 → K.2.2.1 (220 + j) = adK j := by
    intro j hj
    rw [hK _ (by omega), if_neg (by omega), if_pos (by omega), show 220 + j - 220 = j by omega]
  have e3 : ∀ j, j < 4 → K.2.2.1 (230 + j) = adV j := by
    intro j hj
    rw [hK _ (by omega), if_neg (by omega), if_neg (by omega), show 230 + j - 230 = j by omega]
  obtain ⟨g1, g2, g3, g4⟩ := lw_g7
  have r0 : (Term.string "SecondHasModel" 26).eval args s none [] s = some (.ref (K.2.2.1 220)) := by rw [show K.2.2.1 220 = adK 0 from e2 0 (by decide)]; exact hE 0 (by decide)
  have r1 : (Term.string "SecondHasModel" 32).eval args s none [] s = some (.ref (K.2.2.1 221)) := by rw [show K.2.2.1 221 = adK 1 from e2 1 (by decide)]; exact hE 1 (by decide)
  have r2 : (Term.string "SecondHasModel" 237).eval args s none [] s = some (.ref (K.2.2.1 222)) := by rw [show K.2.2.1 222 = adK 2 from e2 2 (by decide)]; exact hE 2 (by decide)
  have r3 : (Term.string "SecondHasModel" 239).eval args s none [] s = some (.ref (K.2.2.1 223)) := by rw [show K.2.2.1 223 = adK 3 from e2 3 (by decide)]; exact hE 3 (by decide)
  refine ⟨fun j q hq => ?_, ⟨?_, ?_, vk_R.of (ht _ g1) r0, vk_R.of (ht _ g2) r1, vk_R.of (ht _ g3) r2, vk_R.of (ht _ g4) r3⟩, ⟨?_, ?_, ?_⟩, fun w hw => ?_⟩
  · have hj : j < 9 := (List.getElem?_eq_some_iff.mp hq).1
    rw [e1 j (by omega), eA]
    exact had j q hq
  · rw [eA]
    refine ⟨fun i hi => ?_, fun i j hi hj e => ?_⟩
    · dsimp only
      rw [e2 i hi, e3 i hi]
      exact hS.1 i hi
    · dsimp only at e
      rw [e2 i hi, e2 j hj] at e
      exact hS.2 i j hi hj e
  · rw [eA]
    exact va_Zof (ht _ lw_h1.1) (ht _ lw_h1.2.1) (va_eqi (hg _ lw_h1.2.2)) hA
  · rw [eA]
    exact va_Zqof (ht _ lw_h2.1) (ht _ lw_h2.2.2) (hg _ lw_h3.1) hA
  · rw [eA]
    exact va_Zqof (ht _ lw_h2.2.1) (ht _ lw_h2.2.2) (hg _ lw_h3.2.1) hA
  · rw [eA]
    exact va_Zqof (ht _ lw_h4.1) (ht _ lw_h4.2) (hg _ lw_h3.2.2) hA
  · obtain ⟨m1, m2⟩ := List.mem_filter.mp hw
    have h := ht w m1
    cases w with
    | fieldLinkNest a i b n d hh => exact va_Nw.of rfl h
    | methodLinkNest a i x hh => exact va_Nw.of rfl h
    | _ => exact absurd m2 (by simp [aw_isN])
theorem lw_ax {K : aw_K} (hg : ∀ c ∈ lw_fl, c.before args s = true) (ht : ∀ w ∈ lw_tbl, w.before args s = true) (hb : K.2.2.2 = s.heap.size) : ax_X K s := by
  have hA : ∀ a, a < s.heap.size → ¬ aw_A K a := fun a h => by show ¬ K.2.2.2 ≤ a; omega
  exact ⟨⟨vx_Zqof (ht _ lw_h2.1) (ht _ lw_h2.2.2) (hg _ lw_h3.1) hA, vx_Zqof (ht _ lw_h2.2.1) (ht _ lw_h2.2.2) (hg _ lw_h3.2.1) hA⟩, fun w hw => va_Nw.of (ax_Bot w hw) (ht _ (lw_h5 w hw))⟩
theorem lw_ac {ty : FieldType} (hp : ty = .int ∨ ty = .byte ∨ ty = .boolean ∨ ty = .long) (h : (Cond.arrayClass ty).before args s = true) : ∃ cA, ArrOfT s cA ty ∧ va_RA s cA ty := by
  obtain ⟨c, k, comp, h1, h2, h3⟩ := Cond.arrayClass_spec h
  refine ⟨c, fun n z => ⟨fun k h => (by cases h), k, h2, comp, h3⟩, ?_⟩
  rcases hp with rfl | rfl | rfl | rfl <;> exact h1
theorem lw_cl : ∀ (k : Nat) (q : vw_C), vwCl[k]? = some q → (∀ w ∈ u_ws q.1 q.2.1 q.2.2, w ∈ aw_G) ∧ Cond.instantiable q.1 q.2.2 ∈ aw_G := by
  intro k q hq
  match k, hq with
  | 0, hq => cases hq; exact ⟨fG_0, aw_inG (List.mem_of_getElem? (i := 436) (by decide +kernel)) rfl⟩
  | 1, hq => cases hq; exact ⟨fG_1, aw_inG (List.mem_of_getElem? (i := 141) (by decide +kernel)) rfl⟩
  | 2, hq => cases hq; exact ⟨fG_2, aw_inG (List.mem_of_getElem? (i := 219) (by decide +kernel)) rfl⟩
  | 3, hq => cases hq; exact ⟨fG_3, aw_inG (List.mem_of_getElem? (i := 348) (by decide +kernel)) rfl⟩
  | 4, hq => cases hq; exact ⟨fG_4, aw_inG (List.mem_of_getElem? (i := 271) (by decide +kernel)) rfl⟩
  | 5, hq => cases hq; exact ⟨fG_5, aw_inG (List.mem_of_getElem? (i := 312) (by decide +kernel)) rfl⟩
  | 6, hq => cases hq; exact ⟨fG_6, aw_inG (List.mem_of_getElem? (i := 412) (by decide +kernel)) rfl⟩
  | 7, hq => cases hq; exact ⟨fG_7, aw_inG (List.mem_of_getElem? (i := 181) (by decide +kernel)) rfl⟩
  | 8, hq => cases hq; exact ⟨fG_8, aw_inG (List.mem_of_getElem? (i := 213) (by decide +kernel)) rfl⟩
  | 9, hq => cases hq; exact ⟨fG_9, aw_inG (List.mem_of_getElem? (i := 121) (by decide +kernel)) rfl⟩
  | 10, hq => cases hq; exact ⟨fG_10, aw_inG (List.mem_of_getElem? (i := 389) (by decide +kernel)) rfl⟩
  | 11, hq => cases hq; exact ⟨fG_11, aw_inG (List.mem_of_getElem? (i := 113) (by decide +kernel)) rfl⟩
  | 12, hq => cases hq; exact ⟨fG_12, aw_inG (List.mem_of_getElem? (i := 1215) (by decide +kernel)) rfl⟩
  | k + 13, hq => simp [vwCl] at hq
theorem lw_known (ht : ∀ w ∈ aw_G, w.before args s = true) : ∃ (D : va_G) (cA : Nat → ClassId), ∀ K : aw_K, K.1 = D → K.2.1 = cA → va_K K.1 vwCl (aw_tys K) s := by
  have h : ∀ k : Nat, ∃ d : ClassId × (Nat → Nat), ∀ q : vw_C, vwCl[k]? = some q → u_Kn s q.1 q.2.1 q.2.2 d.1 d.2 := by
    intro k
    cases hq : vwCl[k]? with
    | none => exact ⟨((default : ClassId), fun _ => 0), fun q h => by cases h⟩
    | some q =>
      obtain ⟨h1, h2⟩ := lw_cl k q hq
      obtain ⟨cC, iS, hK⟩ := u_known (ws := aw_G) (args := args) (C := q.1) (T := q.2.1) (N := q.2.2) (n := q.2.2) ht h1 (ht _ h2)
      exact ⟨(cC, iS), fun q' h' => by cases h'; exact hK⟩
  obtain ⟨c0, a0, b0⟩ := lw_ac (Or.inl rfl) (ht _ ca_int)
  obtain ⟨c1, a1, b1⟩ := lw_ac (Or.inr (Or.inl rfl)) (ht _ ca_byte)
  obtain ⟨c2, a2, b2⟩ := lw_ac (Or.inr (Or.inr (Or.inl rfl))) (ht _ ca_boolean)
  obtain ⟨c3, a3, b3⟩ := lw_ac (Or.inr (Or.inr (Or.inr rfl))) (ht _ ca_long)
  refine ⟨(fun k => (h k).choose.1, fun k => (h k).choose.2), fun k => if k = 0 then c0 else if k = 1 then c1 else if k = 2 then c2 else c3, fun K h1 h2 => ⟨fun k q hq => ?_, fun k q hq => ?_⟩⟩
  · rw [h1]
    exact (h k).choose_spec q hq
  · unfold aw_tys at hq
    rw [h2] at hq
    match k, hq with
    | 0, hq => cases hq; exact ⟨a0, b0⟩
    | 1, hq => cases hq; exact ⟨a1, b1⟩
    | 2, hq => cases hq; exact ⟨a2, b2⟩
    | 3, hq => cases hq; exact ⟨a3, b3⟩
    | k + 4, hq => simp at hq
end LWS
