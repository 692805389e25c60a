/-! ===== pure: the tape ===== -/
def iU (x : Int) : Nat := (Int32.ofInt x).toBitVec.toNat
theorem iU_lt (x : Int) : iU x < 4294967296 := (Int32.ofInt x).toBitVec.isLt
theorem iU_i (z : Int32) : iU z.toInt = z.toBitVec.toNat := by
  unfold iU
  rw [Int32.ofInt_toInt]
theorem iU_e (x : Int) : (iU x : Int) = x % 4294967296 := by
  unfold iU
  rw [Int32.toBitVec_ofInt, BitVec.toNat_ofInt]
  omega
theorem iU_and (x y : Int) : iU (aw_and x y) = iU x &&& iU y := by
  unfold aw_and
  rw [iU_i, Int32.toBitVec_and, BitVec.toNat_and]
  rfl
theorem iU_L {x : Int} (h : (iU x : Int) < 2147483648) (h0 : -2147483648 ≤ x) (h1 : x < 2147483648) : x = iU x := by
  have := iU_e x
  omega
theorem and_rng (x y : Int) : -2147483648 ≤ aw_and x y ∧ aw_and x y < 2147483648 := by
  unfold aw_and
  exact ⟨Int32.le_toInt _, Int32.toInt_lt _⟩
theorem iU_255 : iU 255 = 255 := by decide +kernel
theorem and255 (x : Int) : aw_and x 255 = ((iU x % 256 : Nat) : Int) := by
  have e : iU (aw_and x 255) = iU x % 256 := by
    rw [iU_and, iU_255]
    exact Nat.and_two_pow_sub_one_eq_mod (iU x) 8
  have h := and_rng x 255
  have := iU_L (x := aw_and x 255) (by rw [e]; omega) h.1 h.2
  rw [this, e]
theorem sh32 : ∀ k : Nat, k < 32 → ((Int32.ofInt (k : Int)).toUInt32 &&& Int32.toUInt32 31).toNat = k := by decide +kernel
theorem iU_ushr (x : Int) {k : Nat} (hk : k < 32) : iU (aw_ushr x (k : Int)) = iU x / 2 ^ k := by
  unfold aw_ushr
  rw [iU_i]
  show (((Int32.ofInt x).toUInt32 >>> ((Int32.ofInt (k : Int)).toUInt32 &&& Int32.toUInt32 31))).toNat = _
  rw [UInt32.toNat_shiftRight, sh32 k hk, Nat.mod_eq_of_lt hk, Nat.shiftRight_eq_div_pow]
  rfl
theorem shr_v (x : Int) : ∀ k : Nat, k < 32 → aw_shr x (k : Int) = (Int32.ofInt x).toInt / 2 ^ k := by
  intro k hk
  unfold aw_shr
  have key : ∀ k : Nat, k < 32 → (((Int32.ofInt (k : Int) &&& 31 : Int32).toBitVec.smod 32).toNat) = k := by decide +kernel
  rw [← Int32.toInt_toBitVec, Int32.toBitVec_shiftRight, BitVec.sshiftRight_eq', key k hk, BitVec.toInt_sshiftRight, Int.shiftRight_eq_div_pow]
  rfl
theorem bm32 (x : Int) : Int.bmod x Int32.size = if x % 4294967296 < 2147483648 then x % 4294967296 else x % 4294967296 - 4294967296 := rfl
theorem bm8 (x : Int) : Int.bmod x (2 ^ 8) = if x % 256 < 128 then x % 256 else x % 256 - 256 := rfl
theorem i32v (x : Int) : (Int32.ofInt x).toInt = (iU x : Int) ∨ (Int32.ofInt x).toInt = (iU x : Int) - 4294967296 := by
  have h := iU_e x
  have h2 := iU_lt x
  rw [Int32.toInt_ofInt, bm32]
  omega
/-- the byte of an int at a shift -/
def byt (x : Int) (k : Nat) : Nat := iU x / 2 ^ k % 256
theorem byt_lt (x : Int) (k : Nat) : byt x k < 256 := Nat.mod_lt _ (by decide)
theorem byt_u (x : Int) {k : Nat} (hk : k < 32) : aw_and (aw_ushr x (k : Int)) 255 = (byt x k : Int) := by
  rw [and255, iU_ushr x hk]
  rfl
def s4 (k : Nat) : Prop := k = 0 ∨ k = 8 ∨ k = 16 ∨ k = 24
theorem shr_m (x : Int) {k : Nat} (hk : s4 k) : (iU (aw_shr x (k : Int)) % 256 = byt x k) ∧ aw_shr x (k : Int) % 256 = (byt x k : Int) := by
  have e := iU_e (aw_shr x (k : Int))
  have hv := shr_v x k (by unfold s4 at hk; omega)
  have h2 := iU_lt x
  unfold byt
  rcases i32v x with q | q
  · rw [q] at hv
    rcases hk with rfl | rfl | rfl | rfl <;> omega
  · rw [q] at hv
    rcases hk with rfl | rfl | rfl | rfl <;> omega
theorem byt_s (x : Int) {k : Nat} (hk : s4 k) : aw_and (aw_shr x (k : Int)) 255 = (byt x k : Int) := by
  rw [and255, (shr_m x hk).1]
/-- a byte as the machine keeps it -/
def sg (b : Nat) : Int := if b < 128 then (b : Int) else (b : Int) - 256
theorem byt_b (x : Int) {k : Nat} (hk : s4 k) : aw_byte (aw_shr x (k : Int)) = sg (byt x k) := by
  have h := (shr_m x hk).2
  have hl := byt_lt x k
  unfold aw_byte sg
  rw [Int8.toInt_toInt32, Int32.toInt_toInt8, Int32.toInt_ofInt, bm32, bm8]
  generalize aw_shr x (k : Int) = y at h ⊢
  split <;> omega
theorem sg_rng {b : Nat} (h : b < 256) : -128 ≤ sg b ∧ sg b < 128 := by
  unfold sg
  split <;> omega
def ap (x : Int) (k : Nat) : List Nat := if byt x k = 0 then [] else [byt x k]
def bys (x : Int) : List Nat := ap x 24 ++ (ap x 16 ++ (ap x 8 ++ ap x 0))
theorem ap_len (x : Int) (k : Nat) : (ap x k).length ≤ 1 := by
  unfold ap
  split <;> simp
theorem bys_len (x : Int) : (bys x).length ≤ 4 := by
  have h1 := ap_len x 24
  have h2 := ap_len x 16
  have h3 := ap_len x 8
  have h4 := ap_len x 0
  unfold bys
  simp only [List.length_append]
  omega
/-- the tape holds these bytes, none of them 0 -/
def tpk (tp : List Nat) : Prop := tp.length ≤ 160 ∧ ∀ b, b ∈ tp → 1 ≤ b ∧ b ≤ 255
def XT (w : aw_W) (tp : List Nat) : Prop := w 1 1 = (tp.length : Int) ∧ tpk tp ∧ ∀ j, j < tp.length → w 2 j = (tp.getD j 0 : Int)
def MT (w : aw_W) (tp : List Nat) : Prop := w 49 6 = (tp.length : Int) ∧ tpk tp ∧ ∀ j, j < tp.length → w 50 j = sg (tp.getD j 0)
def P_XT : List (Nat × Nat) := [(1, 1), (2, 1000000)]
def P_MT : List (Nat × Nat) := [(49, 6), (50, 1000000)]
section TP
variable {N : Nat} {w v : aw_W} {tp : List Nat} {S : List (Nat × Nat)}
theorem XT.fr (h : XT w tp) (hf : fr_ S w v) (ha : avd S P_XT = true) : XT v tp := ⟨by rw [avd_fr ha hf rfl]; exact h.1, h.2.1, fun j hj => by rw [avd_fr ha hf (fr_inA rfl j)]; exact h.2.2 j hj⟩
theorem MT.fr (h : MT w tp) (hf : fr_ S w v) (ha : avd S P_MT = true) : MT v tp := ⟨by rw [avd_fr ha hf rfl]; exact h.1, h.2.1, fun j hj => by rw [avd_fr ha hf (fr_inA rfl j)]; exact h.2.2 j hj⟩
theorem MT.th (h : MT w tp) : MT (aw_up w 49 0 0) tp := h.fr (S := [(49, 0)]) ((fr_r _ w).up rfl) rfl
theorem tpk_ap (h : tpk tp) {x : Int} {k : Nat} (hl : (tp ++ ap x k).length ≤ 160) : tpk (tp ++ ap x k) := by
  refine ⟨hl, fun b hb => ?_⟩
  rw [List.mem_append] at hb
  rcases hb with hb | hb
  · exact h.2 b hb
  · unfold ap at hb
    split at hb
    · cases hb
    · next z =>
      rw [List.mem_singleton] at hb
      have := byt_lt x k
      omega
theorem getD_ap {j b : Nat} (hj : j < tp.length) : (tp ++ [b]).getD j 0 = tp.getD j 0 := by
  rw [List.getD_eq_getElem?_getD, List.getD_eq_getElem?_getD, List.getElem?_append_left hj]
theorem getD_ae {b : Nat} : (tp ++ [b]).getD tp.length 0 = b := by
  rw [List.getD_eq_getElem?_getD, List.getElem?_append_right (Nat.le_refl _), Nat.sub_self]
  rfl
theorem kw8 {k : Nat} (hk : s4 k) : aw_w ((k : Int) + (-8)) = (k : Int) - 8 := by
  unfold s4 at hk
  rw [ww (by omega) (by omega)]
  omega
/-- a byte is added -/
theorem xad1 {f k : Nat} (hk : s4 k) {x : Int} (h : XT w tp) (hl : (tp ++ ap x k).length ≤ 160) : ∃ w', x_Tape_add_3 N (f + 1) x k w = x_Tape_add_3 N f x ((k : Int) - 8) w' ∧ XT w' (tp ++ ap x k) := by
  have hk32 : k < 32 := by unfold s4 at hk; omega
  have hq := tpk_ap h.2.1 hl
  have hle := h.2.1.1
  rw [x_Tape_add_3, if_neg (by omega), byt_u x hk32]
  by_cases z : byt x k = 0
  · have e : ap x k = [] := by unfold ap; rw [if_pos z]
    rw [if_pos (by omega), x_Tape_add_51, kw8 hk, e, List.append_nil]
    exact ⟨w, rfl, h⟩
  · have e : ap x k = [byt x k] := by unfold ap; rw [if_neg z]
    rw [e] at hl hq ⊢
    rw [List.length_append, List.length_singleton] at hl
    rw [if_neg (by omega), h.1, if_neg (by omega), if_pos ⟨by omega, by omega⟩, x_Tape_add_51, kw8 hk, ww1 (by omega), Int.toNat_natCast]
    refine ⟨_, rfl, ?_, hq, fun j hj => ?_⟩
    · rw [up_in, List.length_append, List.length_singleton]
    · rw [List.length_append, List.length_singleton] at hj
      rw [up_out (Or.inl (by decide))]
      by_cases y : j = tp.length
      · rw [y, up_in, getD_ae]
      · rw [up_out (Or.inr y), getD_ap (by omega)]
        exact h.2.2 j (by omega)
theorem mad1 {f k : Nat} (hk : s4 k) {x : Int} (h : MT w tp) (hl : (tp ++ ap x k).length ≤ 160) : ∃ w', m_put_3 N (f + 1) x k w = m_put_3 N f x ((k : Int) - 8) w' ∧ MT w' (tp ++ ap x k) := by
  have hq := tpk_ap h.2.1 hl
  have hle := h.2.1.1
  have hbl := byt_lt x k
  rw [m_put_3, if_neg (by omega), byt_s x hk, byt_b x hk]
  by_cases z : byt x k = 0
  · have e : ap x k = [] := by unfold ap; rw [if_pos z]
    rw [if_pos (by omega), m_put_43, kw8 hk, e, List.append_nil]
    exact ⟨w, rfl, h⟩
  · have e : ap x k = [byt x k] := by unfold ap; rw [if_neg z]
    rw [e] at hl hq ⊢
    rw [List.length_append, List.length_singleton] at hl
    rw [if_neg (by omega), h.1, if_pos ⟨by omega, by omega⟩, if_pos (sg_rng hbl), m_put_43, kw8 hk, ww1 (by omega), Int.toNat_natCast]
    refine ⟨_, rfl, ?_, hq, fun j hj => ?_⟩
    · rw [up_in, List.length_append, List.length_singleton]
    · rw [List.length_append, List.length_singleton] at hj
      rw [up_out (Or.inl (by decide))]
      by_cases y : j = tp.length
      · rw [y, up_in, getD_ae]
      · rw [up_out (Or.inr y), getD_ap (by omega)]
        exact h.2.2 j (by omega)
theorem X_tadd (hN : 10 ≤ N) {x : Int} (h : XT w tp) (hl : (tp ++ bys x).length ≤ 160) : ∃ w', x_Tape_add N x w = some w' ∧ XT w' (tp ++ bys x) := by
  obtain ⟨M, rfl⟩ : ∃ M, N = M + 5 := ⟨N - 5, by omega⟩
  have e : tp ++ bys x = (((tp ++ ap x 24) ++ ap x 16) ++ ap x 8) ++ ap x 0 := by unfold bys; simp only [List.append_assoc]
  rw [e] at hl ⊢
  have l3 : (((tp ++ ap x 24) ++ ap x 16) ++ ap x 8).length ≤ 160 := by rw [List.length_append] at hl; omega
  have l2 : ((tp ++ ap x 24) ++ ap x 16).length ≤ 160 := by rw [List.length_append] at l3; omega
  have l1 : (tp ++ ap x 24).length ≤ 160 := by rw [List.length_append] at l2; omega
  obtain ⟨w1, e1, h1⟩ := xad1 (N := M + 5) (f := M + 4) (k := 24) (by unfold s4; omega) h l1
  obtain ⟨w2, e2, h2⟩ := xad1 (N := M + 5) (f := M + 3) (k := 16) (by unfold s4; omega) h1 l2
  obtain ⟨w3, e3, h3⟩ := xad1 (N := M + 5) (f := M + 2) (k := 8) (by unfold s4; omega) h2 l3
  obtain ⟨w4, e4, h4⟩ := xad1 (N := M + 5) (f := M + 1) (k := 0) (by unfold s4; omega) h3 hl
  refine ⟨w4, ?_, h4⟩
  rw [x_Tape_add]
  refine Eq.trans e1 (Eq.trans e2 (Eq.trans e3 (Eq.trans e4 ?_)))
  rw [x_Tape_add_3, if_pos (by decide)]
  rfl
theorem M_put (hN : 10 ≤ N) {x : Int} (h : MT w tp) (hl : (tp ++ bys x).length ≤ 160) : ∃ w', m_put N x w = some w' ∧ MT w' (tp ++ bys x) := by
  obtain ⟨M, rfl⟩ : ∃ M, N = M + 5 := ⟨N - 5, by omega⟩
  have e : tp ++ bys x = (((tp ++ ap x 24) ++ ap x 16) ++ ap x 8) ++ ap x 0 := by unfold bys; simp only [List.append_assoc]
  rw [e] at hl ⊢
  have l3 : (((tp ++ ap x 24) ++ ap x 16) ++ ap x 8).length ≤ 160 := by rw [List.length_append] at hl; omega
  have l2 : ((tp ++ ap x 24) ++ ap x 16).length ≤ 160 := by rw [List.length_append] at l3; omega
  have l1 : (tp ++ ap x 24).length ≤ 160 := by rw [List.length_append] at l2; omega
  obtain ⟨w1, e1, h1⟩ := mad1 (N := M + 5) (f := M + 4) (k := 24) (by unfold s4; omega) h l1
  obtain ⟨w2, e2, h2⟩ := mad1 (N := M + 5) (f := M + 3) (k := 16) (by unfold s4; omega) h1 l2
  obtain ⟨w3, e3, h3⟩ := mad1 (N := M + 5) (f := M + 2) (k := 8) (by unfold s4; omega) h2 l3
  obtain ⟨w4, e4, h4⟩ := mad1 (N := M + 5) (f := M + 1) (k := 0) (by unfold s4; omega) h3 hl
  refine ⟨w4, ?_, h4⟩
  rw [m_put]
  refine Eq.trans e1 (Eq.trans e2 (Eq.trans e3 (Eq.trans e4 ?_)))
  rw [m_put_3, if_pos (by decide)]
  rfl
theorem xfi1 {f k : Nat} (hk : s4 k) {x : Int} {q : Nat} (hq : q < 100) : x_Tape_filled_5 N (f + 1) x q k w = x_Tape_filled_5 N f x ((q + (ap x k).length : Nat) : Int) ((k : Int) - 8) w := by
  have hk32 : k < 32 := by unfold s4 at hk; omega
  rw [x_Tape_filled_5, if_neg (by omega), byt_u x hk32]
  unfold ap
  by_cases z : byt x k = 0
  · rw [if_pos (by omega), if_pos z, x_Tape_filled_22, kw8 hk]
    rfl
  · rw [if_neg (by omega), if_neg z, x_Tape_filled_22, kw8 hk, ww1 (by omega)]
    rfl
theorem mfi1 {f k : Nat} (hk : s4 k) {x : Int} {q : Nat} (hq : q < 100) : m_bytesIn_5 N (f + 1) x q k w = m_bytesIn_5 N f x ((q + (ap x k).length : Nat) : Int) ((k : Int) - 8) w := by
  rw [m_bytesIn_5, if_neg (by omega), byt_s x hk]
  unfold ap
  by_cases z : byt x k = 0
  · rw [if_pos (by omega), if_pos z, m_bytesIn_25, kw8 hk, ww (x := (q : Int) + 0) (by omega) (by omega), Int.add_zero]
    rfl
  · rw [if_neg (by omega), if_neg z, m_bytesIn_25, kw8 hk, ww1 (by omega)]
    rfl
theorem X_filled (hN : 10 ≤ N) {x : Int} : x_Tape_filled N x w = some (((bys x).length : Int), w) := by
  obtain ⟨M, rfl⟩ : ∃ M, N = M + 5 := ⟨N - 5, by omega⟩
  have h1 := ap_len x 24
  have h2 := ap_len x 16
  have h3 := ap_len x 8
  have h4 := ap_len x 0
  rw [x_Tape_filled]
  refine Eq.trans (xfi1 (N := M + 5) (f := M + 4) (k := 24) (q := 0) (by unfold s4; omega) (by omega)) ?_
  refine Eq.trans (xfi1 (N := M + 5) (f := M + 3) (k := 16) (by unfold s4; omega) (by omega)) ?_
  refine Eq.trans (xfi1 (N := M + 5) (f := M + 2) (k := 8) (by unfold s4; omega) (by omega)) ?_
  refine Eq.trans (xfi1 (N := M + 5) (f := M + 1) (k := 0) (by unfold s4; omega) (by omega)) ?_
  rw [x_Tape_filled_5, if_pos (by decide), x_Tape_filled_28]
  unfold bys
  simp only [List.length_append, Nat.zero_add, Nat.add_assoc]
theorem M_bytesIn (hN : 10 ≤ N) {x : Int} : m_bytesIn N x w = some (((bys x).length : Int), w) := by
  obtain ⟨M, rfl⟩ : ∃ M, N = M + 5 := ⟨N - 5, by omega⟩
  have h1 := ap_len x 24
  have h2 := ap_len x 16
  have h3 := ap_len x 8
  have h4 := ap_len x 0
  rw [m_bytesIn]
  refine Eq.trans (mfi1 (N := M + 5) (f := M + 4) (k := 24) (q := 0) (by unfold s4; omega) (by omega)) ?_
  refine Eq.trans (mfi1 (N := M + 5) (f := M + 3) (k := 16) (by unfold s4; omega) (by omega)) ?_
  refine Eq.trans (mfi1 (N := M + 5) (f := M + 2) (k := 8) (by unfold s4; omega) (by omega)) ?_
  refine Eq.trans (mfi1 (N := M + 5) (f := M + 1) (k := 0) (by unfold s4; omega) (by omega)) ?_
  rw [m_bytesIn_5, if_pos (by decide), m_bytesIn_33]
  unfold bys
  simp only [List.length_append, Nat.zero_add, Nat.add_assoc]
def fdt (tp : List Nat) (x1 x2 x3 x4 x5 : Int) : List Nat := ((((tp ++ bys x1) ++ bys x2) ++ bys x3) ++ bys x4) ++ bys x5
def a_feed (tp : List Nat) (x1 x2 x3 x4 x5 : Int) : Int := if (fdt tp x1 x2 x3 x4 x5).length ≤ 160 then ((fdt tp x1 x2 x3 x4 x5).length : Int) else -1
def tpf (tp : List Nat) (x1 x2 x3 x4 x5 : Int) : List Nat := if (fdt tp x1 x2 x3 x4 x5).length ≤ 160 then fdt tp x1 x2 x3 x4 x5 else tp
theorem fdt_len (tp : List Nat) (x1 x2 x3 x4 x5 : Int) : (fdt tp x1 x2 x3 x4 x5).length = tp.length + (bys x1).length + (bys x2).length + (bys x3).length + (bys x4).length + (bys x5).length := by
  unfold fdt
  simp only [List.length_append]
theorem X_feed (hN : 10 ≤ N) (h : XT w tp) {x1 x2 x3 x4 x5 : Int} : ∃ w', x_feed N x1 x2 x3 x4 x5 w = some (a_feed tp x1 x2 x3 x4 x5, w') ∧ XT w' (tpf tp x1 x2 x3 x4 x5) := by
  have hl := h.2.1.1
  have b1 := bys_len x1
  have b2 := bys_len x2
  have b3 := bys_len x3
  have b4 := bys_len x4
  have b5 := bys_len x5
  have el := fdt_len tp x1 x2 x3 x4 x5
  rw [x_feed, X_filled hN, b2_some, X_filled hN, b2_some, X_filled hN, b2_some, X_filled hN, b2_some, X_filled hN, b2_some, h.1, ww (x := ((bys x1).length : Int) + ((bys x2).length : Int)) (by omega) (by omega), ww (x := ((bys x1).length : Int) + ((bys x2).length : Int) + ((bys x3).length : Int)) (by omega) (by omega), ww (x := ((bys x1).length : Int) + ((bys x2).length : Int) + ((bys x3).length : Int) + ((bys x4).length : Int)) (by omega) (by omega), ww (x := ((bys x1).length : Int) + ((bys x2).length : Int) + ((bys x3).length : Int) + ((bys x4).length : Int) + ((bys x5).length : Int)) (by omega) (by omega), ww (x := (tp.length : Int) + (((bys x1).length : Int) + ((bys x2).length : Int) + ((bys x3).length : Int) + ((bys x4).length : Int) + ((bys x5).length : Int))) (by omega) (by omega)]
  unfold a_feed tpf
  by_cases c : (fdt tp x1 x2 x3 x4 x5).length ≤ 160
  · rw [if_pos (by omega), if_pos c, if_pos c]
    obtain ⟨w1, e1, h1⟩ := X_tadd (N := N) hN (x := x1) h (by rw [List.length_append]; omega)
    obtain ⟨w2, e2, h2⟩ := X_tadd (N := N) hN (x := x2) h1 (by rw [List.length_append, List.length_append]; omega)
    obtain ⟨w3, e3, h3⟩ := X_tadd (N := N) hN (x := x3) h2 (by rw [List.length_append, List.length_append, List.length_append]; omega)
    obtain ⟨w4, e4, h4⟩ := X_tadd (N := N) hN (x := x4) h3 (by rw [List.length_append, List.length_append, List.length_append, List.length_append]; omega)
    obtain ⟨w5, e5, h5⟩ := X_tadd (N := N) hN (x := x5) h4 c
    rw [e1, b1_some, e2, b1_some, e3, b1_some, e4, b1_some, e5, b1_some, h5.1]
    exact ⟨w5, rfl, h5⟩
  · rw [if_neg (by omega), if_neg c, if_neg c]
    exact ⟨w, rfl, h⟩
theorem M_feed (hN : 10 ≤ N) (h : MT w tp) {x1 x2 x3 x4 x5 : Int} : ∃ w', m_feed N x1 x2 x3 x4 x5 w = some (a_feed tp x1 x2 x3 x4 x5, w') ∧ MT w' (tpf tp x1 x2 x3 x4 x5) := by
  have hl := h.2.1.1
  have b1 := bys_len x1
  have b2 := bys_len x2
  have b3 := bys_len x3
  have b4 := bys_len x4
  have b5 := bys_len x5
  have el := fdt_len tp x1 x2 x3 x4 x5
  rw [m_feed, M_bytesIn hN, b2_some, M_bytesIn hN, b2_some, M_bytesIn hN, b2_some, M_bytesIn hN, b2_some, M_bytesIn hN, b2_some, h.1, ww (x := (tp.length : Int) + ((bys x1).length : Int)) (by omega) (by omega), ww (x := (tp.length : Int) + ((bys x1).length : Int) + ((bys x2).length : Int)) (by omega) (by omega), ww (x := (tp.length : Int) + ((bys x1).length : Int) + ((bys x2).length : Int) + ((bys x3).length : Int)) (by omega) (by omega), ww (x := (tp.length : Int) + ((bys x1).length : Int) + ((bys x2).length : Int) + ((bys x3).length : Int) + ((bys x4).length : Int)) (by omega) (by omega), ww (x := (tp.length : Int) + ((bys x1).length : Int) + ((bys x2).length : Int) + ((bys x3).length : Int) + ((bys x4).length : Int) + ((bys x5).length : Int)) (by omega) (by omega)]
  unfold a_feed tpf
  by_cases c : (fdt tp x1 x2 x3 x4 x5).length ≤ 160
  · rw [if_pos (by omega), if_pos c, if_pos c]
    obtain ⟨w1, e1, h1⟩ := M_put (N := N) hN (x := x1) h.th (by rw [List.length_append]; omega)
    obtain ⟨w2, e2, h2⟩ := M_put (N := N) hN (x := x2) h1 (by rw [List.length_append, List.length_append]; omega)
    obtain ⟨w3, e3, h3⟩ := M_put (N := N) hN (x := x3) h2 (by rw [List.length_append, List.length_append, List.length_append]; omega)
    obtain ⟨w4, e4, h4⟩ := M_put (N := N) hN (x := x4) h3 (by rw [List.length_append, List.length_append, List.length_append, List.length_append]; omega)
    obtain ⟨w5, e5, h5⟩ := M_put (N := N) hN (x := x5) h4 c
    rw [e1, b1_some, e2, b1_some, e3, b1_some, e4, b1_some, e5, b1_some, h5.1]
    exact ⟨w5, rfl, h5⟩
  · rw [if_neg (by omega), if_neg c, if_neg c]
    exact ⟨_, rfl, h.th⟩
/-! end -/
def eok (tp : List Nat) (x : Int) : Bool := decide (0 ≤ x) && decide (x ≤ (tp.length : Int))
def tpe (tp : List Nat) (x : Int) : List Nat := if eok tp x then tp.take x.toNat else tp
theorem tpk_take (h : tpk tp) (q : Nat) : tpk (tp.take q) := ⟨by rw [List.length_take]; have := h.1; omega, fun b hb => h.2 b (List.mem_of_mem_take hb)⟩
theorem eok_iff {x : Int} : eok tp x = true ↔ 0 ≤ x ∧ x ≤ (tp.length : Int) := by
  unfold eok
  rw [Bool.and_eq_true, decide_eq_true_eq, decide_eq_true_eq]
theorem eok_no {x : Int} (h : ¬ (0 ≤ x ∧ x ≤ (tp.length : Int))) : eok tp x = false := by
  rw [Bool.eq_false_iff]
  exact fun q => h (eok_iff.mp q)
theorem getD_tk {j q : Nat} (hj : j < q) : (tp.take q).getD j 0 = tp.getD j 0 := by
  rw [List.getD_eq_getElem?_getD, List.getD_eq_getElem?_getD, List.getElem?_take_of_lt hj]
theorem X_end (h : XT w tp) {x : Int} : ∃ w', x_end N x w = some (b2i (eok tp x), w') ∧ XT w' (tpe tp x) := by
  unfold tpe
  rw [x_end, h.1]
  by_cases c1 : x < 0
  · rw [if_pos c1, eok_no (by omega), if_neg (by decide)]; exact ⟨w, rfl, h⟩
  · rw [if_neg c1]
    by_cases c2 : x ≤ (tp.length : Int)
    · obtain ⟨q, rfl⟩ : ∃ q : Nat, x = q := ⟨x.toNat, by omega⟩
      have hl : (tp.take q).length = q := by rw [List.length_take]; omega
      rw [if_pos c2, eok_iff.mpr ⟨by omega, c2⟩, if_pos rfl, Int.toNat_natCast]
      refine ⟨_, rfl, by rw [up_in, hl], tpk_take h.2.1 q, fun j hj => ?_⟩
      rw [hl] at hj
      rw [up_out (Or.inl (by decide)), getD_tk hj]
      exact h.2.2 j (by omega)
    · rw [if_neg c2, eok_no (by omega), if_neg (by decide)]; exact ⟨w, rfl, h⟩
theorem M_end (h : MT w tp) {x : Int} : ∃ w', m_end N x w = some (b2i (eok tp x), w') ∧ MT w' (tpe tp x) := by
  unfold tpe
  rw [m_end, h.1]
  by_cases c1 : x < 0
  · rw [if_pos c1, eok_no (by omega), if_neg (by decide)]; exact ⟨_, rfl, h.th⟩
  · rw [if_neg c1]
    by_cases c2 : x ≤ (tp.length : Int)
    · obtain ⟨q, rfl⟩ : ∃ q : Nat, x = q := ⟨x.toNat, by omega⟩
      have hl : (tp.take q).length = q := by rw [List.length_take]; omega
      rw [if_pos c2, eok_iff.mpr ⟨by omega, c2⟩, if_pos rfl, Int.toNat_natCast]
      refine ⟨_, rfl, by rw [up_in, hl], tpk_take h.2.1 q, fun j hj => ?_⟩
      rw [hl] at hj
      rw [up_out (Or.inl (by decide)), up_out (Or.inl (by decide)), getD_tk hj]
      exact h.2.2 j (by omega)
    · rw [if_neg c2, eok_no (by omega), if_neg (by decide)]; exact ⟨_, rfl, h.th⟩
end TP
