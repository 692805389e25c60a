/-! ===== pure: all rows by their numbers; voids ===== -/
def bq (r n : Nat) : Nat → Int := fun k => if k < n then (dg r n k : Int) else 0
def vq (r n mo s : Nat) : Bool := (List.range n).all (fun j => decide (j < s) || decide (dg r n j ≤ mo))
theorem vq_iff {r n mo s : Nat} : vq r n mo s = true ↔ ∀ j, s ≤ j → j < n → dg r n j ≤ mo := by
  unfold vq
  rw [List.all_eq_true]
  constructor
  · intro h j h1 h2
    have := h j (List.mem_range.mpr h2)
    simp at this
    omega
  · intro h j hj
    have := List.mem_range.mp hj
    simp
    by_cases c : j < s
    · exact Or.inl c
    · exact Or.inr (h j (by omega) this)
theorem bq_bd (r n : Nat) : bd n (bq r n) := by
  intro k hk
  have := dg_lt r n k
  unfold bq
  rw [if_pos hk]
  omega
theorem rng_split (a m : Nat) : ∀ c, List.range' a (c * m) = (List.range c).flatMap (fun v : Nat => List.range' (a + v * m) m)
  | 0 => by simp
  | c + 1 => by
    rw [Nat.succ_mul, List.range_succ, List.flatMap_append, ← rng_split a m c]
    simp only [List.flatMap_cons, List.flatMap_nil, List.append_nil]
    rw [List.range'_append_1]
theorem fmap_cong {α β : Type} {f g : α → List β} : ∀ {l : List α}, (∀ x ∈ l, f x = g x) → l.flatMap f = l.flatMap g
  | [], _ => rfl
  | a :: l, h => by rw [List.flatMap_cons, List.flatMap_cons, h a (List.mem_cons_self ..), fmap_cong (fun x hx => h x (List.mem_cons_of_mem _ hx))]
theorem upb_bq {q s v : Nat} (hv : v < 10) : upb (bq q s) s (v : Int) = bq (10 * q + v) (s + 1) := by
  funext j
  unfold upb bq
  by_cases e : j = s
  · subst e
    rw [if_pos rfl, if_pos (by omega)]
    unfold dg
    rw [show j + 1 - 1 - j = 0 by omega, Nat.pow_zero, Nat.div_one]
    omega
  · rw [if_neg e]
    by_cases c : j < s
    · rw [if_pos c, if_pos (by omega)]
      unfold dg
      rw [show s + 1 - 1 - j = (s - 1 - j) + 1 by omega, Nat.pow_succ, Nat.mul_comm (10 ^ (s - 1 - j)) 10, ← Nat.div_div_eq_div_mul, show (10 * q + v) / 10 = q by omega]
    · rw [if_neg c, if_neg (by omega)]
theorem rws_rows {p : Nat → Bool} {mo n : Nat} (hmo : mo ≤ 9) (hp : ∀ j, j < n → p j = true) : ∀ (k s q : Nat), s + k = n → rws p mo k s (bq q s) = ((List.range' (q * 10 ^ k) (10 ^ k)).filter (fun r => vq r n mo s)).map (fun r => bq r n)
  | 0, s, q, hs => by
    have es : s = n := by omega
    subst es
    have hv : vq q s mo s = true := vq_iff.mpr (fun j h1 h2 => by omega)
    simp [rws, hv]
  | k + 1, s, q, hs => by
    rw [rws_s, if_pos (hp s (by omega))]
    have ih : ∀ v : Nat, v < 10 → rws p mo k (s + 1) (upb (bq q s) s (v : Int)) = ((List.range' ((10 * q + v) * 10 ^ k) (10 ^ k)).filter (fun r => vq r n mo (s + 1))).map (fun r => bq r n) := by
      intro v hv
      rw [upb_bq hv]
      exact rws_rows hmo hp k (s + 1) (10 * q + v) (by omega)
    -- a block of rows that have v at the place s
    have blk : ∀ v : Nat, v < 10 → (List.range' (q * 10 ^ (k + 1) + v * 10 ^ k) (10 ^ k)).filter (fun r => vq r n mo s) = if v ≤ mo then (List.range' ((10 * q + v) * 10 ^ k) (10 ^ k)).filter (fun r => vq r n mo (s + 1)) else [] := by
      intro v hv
      have e0 : q * 10 ^ (k + 1) + v * 10 ^ k = (10 * q + v) * 10 ^ k := by rw [Nat.pow_succ, Nat.add_mul, ← Nat.mul_assoc, Nat.mul_comm (q * 10 ^ k) 10, Nat.mul_assoc]
      rw [e0]
      have dgs : ∀ r, r ∈ List.range' ((10 * q + v) * 10 ^ k) (10 ^ k) → dg r n s = v := by
        intro r hr
        rw [List.mem_range'_1] at hr
        unfold dg
        rw [show n - 1 - s = k by omega]
        have : r / 10 ^ k = 10 * q + v := by
          have h10 : 0 < 10 ^ k := Nat.pos_of_ne_zero (by simp)
          rw [Nat.div_eq_iff h10]
          omega
        rw [this]
        omega
      by_cases c : v ≤ mo
      · rw [if_pos c]
        refine List.filter_congr (fun r hr => ?_)
        have hd := dgs r hr
        rw [Bool.eq_iff_iff, vq_iff, vq_iff]
        constructor
        · intro h j h1 h2
          exact h j (by omega) h2
        · intro h j h1 h2
          by_cases e : j = s
          · subst e; rw [hd]; exact c
          · exact h j (by omega) h2
      · rw [if_neg c, List.filter_eq_nil_iff]
        intro r hr hvq
        have := vq_iff.mp hvq s (Nat.le_refl _) (by omega)
        rw [dgs r hr] at this
        exact c this
    have e10 : (10 : Nat) ^ (k + 1) = 10 * 10 ^ k := by rw [Nat.pow_succ, Nat.mul_comm]
    conv => rhs; rw [show List.range' (q * 10 ^ (k + 1)) (10 ^ (k + 1)) = List.range' (q * 10 ^ (k + 1)) (10 * 10 ^ k) by rw [← e10]]
    rw [rng_split, List.filter_flatMap, List.map_flatMap]
    have sp : List.range 10 = List.range (mo + 1) ++ List.range' (mo + 1) (9 - mo) := by
      rw [List.range_eq_range', List.range_eq_range', show (10 : Nat) = (mo + 1) + (9 - mo) by omega]
      have := List.range'_append_1 (s := 0) (m := mo + 1) (n := 9 - mo)
      rw [Nat.zero_add] at this
      rw [← this]
    rw [sp, List.flatMap_append]
    have z2 : (List.range' (mo + 1) (9 - mo)).flatMap (fun v => ((List.range' (q * 10 ^ (k + 1) + v * 10 ^ k) (10 ^ k)).filter (fun r => vq r n mo s)).map (fun r => bq r n)) = [] := by
      rw [List.flatMap_eq_nil_iff]
      intro v hv
      rw [List.mem_range'_1] at hv
      rw [blk v (by omega), if_neg (by omega)]
      rfl
    rw [z2, List.append_nil]
    refine fmap_cong (fun v hv => ?_)
    rw [List.mem_range] at hv
    rw [ih v (by omega), blk v (by omega), if_pos (by omega)]
/-- the rows that may be taken, rising -/
def rls (n mo : Nat) : List Nat := (List.range (10 ^ n)).filter (fun r => vr r n mo)
theorem rws_all {p : Nat → Bool} {mo n : Nat} (hmo : mo ≤ 9) (hp : ∀ j, j < n → p j = true) {b : Nat → Int} (hb : ∀ j, n ≤ j → b j = 0) : rws p mo n 0 b = (rls n mo).map (fun r => bq r n) := by
  have e0 : bq 0 0 = fun _ => 0 := by funext k; unfold bq; rw [if_neg (by omega)]
  have h1 : rws p mo n 0 b = rws p mo n 0 (bq 0 0) := by
    refine rws_cong (n := n) (by omega) (fun j hj => ?_)
    rw [e0]
    by_cases c : j < n
    · have := hj (Nat.zero_le _) c
      rw [hp j c] at this
      cases this
    · exact hb j (by omega)
  rw [h1, rws_rows hmo hp n 0 0 (by omega), Nat.zero_mul, ← List.range_eq_range']
  unfold rls
  congr 1
  refine List.filter_congr (fun r hr => ?_)
  rw [List.mem_range] at hr
  rw [Bool.eq_iff_iff, vq_iff, vr_iff]
  exact ⟨fun h => ⟨Nat.div_eq_of_lt hr, fun s hs => h s (Nat.zero_le _) hs⟩, fun h j _ h2 => h.2 j h2⟩
theorem rls_step {n mo r : Nat} (hr : r < 10 ^ n) : (List.range' r (10 ^ n - r)).filter (fun r => vr r n mo) = if vr r n mo = true then r :: (List.range' (r + 1) (10 ^ n - (r + 1))).filter (fun r => vr r n mo) else (List.range' (r + 1) (10 ^ n - (r + 1))).filter (fun r => vr r n mo) := by
  rw [show 10 ^ n - r = (10 ^ n - (r + 1)) + 1 by omega, List.range'_succ, List.filter_cons]
section VO
variable {N : Nat} {w : aw_W} {n : Nat} {lw it b : Nat → Int}
def vst (n : Nat) (lw : Nat → Int) (c : Int) (b : Nat → Int) : Int := aw_w (c + b2i (decide (hd n lw b = -1)))
theorem xvo_l (hN : 10 ≤ N) (hn : n ≠ 0) {rows : Nat} (hr : rows ≤ 1000000) : ∀ (m f i : Nat) (w : aw_W) (b : Nat → Int) (acc : Int), m < f → i + m = rows → XL w n lw it → bd n b → (∀ k, k < n → w 21 k = b k) → ∃ w', x_Replies_rowsOfNobody_33 N f acc rows i w = some ((its (2 ^ n - 1).testBit (lw 4) n m b).foldl (vst n lw) acc, w') := by
  intro m
  induction m with
  | zero =>
    intro f i w b acc hf hi h hbd hb
    obtain ⟨f, rfl⟩ : ∃ g, f = g + 1 := ⟨f - 1, by omega⟩
    rw [x_Replies_rowsOfNobody_33, if_pos (by omega)]
    exact ⟨w, rfl⟩
  | succ m ih =>
    intro f i w b acc hf hi h hbd hb
    obtain ⟨f, rfl⟩ : ∃ g, f = g + 1 := ⟨f - 1, by omega⟩
    have hn6 := h.2.1
    have al := all_n n hn6
    have h9 := (h.2.2.2.2.2 hn).1.2.2.2.2
    obtain ⟨w2, e2, h2, b2, s3, s4, s5, s6, ss, f2⟩ := X_settle (N := N) hN h hn hb
    rw [x_Replies_rowsOfNobody_33, if_neg (by omega), e2, b1_some, s3]
    have cm : (if hd n lw b = -1 then x_Replies_rowsOfNobody_62 N (x_Replies_rowsOfNobody_33 N f) rows i 1 acc w2 else x_Replies_rowsOfNobody_62 N (x_Replies_rowsOfNobody_33 N f) rows i 0 acc w2) = x_Replies_rowsOfNobody_62 N (x_Replies_rowsOfNobody_33 N f) rows i (b2i (decide (hd n lw b = -1))) acc w2 := by
      unfold b2i
      by_cases z : hd n lw b = -1
      · rw [if_pos z, if_pos (decide_eq_true z)]
      · rw [if_neg z, if_neg (by simpa using z)]
    obtain ⟨w5, e5, h5, b5, f5⟩ := X_next (N := N) hN h2 hbd b2 al.2.1
    rw [cm, x_Replies_rowsOfNobody_62, X_all h2, b2_some, e5, b1_some, ww1 (by omega)]
    exact ih f (i + 1) w5 _ _ (by omega) (by omega) h5 (nx_bd h9 (Nat.le_refl _) hbd) b5
def vds (n : Nat) (lw : Nat → Int) : Int := (rls n (lw 4).toNat).foldl (fun c r => vst n lw c (bq r n)) 0
def a_voids (n : Nat) (lw : Nat → Int) : Int := if few n = false then -1 else vds n lw
def cz (n : Nat) (b : Nat → Int) : Nat → Int := fun k => if k < n then b k else 0
theorem X_voids (hN : 10000000 ≤ N) (h : XL w n lw it) : ∃ w', x_voids N w = some (a_voids n lw, w') := by
  unfold a_voids
  rw [x_voids, X_isSmall h, b2_some]
  cases hf : few n with
  | false => rw [if_pos (by rfl), if_pos rfl]; exact ⟨w, rfl⟩
  | true =>
    have hn := few_n hf
    have hn6 := h.2.1
    have al := all_n n hn6
    have pn := pow_n n hn6
    have h9 := (h.2.2.2.2.2 (by omega)).1.2.2.2.2
    rw [if_neg (by decide), if_neg (by simp), x_Replies_rowsOfNobody, X_all h, b2_some]
    obtain ⟨w1, e1, h1, b1, f1⟩ := X_lowest (N := N) (b := fun k => w 21 k) (by omega) h (fun _ _ => rfl) al.2.1
    rw [e1, b1_some, X_all h1, b2_some, X_rowsOf (by omega) h1 (by omega) (show 2 ^ n - 1 < 2 ^ n by omega), b2_some]
    have hl := lenr_le (p := (2 ^ n - 1).testBit) (mo := (lw 4).toNat) (n := n) (by omega) hn6
    have hz : ∀ k, k < n → w1 21 k = zr (2 ^ n - 1).testBit n (fun _ => 0) k := by
      intro k hk
      rw [b1 k hk]
      unfold zr
      rw [if_pos ⟨al.2.2 k hk, hk⟩, if_pos ⟨al.2.2 k hk, hk⟩]
    obtain ⟨w3, e3⟩ := xvo_l (N := N) (it := it) (by omega) (show n ≠ 0 by omega) hl.2 _ N 0 w1 _ 0 (by omega) (Nat.zero_add _) h1 (zr_bd (fun _ _ => ⟨Int.le_refl _, by decide⟩)) hz
    have em : lw 4 = ((lw 4).toNat : Int) := by omega
    have ei := its_all (p := (2 ^ n - 1).testBit) (mo := (lw 4).toNat) (n := n) (b := fun _ => (0 : Int))
    rw [← em] at ei
    rw [ei, rws_all (by omega) al.2.2 (fun _ _ => rfl), List.foldl_map] at e3
    have e3' : x_Replies_rowsOfNobody_33 N N 0 (lenr (2 ^ n - 1).testBit (lw 4).toNat n 0) 0 w1 = some (vds n lw, w3) := e3
    rw [e3', b2_some]
    exact ⟨w3, rfl⟩
theorem p10w {i : Nat} (hi : i ≤ 6) : aw_w ((10 ^ i : Nat) : Int) = ((10 ^ i : Nat) : Int) := by
  have hp : 10 ^ i ≤ 1000000 := p10_6 hi
  generalize 10 ^ i = z at hp ⊢
  rw [ww (by omega) (by omega)]
theorem mrm_l (h : ML w n lw it) : ∀ (f i : Nat), n - i < f → i ≤ n → m_rowMany_4 N f ((10 ^ i : Nat) : Int) i w = some (((10 ^ n : Nat) : Int), w) := by
  intro f
  induction f with
  | zero => intro i hf; omega
  | succ f ih =>
    intro i hf hin
    have hn6 := h.2.1
    rw [m_rowMany_4, h.1]
    by_cases c : (n : Int) ≤ (i : Int)
    · have : i = n := by omega
      subst this
      rw [if_pos c]
      rfl
    · have hp : 10 ^ (i + 1) ≤ 1000000 := p10_6 (by omega)
      have e : ((10 ^ i : Nat) : Int) * 10 = ((10 ^ (i + 1) : Nat) : Int) := by rw [Nat.pow_succ]; simp
      rw [if_neg c, e, p10w (by omega), ww1 (by omega)]
      exact ih (i + 1) (by omega) (by omega)
theorem M_rowMany (hN : 10 ≤ N) (h : ML w n lw it) : m_rowMany N w = some (((10 ^ n : Nat) : Int), w) := by
  have hn6 := h.2.1
  rw [m_rowMany]
  exact mrm_l (N := N) h N 0 (by omega) (Nat.zero_le _)
theorem okr_vr {r : Nat} (hn : n ≠ 0) : okr n lw (r : Int) = vr r n (lw 4).toNat := by
  unfold okr
  rw [decide_eq_true hn, decide_eq_true (show (0 : Int) ≤ (r : Int) by omega), Int.toNat_natCast]
  rfl
theorem bb_bq {r : Nat} {k : Nat} (hk : k < n) : bb (r : Int) n k = bq r n k := by
  unfold bb bq
  rw [if_pos hk, Int.toNat_natCast]
theorem mvo_l (hN : 20 ≤ N) (hn : n ≠ 0) : ∀ (f r : Nat) (w : aw_W) (acc : Int), 10 ^ n - r < f → r ≤ 10 ^ n → ML w n lw it → ∃ w', m_voids_18 N f acc r w = some (((List.range' r (10 ^ n - r)).filter (fun r => vr r n (lw 4).toNat)).foldl (fun c r => vst n lw c (bq r n)) acc, w') := by
  intro f
  induction f with
  | zero => intro r w acc hf; omega
  | succ f ih =>
    intro r w acc hf hr h
    have hn6 := h.2.1
    have hp : 10 ^ n ≤ 1000000 := p10_6 hn6
    rw [m_voids_18, M_rowMany (by omega) h, b2_some]
    by_cases c : ((10 ^ n : Nat) : Int) ≤ (r : Int)
    · rw [if_pos c, show 10 ^ n - r = 0 by omega]
      exact ⟨w, rfl⟩
    · obtain ⟨w1, e1, h1, f1, d1⟩ := M_lay (N := N) (by omega) h hn (x := (r : Int)) (by unfold aw_I; omega)
      rw [if_neg c, e1, b2_some, rls_step (by omega), okr_vr hn]
      cases hv : vr r n (lw 4).toNat with
      | false =>
        rw [if_pos (by rfl), if_neg (by simp), m_voids_57, ww1 (by omega)]
        exact ih (r + 1) w1 acc (by omega) (by omega) h1
      | true =>
        have hb := d1 (by rw [okr_vr hn]; exact hv)
        obtain ⟨w2, e2, h2, b2, wn, fi, pa, f2⟩ := M_judge (N := N) (b := bq r n) (by omega) h1 hn (fun k hk => by rw [hb k hk, bb_bq hk])
        rw [if_neg (by decide), if_pos rfl, e2, b1_some, wn, b2_some, List.foldl_cons]
        have cm : (if hd n lw (bq r n) = -1 then m_voids_55 N (m_voids_18 N f) r 1 acc w2 else m_voids_55 N (m_voids_18 N f) r 0 acc w2) = m_voids_55 N (m_voids_18 N f) r (b2i (decide (hd n lw (bq r n) = -1))) acc w2 := by
          unfold b2i
          by_cases z : hd n lw (bq r n) = -1
          · rw [if_pos z, if_pos (decide_eq_true z)]
          · rw [if_neg z, if_neg (by simpa using z)]
        rw [cm, m_voids_55, m_voids_57, ww1 (by omega)]
        exact ih (r + 1) w2 _ (by omega) (by omega) h2
theorem M_voids (hN : 10000000 ≤ N) (h : ML w n lw it) : ∃ w', m_voids N w = some (a_voids n lw, w') := by
  unfold a_voids
  have h0 : ML (aw_up w 49 0 0) n lw it := h.fr (S := [(49, 0)]) ((fr_r _ w).up rfl) rfl
  rw [m_voids, M_areFew h0, b2_some]
  cases hf : few n with
  | false => rw [if_pos (by rfl), if_pos rfl]; exact ⟨_, rfl⟩
  | true =>
    have hn := few_n hf
    have hp : 10 ^ n ≤ 1000000 := p10_6 h.2.1
    rw [if_neg (by decide), if_neg (by simp)]
    obtain ⟨w1, e1⟩ := mvo_l (N := N) (by omega) (show n ≠ 0 by omega) N 0 _ 0 (by omega) (Nat.zero_le _) h0
    rw [Nat.sub_zero, ← List.range_eq_range'] at e1
    exact ⟨w1, e1⟩
end VO
