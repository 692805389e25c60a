/-! ===== pure: hope, bold; what some could have together ===== -/
def hst (n : Nat) (lw it : Nat → Int) (s : Nat) (acc : Int × Int) (b : Nat → Int) : Int × Int := (aw_w (acc.1 + b2i (decide (hd n lw b = (s : Int)))), aw_w (acc.2 + gn n lw it b s))
theorem sd_fr {S : List (Nat × Nat)} {w v : aw_W} {n : Nat} {b : Nat → Int} (h : sd w n b) (hf : fr_ S w v) (ha : avd S [(17, 1000000), (5, 1000000)] = true) : sd v n b := by
  have r17 : ∀ k, v 17 k = w 17 k := fun k => avd_fr ha hf (fr_inA rfl k)
  have r5 : ∀ k, v 5 k = w 5 k := fun k => avd_fr ha hf (fr_inA rfl k)
  unfold sd at h ⊢
  rw [r17, r17, r17, r17, r5, r5, r5]
  exact h
section HO
variable {N : Nat} {w : aw_W} {n : Nat} {lw it b : Nat → Int}
theorem xag_l (hN : 10 ≤ N) {a : Nat} (ha : a < 64) {s : Nat} (hs : s < n) {rows : Nat} (hr : rows ≤ 1000000) : ∀ (m f i : Nat) (w : aw_W) (b : Nat → Int) (acc : Int × Int), m < f → i + m = rows → XL w n lw it → bd n b → (∀ k, k < n → w 21 k = b k) → w 22 7 = acc.1 → w 22 8 = acc.2 → ∃ w', x_Replies_against_55 N f s a rows i w = some w' ∧ XL w' n lw it ∧ w' 22 7 = ((its a.testBit (lw 4) n m b).foldl (hst n lw it s) acc).1 ∧ w' 22 8 = ((its a.testBit (lw 4) n m b).foldl (hst n lw it s) acc).2 := by
  intro m
  induction m with
  | zero =>
    intro f i w b acc hf hi h hbd hb i1 i2
    obtain ⟨f, rfl⟩ : ∃ g, f = g + 1 := ⟨f - 1, by omega⟩
    rw [x_Replies_against_55, if_pos (by omega)]
    exact ⟨w, rfl, h, i1, i2⟩
  | succ m ih =>
    intro f i w b acc hf hi h hbd hb i1 i2
    obtain ⟨f, rfl⟩ : ∃ g, f = g + 1 := ⟨f - 1, by omega⟩
    have hn : n ≠ 0 := by omega
    have hn6 := h.2.1
    have h9 := (h.2.2.2.2.2 hn).1.2.2.2.2
    obtain ⟨w2, e2, h2, b2, s3, s4, s5, s6, ss, f2⟩ := X_settle (N := N) hN h hn hb
    rw [x_Replies_against_55, if_neg (by omega), e2, b1_some, s3]
    have cm : (if hd n lw b = (s : Int) then x_Replies_against_90 N (x_Replies_against_55 N f) s a rows i 1 (w2 22 7) w2 else x_Replies_against_90 N (x_Replies_against_55 N f) s a rows i 0 (w2 22 7) w2) = x_Replies_against_90 N (x_Replies_against_55 N f) s a rows i (b2i (decide (hd n lw b = (s : Int)))) (w2 22 7) w2 := by
      unfold b2i
      by_cases z : hd n lw b = (s : Int)
      · rw [if_pos z, if_pos (decide_eq_true z)]
      · rw [if_neg z, if_neg (by simpa using z)]
    have r : ∀ k, w2 22 k = w 22 k := fun k => f2 22 k rfl
    rw [cm, x_Replies_against_90, r 7, r 8, i1, i2]
    have F3 : fr_ [(22, 7)] w2 (aw_up w2 22 7 (aw_w (acc.1 + b2i (decide (hd n lw b = (s : Int)))))) := (fr_r _ w2).up rfl
    rw [X_gainOf (h2.fr F3 rfl) hn (fun k hk => by simp [aw_up]; exact b2 k hk) hbd (sd_fr ss F3 rfl) hs, b2_some]
    have F4 : fr_ [(22, 7), (22, 8)] w2 (aw_up (aw_up w2 22 7 (aw_w (acc.1 + b2i (decide (hd n lw b = (s : Int)))))) 22 8 (aw_w (acc.2 + gn n lw it b s))) := ((fr_r _ w2).up rfl).up rfl
    obtain ⟨w5, e5, h5, b5, f5⟩ := X_next (N := N) hN (h2.fr F4 rfl) hbd (fun k hk => by simp [aw_up]; exact b2 k hk) ha
    rw [e5, b1_some, ww1 (by omega)]
    exact ih f (i + 1) w5 _ (hst n lw it s acc b) (by omega) (by omega) h5 (nx_bd h9 (Nat.le_refl _) hbd) b5 (by rw [f5 22 7 rfl]; simp [aw_up, hst]) (by rw [f5 22 8 rfl]; simp [aw_up, hst])
theorem oth_ok : ∀ n : Nat, n ≤ 6 → ∀ s : Nat, s < n → aw_and ((2 ^ n - 1 : Nat) : Int) (aw_xor (aw_shl 1 (s : Int)) (-1)) = ((2 ^ n - 1 - 2 ^ s : Nat) : Int) ∧ 2 ^ n - 1 - 2 ^ s < 2 ^ n ∧ ∀ i, i < n → (2 ^ n - 1 - 2 ^ s).testBit i = !(decide (i = s)) := by decide +kernel
def oth (n s : Nat) : Nat := 2 ^ n - 1 - 2 ^ s
/-- HOPE: how often, how much -/
def hp (n : Nat) (lw it : Nat → Int) (s : Nat) (o : Nat) : Int × Int := (rws (fun i => !(decide (i = s))) (lw 4).toNat n 0 (upb (fun _ => 0) s (o : Int))).foldl (hst n lw it s) (0, 0)
theorem X_against (hN : 10000000 ≤ N) (h : XL w n lw it) (hb : ∀ k, k < n → w 21 k = b k) {s : Nat} (hs : s < n) {o : Nat} (ho : o ≤ 9) : ∃ w', x_Replies_against N s o w = some w' ∧ XL w' n lw it ∧ w' 22 7 = (hp n lw it s o).1 ∧ w' 22 8 = (hp n lw it s o).2 := by
  have hn6 := h.2.1
  have hn : n ≠ 0 := by omega
  have pn := pow_n n hn6
  obtain ⟨o1, o2, o3⟩ := oth_ok n hn6 s hs
  have h9 := (h.2.2.2.2.2 hn).1.2.2.2.2
  have h0 : XL (aw_up (aw_up w 22 7 0) 22 8 0) n lw it := h.fr (S := [(22, 7), (22, 8)]) (((fr_r _ w).up rfl).up rfl) rfl
  rw [x_Replies_against, X_all h0, b2_some, o1]
  obtain ⟨w1, e1, h1, b1, f1⟩ := X_lowest (N := N) (b := b) (by omega) h0 (fun k hk => by simp [aw_up]; exact hb k hk) (a := 2 ^ n - 1 - 2 ^ s) (by omega)
  have h2 : XL (aw_up w1 21 s (o : Int)) n lw it := h1.fr (S := [(21, 1000000)]) ((fr_r _ w1).upA rfl) rfl
  rw [e1, b1_some, if_pos ⟨by omega, by omega⟩, Int.toNat_natCast, X_rowsOf (by omega) h2 hn o2, b2_some]
  -- the lowest row, the others 0, everywhere
  have hz : ∀ k, k < n → (aw_up w1 21 s (o : Int)) 21 k = zr (2 ^ n - 1 - 2 ^ s).testBit n (upb (fun _ => 0) s (o : Int)) k := by
    intro k hk
    unfold zr upb
    by_cases e : k = s
    · subst e
      rw [if_neg (by rw [o3 k hk]; simp)]
      simp [aw_up]
    · rw [if_pos ⟨by rw [o3 k hk]; simp [e], hk⟩]
      simp [aw_up, e]
      rw [b1 k hk]
      unfold zr
      rw [if_pos ⟨by rw [o3 k hk]; simp [e], hk⟩]
  have hbd0 : bd n (upb (fun _ => 0) s (o : Int)) := upb_bd (fun _ _ => ⟨Int.le_refl _, by decide⟩) (by omega)
  have hl := lenr_le (p := (2 ^ n - 1 - 2 ^ s).testBit) (mo := (lw 4).toNat) (n := n) (by omega) hn6
  obtain ⟨w3, e3, h3, g1, g2⟩ := xag_l (N := N) (a := 2 ^ n - 1 - 2 ^ s) (by omega) (by omega) hs hl.2 _ N 0 _ _ (0, 0) (by omega) (Nat.zero_add _) h2 (zr_bd hbd0) hz (by simp [aw_up]; rw [f1 22 7 rfl]; simp [aw_up]) (by simp [aw_up]; rw [f1 22 8 rfl]; simp [aw_up])
  have em : lw 4 = ((lw 4).toNat : Int) := by omega
  have ei := its_all (p := (2 ^ n - 1 - 2 ^ s).testBit) (mo := (lw 4).toNat) (n := n) (b := upb (fun _ => 0) s (o : Int))
  rw [← em] at ei
  rw [ei, rws_congp (n := n) (q := fun i => !(decide (i = s))) (by omega) (fun j _ hj => o3 j hj)] at g1 g2
  exact ⟨w3, e3, h3, g1, g2⟩
/-! the reference's -/
theorem mgh (hN : 20 ≤ N) {who : Nat} (hw : who < n) {mo : Nat} (hmo : lw 4 = mo) (hmo9 : mo ≤ 9) : ∀ (k s D : Nat) (w : aw_W) (b : Nat → Int) (acc : Int × Int), s + k = n → k < D → ML w n lw it → bd n b → (∀ j, j < n → (s ≤ j → j = who) → w 64 j = b j) → w 49 45 = acc.1 → w 49 46 = acc.2 → ∃ w', g_m_goHope N D s who w = some w' ∧ ML w' n lw it ∧ (∀ j, j < n → (s ≤ j → j = who) → w' 64 j = b j) ∧ w' 49 45 = ((rws (fun i => !(decide (i = who))) mo k s b).foldl (hst n lw it who) acc).1 ∧ w' 49 46 = ((rws (fun i => !(decide (i = who))) mo k s b).foldl (hst n lw it who) acc).2 := by
  intro k
  induction k with
  | zero =>
    intro s D w b acc hs hD h hbd hb i1 i2
    obtain ⟨D, rfl⟩ : ∃ g, D = g + 1 := ⟨D - 1, by omega⟩
    have es : s = n := by omega
    subst es
    have hb' : ∀ j, j < s → w 64 j = b j := fun j hj => hb j hj (fun z => by omega)
    obtain ⟨w2, e2, h2, b2, wn, fi, pa, f2⟩ := M_judge (N := N) (by omega) h (by omega) hb'
    show ∃ w', m_goHope_b (g_m_goHope N D) N s who w = some w' ∧ _
    have r : ∀ k, w2 49 k = w 49 k := fun k => f2 49 k rfl
    rw [m_goHope_b, h.1, if_pos rfl, e2, b1_some, wn, b2_some, r 45, i1]
    have cm : (if hd s lw b = (who : Int) then m_goHope_30 (g_m_goHope N D) N who 1 acc.1 w2 else m_goHope_30 (g_m_goHope N D) N who 0 acc.1 w2) = m_goHope_30 (g_m_goHope N D) N who (b2i (decide (hd s lw b = (who : Int)))) acc.1 w2 := by
      unfold b2i
      by_cases z : hd s lw b = (who : Int)
      · rw [if_pos z, if_pos (decide_eq_true z)]
      · rw [if_neg z, if_neg (by simpa using z)]
    rw [cm, m_goHope_30]
    obtain ⟨w3, e3, h3, b3, f3⟩ := M_gainOf (N := N) (by omega) (h2.fr (S := [(49, 45)]) ((fr_r _ w2).up (i := 49) (k := 45) (x := aw_w (acc.1 + b2i (decide (hd s lw b = (who : Int))))) rfl) rfl) (by omega) (b := b) (fun k hk => by simp [aw_up]; exact b2 k hk) hbd hw
    rw [e3, b2_some, r 46, i2]
    refine ⟨_, rfl, h3.fr (S := [(49, 46)]) ((fr_r _ w3).up rfl) rfl, fun j hj _ => by simp [aw_up]; exact b3 j hj, ?_, ?_⟩
    · simp [aw_up]
      rw [f3 49 45 rfl]
      simp [aw_up, rws, hst]
    · simp [aw_up, rws, hst]
  | succ k ih =>
    intro s D w b acc hs hD h hbd hb i1 i2
    obtain ⟨D, rfl⟩ : ∃ g, D = g + 1 := ⟨D - 1, by omega⟩
    have hn6 := h.2.1
    show ∃ w', m_goHope_b (g_m_goHope N D) N s who w = some w' ∧ _
    rw [m_goHope_b, h.1, if_neg (by omega), rws_s]
    by_cases c : s = who
    · have hp : ¬ (!(decide (s = who))) = true := by simp [c]
      rw [if_pos (by omega), ww1 (by omega), if_neg hp]
      obtain ⟨w1, e1, h1, b1, g1, g2⟩ := ih (s + 1) D w b acc (by omega) (by omega) h hbd (fun j hj hj2 => hb j hj (fun z => (Decidable.em (j = s)).elim (fun e => e.trans c) (fun e => hj2 (by omega)))) i1 i2
      rw [e1, b1_some]
      exact ⟨w1, rfl, h1, fun j hj hj2 => b1 j hj (fun z => hj2 (by omega)), g1, g2⟩
    · have hp : (!(decide (s = who))) = true := by simp [c]
      rw [if_neg (by omega), if_pos hp]
      have inner : ∀ (f v : Nat) (w : aw_W) (acc : Int × Int), mo + 1 - v < f → v ≤ mo + 1 → ML w n lw it → (∀ j, j < n → (s ≤ j → j = who) → w 64 j = b j) → w 49 45 = acc.1 → w 49 46 = acc.2 → ∃ w', m_goHope_65 (g_m_goHope N D) N f s who v w = some w' ∧ ML w' n lw it ∧ (∀ j, j < n → (s ≤ j → j = who) → w' 64 j = b j) ∧ w' 49 45 = (((List.range' v (mo + 1 - v)).flatMap (fun v : Nat => rws (fun i => !(decide (i = who))) mo k (s + 1) (upb b s (v : Int)))).foldl (hst n lw it who) acc).1 ∧ w' 49 46 = (((List.range' v (mo + 1 - v)).flatMap (fun v : Nat => rws (fun i => !(decide (i = who))) mo k (s + 1) (upb b s (v : Int)))).foldl (hst n lw it who) acc).2 := by
        intro f
        induction f with
        | zero => intro v w acc h; omega
        | succ f ihf =>
          intro v w acc hf hv h hb i1 i2
          rw [m_goHope_65, h.2.2.2.1 4 (by decide), hmo]
          by_cases cc : (mo : Int) < (v : Int)
          · rw [if_pos cc, show mo + 1 - v = 0 by omega]
            exact ⟨w, rfl, h, hb, i1, i2⟩
          · rw [if_neg cc, if_pos ⟨by omega, by omega⟩, ww1 (by omega), Int.toNat_natCast]
            obtain ⟨w1, e1, h1, b1, g1, g2⟩ := ih (s + 1) D (aw_up w 64 s (v : Int)) (upb b s (v : Int)) acc (by omega) (by omega) (h.fr (S := [(64, 1000000)]) ((fr_r _ w).upA rfl) rfl) (upb_bd hbd (by omega)) (fun j hj hj2 => by
              unfold upb
              by_cases e : j = s
              · rw [if_pos e]; simp [aw_up, e]
              · rw [if_neg e]; simp [aw_up, e]; exact hb j hj (fun z => hj2 (by omega))) (by simp [aw_up]; exact i1) (by simp [aw_up]; exact i2)
            rw [e1, b1_some, ww1 (by omega)]
            obtain ⟨w2, e2, h2, b2, k1, k2⟩ := ihf (v + 1) w1 _ (by omega) (by omega) h1 (fun j hj hj2 => by
              have hne : j ≠ s := fun e => c (by rw [← e]; exact hj2 (by omega))
              rw [b1 j hj (fun z => hj2 (by omega))]
              unfold upb
              rw [if_neg hne]) g1 g2
            refine ⟨w2, e2, h2, b2, ?_, ?_⟩
            · rw [k1, show mo + 1 - v = (mo + 1 - (v + 1)) + 1 by omega, List.range'_succ, List.flatMap_cons, List.foldl_append]
            · rw [k2, show mo + 1 - v = (mo + 1 - (v + 1)) + 1 by omega, List.range'_succ, List.flatMap_cons, List.foldl_append]
      obtain ⟨w1, e1, h1, b1, g1, g2⟩ := inner N 0 w acc (by omega) (by omega) h hb i1 i2
      rw [Nat.sub_zero, ← List.range_eq_range'] at g1 g2
      exact ⟨w1, e1, h1, b1, g1, g2⟩
theorem M_hopes (hN : 20 ≤ N) (h : ML w n lw it) {s : Nat} (hs : s < n) {o : Nat} (ho : o ≤ 9) : ∃ w', m_hopes N s o w = some w' ∧ ML w' n lw it ∧ w' 49 45 = (hp n lw it s o).1 ∧ w' 49 46 = (hp n lw it s o).2 := by
  have hn6 := h.2.1
  have h9 := (h.2.2.2.2.2 (by omega)).1.2.2.2.2
  have hbd0 : bd n (upb (fun _ => 0) s (o : Int)) := upb_bd (fun _ _ => ⟨Int.le_refl _, by decide⟩) (by omega)
  obtain ⟨w1, e1, h1, b1, g1, g2⟩ := mgh (N := N) hN hs (mo := (lw 4).toNat) (by omega) (by omega) n 0 60 (aw_up (aw_up (aw_up w 49 45 0) 49 46 0) 64 s (o : Int)) (upb (fun _ => 0) s (o : Int)) (0, 0) (by omega) (by omega) (h.fr (S := [(49, 45), (49, 46), (64, 1000000)]) ((((fr_r _ w).up rfl).up rfl).upA rfl) rfl) hbd0 (fun j hj hj2 => by
    have e := hj2 (Nat.zero_le _)
    subst e
    unfold upb
    rw [if_pos rfl]
    simp [aw_up]) (by simp [aw_up]) (by simp [aw_up])
  refine ⟨w1, ?_, h1, g1, g2⟩
  have e1' : m_goHope N 0 s (aw_up (aw_up (aw_up w 49 45 0) 49 46 0) 64 s (o : Int)) = some w1 := e1
  rw [m_hopes, if_pos ⟨by omega, by omega⟩, Int.toNat_natCast, e1', b1_some]
def few (n : Nat) : Bool := decide (0 < n) && decide (n ≤ 4)
theorem X_isSmall (h : XL w n lw it) : x_isSmall N w = some (b2i (few n), w) := by
  rw [x_isSmall, h.1]
  unfold few
  by_cases c : n = 0
  · subst c; rfl
  · rw [if_neg (by omega)]
    by_cases d : n ≤ 4
    · rw [if_neg (by omega), decide_eq_true d, decide_eq_true (show 0 < n by omega)]
      rfl
    · rw [if_pos (by omega), decide_eq_false d]
      cases decide (0 < n) <;> rfl
theorem M_areFew (h : ML w n lw it) : m_areFew N w = some (b2i (few n), w) := by
  rw [m_areFew, h.1]
  unfold few
  by_cases c : n = 0
  · subst c; rfl
  · rw [if_neg (by omega)]
    by_cases d : n ≤ 4
    · rw [if_neg (by omega), decide_eq_true d, decide_eq_true (show 0 < n by omega)]
      rfl
    · rw [if_pos (by omega), decide_eq_false d]
      cases decide (0 < n) <;> rfl
theorem b2i_and {a c : Prop} [Decidable a] [Decidable c] : (b2i (decide a && decide c) = 0) ↔ ¬ (a ∧ c) := by
  unfold b2i
  by_cases ha : a <;> by_cases hc : c <;> simp [ha, hc]
theorem b2i_0 {q : Bool} : b2i q = 0 ↔ q = false := by cases q <;> simp [b2i]
def a_hope (n : Nat) (lw it : Nat → Int) (x1 x2 x3 : Int) : Int :=
  if few n = false ∨ ¬ (0 ≤ x1 ∧ x1 < (n : Int)) ∨ ¬ (0 ≤ x2 ∧ x2 ≤ lw 4) ∨ ¬ (0 ≤ x3 ∧ x3 ≤ 1) then -1000000 else if x3 = 0 then (hp n lw it x1.toNat x2.toNat).1 else (hp n lw it x1.toNat x2.toNat).2
theorem few_n {n : Nat} (h : few n = true) : 0 < n ∧ n ≤ 4 := by
  unfold few at h
  simpa using h
theorem X_hope (hN : 10000000 ≤ N) (h : XL w n lw it) {x1 x2 x3 : Int} : ∃ w', x_hope N x1 x2 x3 w = some (a_hope n lw it x1 x2 x3, w') := by
  unfold a_hope
  rw [x_hope, X_isSmall h, b2_some]
  cases hf : few n with
  | false => rw [if_pos (by rfl), if_pos (Or.inl rfl)]; exact ⟨w, rfl⟩
  | true =>
    have hn := few_n hf
    have h9 := (h.2.2.2.2.2 (by omega)).1.2.2.2.2
    rw [if_neg (by decide), xl_holds, b2_some, h.1, h.2.2.2.1 4 (by decide)]
    by_cases c1 : 0 ≤ x1 ∧ x1 < (n : Int)
    · rw [if_neg (fun z => b2i_and.mp z c1)]
      by_cases c2 : 0 ≤ x2 ∧ x2 ≤ lw 4
      · rw [if_neg (by omega), if_neg (by omega)]
        by_cases c3 : 0 ≤ x3 ∧ x3 ≤ 1
        · obtain ⟨s, rfl⟩ : ∃ s : Nat, x1 = s := ⟨x1.toNat, by omega⟩
          obtain ⟨o, rfl⟩ : ∃ s : Nat, x2 = s := ⟨x2.toNat, by omega⟩
          obtain ⟨w1, e1, h1, g1, g2⟩ := X_against (N := N) hN h (b := fun k => w 21 k) (fun _ _ => rfl) (show s < n by omega) (show o ≤ 9 by omega)
          have nn : ¬ (true = false ∨ ¬ (0 ≤ (s : Int) ∧ (s : Int) < (n : Int)) ∨ ¬ (0 ≤ (o : Int) ∧ (o : Int) ≤ lw 4) ∨ ¬ (0 ≤ x3 ∧ x3 ≤ 1)) := fun z => z.elim (fun z => by cases z) (fun z => z.elim (fun z => z c1) (fun z => z.elim (fun z => z c2) (fun z => z c3)))
          rw [if_neg nn, if_neg (by omega), if_pos c3.2, e1, b1_some, g1, g2, Int.toNat_natCast, Int.toNat_natCast]
          by_cases z : x3 = 0
          · rw [if_pos z, if_pos z]; exact ⟨w1, rfl⟩
          · rw [if_neg z, if_neg z]; exact ⟨w1, rfl⟩
        · rw [if_pos (c := _ ∨ _) (Or.inr (Or.inr (Or.inr c3)))]
          by_cases z : x3 < 0
          · rw [if_pos z]; exact ⟨w, rfl⟩
          · rw [if_neg z, if_neg (by omega)]; exact ⟨w, rfl⟩
      · rw [if_pos (c := _ ∨ _) (Or.inr (Or.inr (Or.inl c2)))]
        by_cases z : x2 < 0
        · rw [if_pos z]; exact ⟨w, rfl⟩
        · rw [if_neg z, if_pos (by omega)]; exact ⟨w, rfl⟩
    · rw [if_pos (b2i_and.mpr c1), if_pos (c := _ ∨ _) (Or.inr (Or.inl c1))]
      exact ⟨w, rfl⟩
theorem M_hope (hN : 20 ≤ N) (h : ML w n lw it) {x1 x2 x3 : Int} : ∃ w', m_hope N x1 x2 x3 w = some (a_hope n lw it x1 x2 x3, w') := by
  unfold a_hope
  have h0 : ML (aw_up w 49 0 0) n lw it := h.fr (S := [(49, 0)]) ((fr_r _ w).up rfl) rfl
  rw [m_hope, M_areFew h0, b2_some]
  cases hf : few n with
  | false => rw [if_pos (by rfl), if_pos (Or.inl rfl)]; exact ⟨_, rfl⟩
  | true =>
    have hn := few_n hf
    have h9 := (h.2.2.2.2.2 (by omega)).1.2.2.2.2
    rw [if_neg (by decide), m_isStriver_ok, b2_some, h0.1, h0.2.2.2.1 4 (by decide)]
    by_cases c1 : 0 ≤ x1 ∧ x1 < (n : Int)
    · rw [if_neg (fun z => b2i_and.mp z c1), m_isIn_ok, b2_some]
      by_cases c2 : 0 ≤ x2 ∧ x2 ≤ lw 4
      · rw [if_neg (fun z => b2i_and.mp z c2), m_isIn_ok, b2_some]
        by_cases c3 : 0 ≤ x3 ∧ x3 ≤ 1
        · obtain ⟨s, rfl⟩ : ∃ s : Nat, x1 = s := ⟨x1.toNat, by omega⟩
          obtain ⟨o, rfl⟩ : ∃ s : Nat, x2 = s := ⟨x2.toNat, by omega⟩
          obtain ⟨w1, e1, h1, g1, g2⟩ := M_hopes (N := N) hN h0 (show s < n by omega) (show o ≤ 9 by omega)
          have nn : ¬ (true = false ∨ ¬ (0 ≤ (s : Int) ∧ (s : Int) < (n : Int)) ∨ ¬ (0 ≤ (o : Int) ∧ (o : Int) ≤ lw 4) ∨ ¬ (0 ≤ x3 ∧ x3 ≤ 1)) := fun z => z.elim (fun z => by cases z) (fun z => z.elim (fun z => z c1) (fun z => z.elim (fun z => z c2) (fun z => z c3)))
          rw [if_neg nn, if_neg (fun z => b2i_and.mp z c3), e1, b1_some, g1, g2, Int.toNat_natCast, Int.toNat_natCast]
          by_cases z : x3 = 0
          · rw [if_pos z, if_pos z]; exact ⟨w1, rfl⟩
          · rw [if_neg z, if_neg z]; exact ⟨w1, rfl⟩
        · rw [if_pos (b2i_and.mpr c3), if_pos (c := _ ∨ _) (Or.inr (Or.inr (Or.inr c3)))]
          exact ⟨_, rfl⟩
      · rw [if_pos (b2i_and.mpr c2), if_pos (c := _ ∨ _) (Or.inr (Or.inr (Or.inl c2)))]
        exact ⟨_, rfl⟩
    · rw [if_pos (b2i_and.mpr c1), if_pos (c := _ ∨ _) (Or.inr (Or.inl c1))]
      exact ⟨_, rfl⟩
/-! bold -/
theorem xbo_l (hN : 10000000 ≤ N) {s : Nat} (hs : s < n) {mo : Nat} (hmo : lw 4 = mo) (hmo9 : mo ≤ 9) : ∀ (f o : Nat) (w : aw_W) (best most : Int), mo + 1 - o < f → o ≤ mo + 1 → XL w n lw it → (0 < o → best = bi (fun o => (hp n lw it s o).2) (o - 1) ∧ most = bv (fun o => (hp n lw it s o).2) (o - 1)) → ∃ w', x_Replies_boldest_7 N f s best most o w = some ((bi (fun o => (hp n lw it s o).2) mo : Int), w') := by
  intro f
  induction f with
  | zero => intro o w best most h; omega
  | succ f ih =>
    intro o w best most hf hom h hinv
    rw [x_Replies_boldest_7, h.2.2.2.1 4 (by decide), hmo]
    by_cases c : (mo : Int) < (o : Int)
    · have eo : o = mo + 1 := by omega
      subst eo
      obtain ⟨i1, i2⟩ := hinv (by omega)
      rw [Nat.add_sub_cancel] at i1
      rw [if_pos c, i1]
      exact ⟨w, rfl⟩
    · obtain ⟨w1, e1, h1, g1, g2⟩ := X_against (N := N) hN h (b := fun k => w 21 k) (fun _ _ => rfl) hs (show o ≤ 9 by omega)
      rw [if_neg c, e1, b1_some, g2]
      have take : (o = 0 ∨ bv (fun o => (hp n lw it s o).2) (o - 1) < (hp n lw it s o).2) → ∃ w', x_Replies_boldest_41 N (x_Replies_boldest_7 N f) s o w1 = some ((bi (fun o => (hp n lw it s o).2) mo : Int), w') := by
        intro hc
        rw [x_Replies_boldest_41, x_Replies_boldest_49, ww1 (by omega), g2]
        refine ih (o + 1) _ _ _ (by omega) (by omega) h1 (fun _ => ?_)
        rw [Nat.add_sub_cancel]
        cases o with
        | zero => exact ⟨rfl, rfl⟩
        | succ o =>
          have hc2 := hc.resolve_left (by omega)
          rw [Nat.add_sub_cancel] at hc2
          exact ⟨by rw [bi_s, if_pos hc2], by rw [bv_s, if_pos hc2]⟩
      by_cases c0 : o = 0
      · rw [if_pos (by omega)]
        exact take (Or.inl c0)
      · obtain ⟨i1, i2⟩ := hinv (by omega)
        rw [if_neg (by omega), i2]
        by_cases c1 : (hp n lw it s o).2 ≤ bv (fun o => (hp n lw it s o).2) (o - 1)
        · rw [if_pos c1, x_Replies_boldest_49, ww1 (by omega)]
          refine ih (o + 1) _ _ _ (by omega) (by omega) h1 (fun _ => ?_)
          rw [Nat.add_sub_cancel]
          obtain ⟨q, rfl⟩ : ∃ q, o = q + 1 := ⟨o - 1, by omega⟩
          rw [Nat.add_sub_cancel] at i1 i2 c1
          refine ⟨?_, ?_⟩
          · rw [bi_s, if_neg (show ¬ bv (fun o => (hp n lw it s o).2) q < (hp n lw it s (q + 1)).2 by omega)]; exact i1
          · rw [bv_s, if_neg (show ¬ bv (fun o => (hp n lw it s o).2) q < (hp n lw it s (q + 1)).2 by omega)]; rfl
        · rw [if_neg c1]
          exact take (Or.inr (by omega))
def a_bold (n : Nat) (lw it : Nat → Int) (x1 : Int) : Int := if few n = false ∨ ¬ (0 ≤ x1 ∧ x1 < (n : Int)) then -1 else (bi (fun o => (hp n lw it x1.toNat o).2) (lw 4).toNat : Int)
theorem X_bold (hN : 10000000 ≤ N) (h : XL w n lw it) {x1 : Int} : ∃ w', x_bold N x1 w = some (a_bold n lw it x1, w') := by
  unfold a_bold
  rw [x_bold, X_isSmall h, b2_some]
  cases hf : few n with
  | false => rw [if_pos (by rfl), if_pos (Or.inl rfl)]; exact ⟨w, rfl⟩
  | true =>
    have hn := few_n hf
    have h9 := (h.2.2.2.2.2 (by omega)).1.2.2.2.2
    rw [if_neg (by decide), xl_holds, b2_some, h.1]
    by_cases c1 : 0 ≤ x1 ∧ x1 < (n : Int)
    · obtain ⟨s, rfl⟩ : ∃ s : Nat, x1 = s := ⟨x1.toNat, by omega⟩
      obtain ⟨w1, e1⟩ := xbo_l (N := N) hN (show s < n by omega) (mo := (lw 4).toNat) (by omega) (by omega) N 0 w 0 0 (by omega) (by omega) h (fun q => absurd q (Nat.lt_irrefl 0))
      have e1' : x_Replies_boldest N s w = _ := e1
      rw [if_neg (fun z => b2i_and.mp z c1), if_neg (by simp; omega), e1', b2_some, Int.toNat_natCast]
      exact ⟨w1, rfl⟩
    · rw [if_pos (b2i_and.mpr c1), if_pos (c := _ ∨ _) (Or.inr c1)]
      exact ⟨w, rfl⟩
theorem mbo_l (hN : 20 ≤ N) {s : Nat} (hs : s < n) {mo : Nat} (hmo : lw 4 = mo) (hmo9 : mo ≤ 9) : ∀ (f o : Nat) (w : aw_W) (best most : Int), mo + 1 - o < f → o ≤ mo + 1 → ML w n lw it → (o = 0 → best = -1) → (0 < o → best = bi (fun o => (hp n lw it s o).2) (o - 1) ∧ most = bv (fun o => (hp n lw it s o).2) (o - 1)) → ∃ w', m_bold_29 N f s best most o w = some ((bi (fun o => (hp n lw it s o).2) mo : Int), w') := by
  intro f
  induction f with
  | zero => intro o w best most h; omega
  | succ f ih =>
    intro o w best most hf hom h hz hinv
    rw [m_bold_29, h.2.2.2.1 4 (by decide), hmo]
    by_cases c : (mo : Int) < (o : Int)
    · have eo : o = mo + 1 := by omega
      subst eo
      obtain ⟨i1, i2⟩ := hinv (by omega)
      rw [Nat.add_sub_cancel] at i1
      rw [if_pos c, i1]
      exact ⟨w, rfl⟩
    · obtain ⟨w1, e1, h1, g1, g2⟩ := M_hopes (N := N) hN h hs (show o ≤ 9 by omega)
      rw [if_neg c, e1, b1_some, g2]
      have take : (o = 0 ∨ bv (fun o => (hp n lw it s o).2) (o - 1) < (hp n lw it s o).2) → ∃ w', m_bold_63 N (m_bold_29 N f) s o w1 = some ((bi (fun o => (hp n lw it s o).2) mo : Int), w') := by
        intro hc
        rw [m_bold_63, m_bold_71, ww1 (by omega), g2]
        refine ih (o + 1) _ _ _ (by omega) (by omega) h1 (fun z => absurd z (by omega)) (fun _ => ?_)
        rw [Nat.add_sub_cancel]
        cases o with
        | zero => exact ⟨rfl, rfl⟩
        | succ o =>
          have hc2 := hc.resolve_left (by omega)
          rw [Nat.add_sub_cancel] at hc2
          exact ⟨by rw [bi_s, if_pos hc2], by rw [bv_s, if_pos hc2]⟩
      by_cases c0 : o = 0
      · rw [if_pos (hz c0)]
        exact take (Or.inl c0)
      · obtain ⟨i1, i2⟩ := hinv (by omega)
        rw [if_neg (by omega), i2]
        by_cases c1 : bv (fun o => (hp n lw it s o).2) (o - 1) < (hp n lw it s o).2
        · rw [if_pos c1]
          exact take (Or.inr c1)
        · rw [if_neg c1, m_bold_71, ww1 (by omega)]
          refine ih (o + 1) _ _ _ (by omega) (by omega) h1 (fun z => absurd z (by omega)) (fun _ => ?_)
          rw [Nat.add_sub_cancel]
          obtain ⟨q, rfl⟩ : ∃ q, o = q + 1 := ⟨o - 1, by omega⟩
          rw [Nat.add_sub_cancel] at i1 i2 c1
          refine ⟨?_, ?_⟩
          · rw [bi_s, if_neg (show ¬ bv (fun o => (hp n lw it s o).2) q < (hp n lw it s (q + 1)).2 by omega)]; exact i1
          · rw [bv_s, if_neg (show ¬ bv (fun o => (hp n lw it s o).2) q < (hp n lw it s (q + 1)).2 by omega)]; rfl
theorem M_bold (hN : 20 ≤ N) (h : ML w n lw it) {x1 : Int} : ∃ w', m_bold N x1 w = some (a_bold n lw it x1, w') := by
  unfold a_bold
  have h0 : ML (aw_up w 49 0 0) n lw it := h.fr (S := [(49, 0)]) ((fr_r _ w).up rfl) rfl
  rw [m_bold, M_areFew h0, b2_some]
  cases hf : few n with
  | false => rw [if_pos (by rfl), if_pos (Or.inl rfl)]; exact ⟨_, rfl⟩
  | true =>
    have hn := few_n hf
    have h9 := (h.2.2.2.2.2 (by omega)).1.2.2.2.2
    rw [if_neg (by decide), m_isStriver_ok, b2_some, h0.1]
    by_cases c1 : 0 ≤ x1 ∧ x1 < (n : Int)
    · obtain ⟨s, rfl⟩ : ∃ s : Nat, x1 = s := ⟨x1.toNat, by omega⟩
      rw [if_neg (fun z => b2i_and.mp z c1), if_neg (by simp; omega), Int.toNat_natCast]
      exact mbo_l (N := N) hN (show s < n by omega) (mo := (lw 4).toNat) (by omega) (by omega) N 0 _ (-1) 0 (by omega) (by omega) h0 (fun _ => rfl) (fun q => absurd q (Nat.lt_irrefl 0))
    · rw [if_pos (b2i_and.mpr c1), if_pos (c := _ ∨ _) (Or.inr c1)]
      exact ⟨_, rfl⟩
end HO
