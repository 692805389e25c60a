/-! ===== pure: all rows in which some bid anew ===== -/
/-- the row behind b: the strivers i with p, below the place, bid anew -/
def nx (p : Nat → Bool) (mo : Int) : Nat → (Nat → Int) → (Nat → Int)
  | 0, b => b
  | i + 1, b => if p i = true then (if mo ≤ b i then nx p mo i (upb b i 0) else upb b i (b i + 1)) else nx p mo i b
theorem nx_s (p : Nat → Bool) (mo : Int) (i : Nat) (b : Nat → Int) : nx p mo (i + 1) b = if p i = true then (if mo ≤ b i then nx p mo i (upb b i 0) else upb b i (b i + 1)) else nx p mo i b := rfl
def its (p : Nat → Bool) (mo : Int) (n : Nat) : Nat → (Nat → Int) → List (Nat → Int)
  | 0, _ => []
  | m + 1, b => b :: its p mo n m (nx p mo n b)
def itE (p : Nat → Bool) (mo : Int) (n : Nat) : Nat → (Nat → Int) → (Nat → Int)
  | 0, b => b
  | m + 1, b => itE p mo n m (nx p mo n b)
def rws (p : Nat → Bool) (mo : Nat) : Nat → Nat → (Nat → Int) → List (Nat → Int)
  | 0, _, b => [b]
  | k + 1, s, b => if p s = true then (List.range (mo + 1)).flatMap (fun v : Nat => rws p mo k (s + 1) (upb b s (v : Int))) else rws p mo k (s + 1) b
def lenr (p : Nat → Bool) (mo : Nat) : Nat → Nat → Nat
  | 0, _ => 1
  | k + 1, s => if p s = true then (mo + 1) * lenr p mo k (s + 1) else lenr p mo k (s + 1)
theorem rws_s (p : Nat → Bool) (mo k s : Nat) (b : Nat → Int) : rws p mo (k + 1) s b = if p s = true then (List.range (mo + 1)).flatMap (fun v : Nat => rws p mo k (s + 1) (upb b s (v : Int))) else rws p mo k (s + 1) b := rfl
theorem lenr_s (p : Nat → Bool) (mo k s : Nat) : lenr p mo (k + 1) s = if p s = true then (mo + 1) * lenr p mo k (s + 1) else lenr p mo k (s + 1) := rfl
theorem its_add (p : Nat → Bool) (mo : Int) (n : Nat) (c : Nat) : ∀ (a : Nat) (b : Nat → Int), its p mo n (a + c) b = its p mo n a b ++ its p mo n c (itE p mo n a b)
  | 0, b => by rw [Nat.zero_add]; rfl
  | a + 1, b => by rw [Nat.succ_add]; show b :: its p mo n (a + c) _ = b :: (its p mo n a _ ++ _); rw [its_add p mo n c a]; rfl
theorem itE_add (p : Nat → Bool) (mo : Int) (n : Nat) (c : Nat) : ∀ (a : Nat) (b : Nat → Int), itE p mo n (a + c) b = itE p mo n c (itE p mo n a b)
  | 0, b => by rw [Nat.zero_add]; rfl
  | a + 1, b => by rw [Nat.succ_add]; show itE p mo n (a + c) _ = _; rw [itE_add p mo n c a]; rfl
theorem its_rws (p : Nat → Bool) (mo n : Nat) : ∀ (k s : Nat) (b : Nat → Int), s + k = n → (∀ j, s ≤ j → j < n → p j = true → b j = 0) → its p mo n (lenr p mo k s) b = rws p mo k s b ∧ itE p mo n (lenr p mo k s) b = nx p mo s b
  | 0, s, b, hs, hz => by
    have : s = n := by omega
    subst this
    exact ⟨rfl, rfl⟩
  | k + 1, s, b, hs, hz => by
    have ih := its_rws p mo n k (s + 1)
    rw [lenr_s, rws_s]
    by_cases c : p s = true
    · rw [if_pos c, if_pos c]
      have hb0 : b s = 0 := hz s (Nat.le_refl _) (by omega) c
      have tail : ∀ v : Int, ∀ j, s + 1 ≤ j → j < n → p j = true → upb b s v j = 0 := by
        intro v j h1 h2 h3
        unfold upb
        rw [if_neg (by omega)]
        exact hz j (by omega) h2 h3
      have inner : ∀ j, j ≤ mo + 1 → its p mo n (j * lenr p mo k (s + 1)) b = (List.range j).flatMap (fun v : Nat => rws p mo k (s + 1) (upb b s (v : Int))) ∧ itE p mo n (j * lenr p mo k (s + 1)) b = if j ≤ mo then upb b s (j : Int) else nx p mo s b := by
        intro j
        induction j with
        | zero =>
          intro _
          rw [Nat.zero_mul, if_pos (Nat.zero_le _)]
          refine ⟨rfl, ?_⟩
          show b = upb b s 0
          rw [← hb0, upb_self]
        | succ j ihj =>
          intro hj
          obtain ⟨a1, a2⟩ := ihj (by omega)
          rw [if_pos (by omega)] at a2
          obtain ⟨b1, b2⟩ := ih (upb b s (j : Int)) (by omega) (tail _)
          rw [Nat.succ_mul, its_add, itE_add, a1, a2, b1, b2]
          refine ⟨by rw [List.range_succ, List.flatMap_append]; simp, ?_⟩
          rw [nx_s, if_pos c]
          have ej : upb b s (j : Int) s = j := by unfold upb; rw [if_pos rfl]
          rw [ej, upb_upb, upb_upb]
          by_cases hm : j = mo
          · rw [if_pos (by omega), if_neg (by omega), ← hb0, upb_self]
          · rw [if_neg (by omega), if_pos (by omega)]
            rfl
      obtain ⟨a1, a2⟩ := inner (mo + 1) (Nat.le_refl _)
      rw [if_neg (by omega)] at a2
      refine ⟨a1, ?_⟩
      rw [a2]
    · rw [if_neg c, if_neg c]
      obtain ⟨a1, a2⟩ := ih b (by omega) (fun j h1 h2 h3 => hz j (by omega) h2 h3)
      refine ⟨a1, ?_⟩
      rw [a2, nx_s, if_neg c]
theorem rws_cong {p : Nat → Bool} {mo n : Nat} : ∀ {k s : Nat} {b c : Nat → Int}, s + k = n → (∀ j, (s ≤ j → j < n → p j = false) → b j = c j) → rws p mo k s b = rws p mo k s c
  | 0, s, b, c, hs, h => by
    have : b = c := funext fun j => h j (fun h1 h2 => by omega)
    rw [this]
  | k + 1, s, b, c, hs, h => by
    rw [rws_s, rws_s]
    by_cases e : p s = true
    · rw [if_pos e, if_pos e]
      congr 1
      funext v
      refine rws_cong (n := n) (by omega) (fun j hj => ?_)
      unfold upb
      by_cases ej : j = s
      · rw [if_pos ej, if_pos ej]
      · rw [if_neg ej, if_neg ej]
        exact h j (fun h1 h2 => hj (by omega) h2)
    · rw [if_neg e, if_neg e]
      refine rws_cong (n := n) (by omega) (fun j hj => h j (fun h1 h2 => ?_))
      by_cases ej : j = s
      · rw [ej]; simpa using e
      · exact hj (by omega) h2
theorem rws_congp {p q : Nat → Bool} {mo n : Nat} : ∀ {k s : Nat} {b : Nat → Int}, s + k = n → (∀ j, s ≤ j → j < n → p j = q j) → rws p mo k s b = rws q mo k s b
  | 0, s, b, hs, h => rfl
  | k + 1, s, b, hs, h => by
    rw [rws_s, rws_s, h s (Nat.le_refl _) (by omega), rws_congp (n := n) (p := p) (q := q) (b := b) (by omega) (fun j h1 h2 => h j (by omega) h2)]
    congr 2
    funext v
    exact rws_congp (n := n) (by omega) (fun j h1 h2 => h j (by omega) h2)
theorem lenr_pow (p : Nat → Bool) (mo : Nat) : ∀ (k s : Nat), (mo + 1) ^ ct p s * lenr p mo k s = (mo + 1) ^ ct p (s + k)
  | 0, s => by show _ * 1 = _; rw [Nat.mul_one]; rfl
  | k + 1, s => by
    have ih := lenr_pow p mo k (s + 1)
    rw [show s + (k + 1) = s + 1 + k by omega, ← ih, ct_s]
    rw [lenr_s]
    by_cases c : p s = true
    · rw [if_pos c, if_pos c, Nat.pow_succ, Nat.mul_assoc]
    · rw [if_neg c, if_neg c]
      rfl
theorem rws_bd {p : Nat → Bool} {mo n : Nat} (hmo : mo ≤ 9) : ∀ {k s : Nat} {b : Nat → Int}, bd n b → ∀ c ∈ rws p mo k s b, bd n c
  | 0, s, b, hb, c, hc => by
    unfold rws at hc
    simp at hc
    rw [hc]
    exact hb
  | k + 1, s, b, hb, c, hc => by
    rw [rws_s] at hc
    by_cases e : p s = true
    · rw [if_pos e, List.mem_flatMap] at hc
      obtain ⟨v, hv, hc⟩ := hc
      rw [List.mem_range] at hv
      exact rws_bd hmo (upb_bd hb (by omega)) c hc
    · rw [if_neg e] at hc
      exact rws_bd hmo hb c hc
theorem nx_bd {p : Nat → Bool} {mo : Int} {n : Nat} (hmo : 0 ≤ mo ∧ mo ≤ 9) : ∀ {i : Nat} {b : Nat → Int}, i ≤ n → bd n b → bd n (nx p mo i b)
  | 0, b, _, h => h
  | i + 1, b, hi, h => by
    rw [nx_s]
    by_cases c : p i = true
    · rw [if_pos c]
      by_cases d : mo ≤ b i
      · rw [if_pos d]
        exact nx_bd hmo (by omega) (upb_bd h (by omega))
      · have := h i (by omega)
        rw [if_neg d]
        exact upb_bd h (by omega)
    · rw [if_neg c]
      exact nx_bd hmo (by omega) h
section MA
variable {N : Nat} {w : aw_W} {n : Nat} {lw it b : Nat → Int}
theorem xnx_l {a : Nat} (ha : a < 64) : ∀ (i f : Nat) (w : aw_W) (b : Nat → Int), i < f → i ≤ n → XL w n lw it → bd n b → (∀ k, k < n → w 21 k = b k) → ∃ w', x_Sale_next_10 N f a ((i : Int) - 1) w = some w' ∧ XL w' n lw it ∧ ∀ k, k < n → w' 21 k = nx a.testBit (lw 4) i b k := by
  intro i
  induction i with
  | zero =>
    intro f w b hf hi h hbd hb
    obtain ⟨f, rfl⟩ : ∃ g, f = g + 1 := ⟨f - 1, by omega⟩
    rw [x_Sale_next_10, if_pos (by decide)]
    exact ⟨w, rfl, h, hb⟩
  | succ i ih =>
    intro f w b hf hi h hbd hb
    obtain ⟨f, rfl⟩ : ∃ g, f = g + 1 := ⟨f - 1, by omega⟩
    have hn6 := h.2.1
    have hin : i < n := by omega
    have h9 := (h.2.2.2.2.2 (by omega)).1.2.2.2.2
    have hbi := hbd i hin
    have ei : ((i + 1 : Nat) : Int) - 1 = (i : Int) := by omega
    have em : ∀ k v, x_Sale_next_61 N k a i v = k a ((i : Int) - 1) v := fun k v => by rw [x_Sale_next_61, ww (x := (i : Int) + -1) (by omega) (by omega)]; rfl
    rw [ei, x_Sale_next_10, if_neg (by omega), bt_has a ha i (by omega), nx_s]
    by_cases c : a.testBit i = true
    · rw [if_pos c, if_neg (by decide), if_pos ⟨by omega, by omega⟩, Int.toNat_natCast, h.2.2.2.1 4 (by decide), hb i hin, if_pos c]
      by_cases d : lw 4 ≤ b i
      · rw [if_pos d, if_pos ⟨by omega, by omega⟩, em, if_pos d]
        exact ih f _ _ (by omega) (by omega) (h.fr (S := [(21, 1000000)]) ((fr_r _ w).upA rfl) rfl) (upb_bd hbd (by omega)) (up21 hb)
      · rw [if_neg d, if_neg d, x_Sale_next_43, if_pos ⟨by omega, by omega⟩, if_pos ⟨by omega, by omega⟩, Int.toNat_natCast, hb i hin, ww (by omega) (by omega)]
        exact ⟨_, rfl, h.fr (S := [(21, 1000000)]) ((fr_r _ w).upA rfl) rfl, up21 hb⟩
    · rw [if_neg c, if_pos rfl, em, if_neg c]
      exact ih f w b (by omega) (by omega) h hbd hb
theorem X_next (hN : 10 ≤ N) (h : XL w n lw it) (hbd : bd n b) (hb : ∀ k, k < n → w 21 k = b k) {a : Nat} (ha : a < 64) : ∃ w', x_Sale_next N a w = some w' ∧ XL w' n lw it ∧ (∀ k, k < n → w' 21 k = nx a.testBit (lw 4) n b k) ∧ fr_ S_x_Sale_next w w' := by
  have hn6 := h.2.1
  obtain ⟨w', e, h', b'⟩ := xnx_l (N := N) ha n N w b (by omega) (Nat.le_refl _) h hbd hb
  have e' : x_Sale_next N a w = some w' := by
    rw [x_Sale_next, h.1, ww (x := (n : Int) - 1) (by omega) (by omega)]
    exact e
  exact ⟨w', e', h', b', f_x_Sale_next N _ _ _ e'⟩
def zr (p : Nat → Bool) (i : Nat) (b : Nat → Int) : Nat → Int := fun k => if p k = true ∧ k < i then 0 else b k
theorem zr_bd {p : Nat → Bool} {i : Nat} (h : bd n b) : bd n (zr p i b) := by
  intro k hk
  unfold zr
  split
  · omega
  · exact h k hk
theorem xlo_l {a : Nat} (ha : a < 64) : ∀ (f i : Nat) (w : aw_W), n - i < f → i ≤ n → XL w n lw it → (∀ k, k < n → w 21 k = zr a.testBit i b k) → ∃ w', x_Sale_lowest_2 N f a i w = some w' ∧ XL w' n lw it ∧ ∀ k, k < n → w' 21 k = zr a.testBit n b k := by
  intro f
  induction f with
  | zero => intro i w h; omega
  | succ f ih =>
    intro i w hf hin h hb
    have hn6 := h.2.1
    rw [x_Sale_lowest_2, h.1]
    by_cases c : (n : Int) ≤ (i : Int)
    · have : i = n := by omega
      subst this
      rw [if_pos c]
      exact ⟨w, rfl, h, hb⟩
    · have hin2 : i < n := by omega
      rw [if_neg c, bt_has a ha i (by omega)]
      by_cases hp : a.testBit i = true
      · rw [if_pos hp, if_neg (by decide), if_pos ⟨by omega, by omega⟩, x_Sale_lowest_28, ww1 (by omega), Int.toNat_natCast]
        refine ih (i + 1) _ (by omega) (by omega) (h.fr (S := [(21, 1000000)]) ((fr_r _ w).upA rfl) rfl) (fun k hk => ?_)
        unfold zr at hb ⊢
        by_cases e : k = i
        · subst e; simp [aw_up, hp]
        · simp only [aw_up, e, and_false, if_false]
          rw [hb k hk]
          have : (a.testBit k = true ∧ k < i) ↔ (a.testBit k = true ∧ k < i + 1) := ⟨fun z => ⟨z.1, by omega⟩, fun z => ⟨z.1, by omega⟩⟩
          simp only [this]
      · rw [if_neg hp, if_pos rfl, x_Sale_lowest_28, ww1 (by omega)]
        refine ih (i + 1) w (by omega) (by omega) h (fun k hk => ?_)
        rw [hb k hk]
        unfold zr
        by_cases e : k = i
        · subst e
          rw [if_neg (fun z => hp z.1), if_neg (fun z => hp z.1)]
        · have : (a.testBit k = true ∧ k < i) ↔ (a.testBit k = true ∧ k < i + 1) := ⟨fun z => ⟨z.1, by omega⟩, fun z => ⟨z.1, by omega⟩⟩
          simp only [this]
theorem X_lowest (hN : 10 ≤ N) (h : XL w n lw it) (hb : ∀ k, k < n → w 21 k = b k) {a : Nat} (ha : a < 64) : ∃ w', x_Sale_lowest N a w = some w' ∧ XL w' n lw it ∧ (∀ k, k < n → w' 21 k = zr a.testBit n b k) ∧ fr_ S_x_Sale_lowest w w' := by
  have hn6 := h.2.1
  obtain ⟨w', e, h', b'⟩ := xlo_l (N := N) (b := b) ha N 0 w (by omega) (Nat.zero_le _) h (fun k hk => by unfold zr; rw [if_neg (by omega)]; exact hb k hk)
  have e' : x_Sale_lowest N a w = some w' := e
  exact ⟨w', e', h', b', f_x_Sale_lowest N _ _ _ e'⟩
theorem xro_l (h : XL w n lw it) {mo : Nat} (hmo : lw 4 = mo) (hmo9 : mo ≤ 9) : ∀ (k f j : Nat), k < f → j + k ≤ 6 → x_Sale_rowsOf_7 N f (((mo + 1) ^ j : Nat) : Int) k w = some ((((mo + 1) ^ (j + k) : Nat) : Int), w) := by
  intro k
  induction k with
  | zero =>
    intro f j hf hj
    obtain ⟨f, rfl⟩ : ∃ g, f = g + 1 := ⟨f - 1, by omega⟩
    rw [x_Sale_rowsOf_7, if_pos (by decide)]
    rfl
  | succ k ih =>
    intro f j hf hj
    obtain ⟨f, rfl⟩ : ∃ g, f = g + 1 := ⟨f - 1, by omega⟩
    have hpow : (mo + 1) ^ (j + 1) ≤ 10 ^ 6 := Nat.le_trans (Nat.pow_le_pow_left (by omega) _) (Nat.pow_le_pow_right (by decide) (by omega))
    have hp6 : (10 : Nat) ^ 6 = 1000000 := by decide
    rw [hp6] at hpow
    have e1 : (((mo + 1) ^ j : Nat) : Int) * ((mo : Int) + 1) = (((mo + 1) ^ (j + 1) : Nat) : Int) := by
      rw [Nat.pow_succ]
      simp
    rw [x_Sale_rowsOf_7, if_neg (by omega), h.2.2.2.1 4 (by decide), hmo, ww (x := (mo : Int) + 1) (by omega) (by omega), e1, ww (x := (((mo + 1) ^ (j + 1) : Nat) : Int)) (by omega) (by omega), ww3 (by omega), ih f (j + 1) (by omega) (by omega)]
    rw [show j + 1 + k = j + (k + 1) by omega]
theorem pop_ct : ∀ n : Nat, n ≤ 6 → ∀ a : Nat, a < 64 → a < 2 ^ n → pop a = (ct a.testBit n : Int) := by decide +kernel
theorem X_rowsOf (hN : 10 ≤ N) (h : XL w n lw it) (hn : n ≠ 0) {a : Nat} (ha : a < 2 ^ n) : x_Sale_rowsOf N a w = some ((lenr a.testBit (lw 4).toNat n 0 : Int), w) := by
  have hn6 := h.2.1
  have pn := pow_n n hn6
  have h9 := (h.2.2.2.2.2 hn).1.2.2.2.2
  have hc := ct_le a.testBit n
  rw [x_Sale_rowsOf, bc_ok N (by omega) w, b2_some, pop_ct n hn6 a (by omega) ha]
  have := xro_l (N := N) h (mo := (lw 4).toNat) (by omega) (by omega) (ct a.testBit n) N 0 (by omega) (by omega)
  have e1 : (((lw 4).toNat + 1) ^ 0 : Nat) = 1 := Nat.pow_zero _
  rw [e1, Nat.zero_add] at this
  have e2 := lenr_pow a.testBit (lw 4).toNat n 0
  rw [show ct a.testBit 0 = 0 from rfl, e1, Nat.one_mul, Nat.zero_add] at e2
  rw [e2]
  exact this
theorem lenr_le {p : Nat → Bool} {mo : Nat} (hmo : mo ≤ 9) (hn : n ≤ 6) : 1 ≤ lenr p mo n 0 ∧ lenr p mo n 0 ≤ 1000000 := by
  have e2 := lenr_pow p mo n 0
  rw [show ct p 0 = 0 from rfl, Nat.pow_zero, Nat.one_mul, Nat.zero_add] at e2
  rw [e2]
  have hc := ct_le p n
  have hp6 : (10 : Nat) ^ 6 = 1000000 := by decide
  refine ⟨Nat.one_le_pow _ _ (by omega), ?_⟩
  rw [← hp6]
  exact Nat.le_trans (Nat.pow_le_pow_left (by omega) _) (Nat.pow_le_pow_right (by decide) (by omega))
/-- the class's rows: those from the lowest on -/
theorem its_all {p : Nat → Bool} {mo : Nat} : its p mo n (lenr p mo n 0) (zr p n b) = rws p mo n 0 b := by
  rw [(its_rws p mo n n 0 (zr p n b) (by omega) (fun j _ hj hp => by unfold zr; rw [if_pos ⟨hp, hj⟩])).1]
  refine rws_cong (n := n) (by omega) (fun j hj => ?_)
  unfold zr
  by_cases c : p j = true ∧ j < n
  · have := hj (Nat.zero_le _) c.2
    rw [c.1] at this
    cases this
  · rw [if_neg c]
end MA
