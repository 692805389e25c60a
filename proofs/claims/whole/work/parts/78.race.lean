/-! ===== pure: races, in the class ===== -/
def eqp (P : List (Nat × Nat)) (w v : aw_W) : Prop := ∀ i k, fr_in P i k = true → v i k = w i k
theorem eqp_fr {P S : List (Nat × Nat)} {w v u : aw_W} (h : eqp P w v) (hf : fr_ S v u) (ha : avd S P = true) : eqp P w u := fun i k hp => (avd_fr ha hf hp).trans (h i k hp)
theorem eqp_r (P : List (Nat × Nat)) (w : aw_W) : eqp P w w := fun _ _ _ => rfl
def P_RX : List (Nat × Nat) := [(11, 6), (12, 1000000), (13, 1000000)]
def P_RM : List (Nat × Nat) := [(49, 7), (51, 1000000), (52, 1000000)]
def LO (L : Nat → Int) : Prop := ∀ j, j < 6 → 0 ≤ L j ∧ L j ≤ 99
/-- the class's rules: k of them, worth ev by the letters -/
def evX (N : Nat) (w : aw_W) (k : Nat) (ev : Nat → (Nat → Int) → Int) : Prop := w 11 6 = k ∧ k ≤ 4 ∧ ∀ v : aw_W, eqp P_RX w v → ∀ r : Nat, r < k → ∀ L, LO L → (∀ j, j < 6 → v 16 j = L j) → ∃ v', x_Rules_worth N (r : Int) v = some (ev r L, v')
def lt6 (j : Nat) : Nat := if j = 0 then 100 else if j = 1 then 97 else if j = 2 then 98 else if j = 3 then 111 else if j = 4 then 108 else 116
/-- the reference's rules -/
def evM (N : Nat) (w : aw_W) (k : Nat) (ev : Nat → (Nat → Int) → Int) : Prop := w 49 7 = k ∧ k ≤ 4 ∧ ∀ v : aw_W, eqp P_RM w v → ∀ r : Nat, r < k → ∀ L, LO L → (∀ j, j < 6 → v 53 (lt6 j) = L j) → ∃ v', m_goThrough N ((160 * r : Nat) : Int) (v 52 r) v = some v' ∧ v' 49 14 = ev r L
theorem mxmn {p e : Int} (hp : 1 ≤ p ∧ p ≤ 9) : 0 ≤ aw_mx 0 (aw_mn p e) ∧ aw_mx 0 (aw_mn p e) ≤ 9 := by
  unfold aw_mx aw_mn
  by_cases c : e < p
  · rw [if_pos c]
    split <;> omega
  · rw [if_neg c, if_pos (by omega)]
    omega
theorem mxmn0 {p : Int} (hp : 1 ≤ p) : aw_mx 0 (aw_mn p 0) = 0 := by
  unfold aw_mx aw_mn
  rw [if_pos (show (0 : Int) < p by omega)]
  rfl
def inn (n : Nat) (c : Nat → Int) : Nat := ct (fun k => decide (c k ≠ -1)) n
def lett (n : Nat) (g c : Nat → Int) (tr du : Int) (t s : Nat) : Nat → Int := fun j => if j = 0 then tr - g s else if j = 1 then (ct (fun k => decide (g s < g k)) n : Int) else if j = 2 then (ct (fun k => decide (g k < g s)) n : Int) else if j = 3 then (inn n c : Int) else if j = 4 then du - (t : Int) else (t : Int)
def stq (n : Nat) (it ru : Nat → Int) (ev : Nat → (Nat → Int) → Int) (tr du : Int) (g c : Nat → Int) (t s : Nat) : Int := if ru s = -1 then 0 else aw_mx 0 (aw_mn (it (4 * s)) (ev (ru s).toNat (lett n g c tr du t s)))
def st1 (n : Nat) (it ru : Nat → Int) (ev : Nat → (Nat → Int) → Int) (tr du : Int) (g c : Nat → Int) (t s : Nat) : Int := if c s = -1 then stq n it ru ev tr du g c t s else 0
def rgn (n : Nat) (it ru : Nat → Int) (ev : Nat → (Nat → Int) → Int) (tr du : Int) (g c : Nat → Int) (t s : Nat) : Int := aw_mn tr (g s + st1 n it ru ev tr du g c t s)
def rcn (n : Nat) (it ru : Nat → Int) (ev : Nat → (Nat → Int) → Int) (tr du : Int) (g c : Nat → Int) (t s : Nat) : Int := if c s = -1 ∧ rgn n it ru ev tr du g c t s = tr then (t : Int) else c s
/-- how far each has gone, when each came in: after t seconds -/
def RS (n : Nat) (it ru : Nat → Int) (ev : Nat → (Nat → Int) → Int) (tr du : Int) : Nat → (Nat → Int) × (Nat → Int)
  | 0 => (fun _ => 0, fun _ => -1)
  | t + 1 => (rgn n it ru ev tr du (RS n it ru ev tr du t).1 (RS n it ru ev tr du t).2 t, rcn n it ru ev tr du (RS n it ru ev tr du t).1 (RS n it ru ev tr du t).2 t)
section RA
variable {N : Nat} {w v : aw_W} {n k : Nat} {lw it ru g c : Nat → Int} {ev : Nat → (Nat → Int) → Int} {tr du : Int} {S : List (Nat × Nat)}
theorem RS_s (n : Nat) (it ru : Nat → Int) (ev : Nat → (Nat → Int) → Int) (tr du : Int) (t : Nat) : RS n it ru ev tr du (t + 1) = (rgn n it ru ev tr du (RS n it ru ev tr du t).1 (RS n it ru ev tr du t).2 t, rcn n it ru ev tr du (RS n it ru ev tr du t).1 (RS n it ru ev tr du t).2 t) := rfl
/-- the last second run, before t -/
def lst (n : Nat) (it ru : Nat → Int) (ev : Nat → (Nat → Int) → Int) (tr du : Int) : Nat → Int
  | 0 => -1
  | t + 1 => if inn n (RS n it ru ev tr du t).2 < n then (t : Int) else lst n it ru ev tr du t
theorem lst_s (n : Nat) (it ru : Nat → Int) (ev : Nat → (Nat → Int) → Int) (tr du : Int) (t : Nat) : lst n it ru ev tr du (t + 1) = if inn n (RS n it ru ev tr du t).2 < n then (t : Int) else lst n it ru ev tr du t := rfl
theorem stq_bd {s t : Nat} (hp : 1 ≤ it (4 * s) ∧ it (4 * s) ≤ 9) : 0 ≤ stq n it ru ev tr du g c t s ∧ stq n it ru ev tr du g c t s ≤ 9 := by
  unfold stq
  split
  · omega
  · exact mxmn hp
theorem st1_bd {s t : Nat} (hp : 1 ≤ it (4 * s) ∧ it (4 * s) ≤ 9) : 0 ≤ st1 n it ru ev tr du g c t s ∧ st1 n it ru ev tr du g c t s ≤ 9 := by
  unfold st1
  split
  · exact stq_bd hp
  · omega
def rok (n : Nat) (tr : Int) (t : Nat) (g c : Nat → Int) : Prop := ∀ s, s < n → 0 ≤ g s ∧ g s ≤ tr ∧ (c s = -1 ∨ (0 ≤ c s ∧ c s < (t : Int))) ∧ (c s = -1 ↔ g s ≠ tr)
theorem mn_le {a b : Int} : aw_mn a b ≤ a ∧ aw_mn a b ≤ b ∧ (aw_mn a b = a ∨ aw_mn a b = b) := by
  unfold aw_mn
  split <;> omega
theorem rok_s {t : Nat} (hI : IB it n) (h : rok n tr t g c) : rok n tr (t + 1) (rgn n it ru ev tr du g c t) (rcn n it ru ev tr du g c t) := by
  intro s hs
  obtain ⟨h1, h2, h3, h4⟩ := h s hs
  have hb := st1_bd (n := n) (ru := ru) (ev := ev) (tr := tr) (du := du) (g := g) (c := c) (t := t) (hI s hs).1
  have hm : rgn n it ru ev tr du g c t s = aw_mn tr (g s + st1 n it ru ev tr du g c t s) := rfl
  have hmn := mn_le (a := tr) (b := g s + st1 n it ru ev tr du g c t s)
  rw [← hm] at hmn
  unfold rcn
  by_cases z : c s = -1 ∧ rgn n it ru ev tr du g c t s = tr
  · rw [if_pos z]
    refine ⟨by omega, by omega, by omega, by omega⟩
  · rw [if_neg z]
    refine ⟨by omega, by omega, by omega, ?_⟩
    constructor
    · intro q
      exact fun q2 => z ⟨q, q2⟩
    · intro q
      have : st1 n it ru ev tr du g c t s = 0 ∨ c s = -1 := by
        unfold st1
        by_cases y : c s = -1
        · exact Or.inr y
        · rw [if_neg y]
          exact Or.inl rfl
      omega
theorem RS_ok (htr : 1 ≤ tr) (hI : IB it n) : ∀ t, rok n tr t (RS n it ru ev tr du t).1 (RS n it ru ev tr du t).2
  | 0 => fun s _ => by
    show 0 ≤ (0 : Int) ∧ (0 : Int) ≤ tr ∧ ((-1 : Int) = -1 ∨ _) ∧ ((-1 : Int) = -1 ↔ (0 : Int) ≠ tr)
    exact ⟨by omega, by omega, Or.inl rfl, ⟨fun _ => by omega, fun _ => rfl⟩⟩
  | t + 1 => rok_s hI (RS_ok htr hI t)
theorem inn_n (h : inn n c = n) : ∀ s, s < n → c s ≠ -1 := by
  intro s hs q
  have h1 := ct_lt (p := fun k => decide (c k ≠ -1)) (q := fun _ => true) (n := n) (fun _ _ _ => rfl) s hs rfl (by rw [q]; decide)
  have h2 := ct_le (fun _ => true) n
  unfold inn at h
  omega
theorem inn_le : inn n c ≤ n := ct_le _ n
theorem RS_stop (htr : 1 ≤ tr) (hI : IB it n) {t : Nat} (h : inn n (RS n it ru ev tr du t).2 = n) : ∀ d, (∀ s, s < n → (RS n it ru ev tr du (t + d)).1 s = (RS n it ru ev tr du t).1 s ∧ (RS n it ru ev tr du (t + d)).2 s = (RS n it ru ev tr du t).2 s) ∧ inn n (RS n it ru ev tr du (t + d)).2 = n ∧ lst n it ru ev tr du (t + d) = lst n it ru ev tr du t
  | 0 => ⟨fun _ _ => ⟨rfl, rfl⟩, h, rfl⟩
  | d + 1 => by
    obtain ⟨h1, h2, h3⟩ := RS_stop htr hI h d
    have hok := RS_ok (ru := ru) (ev := ev) (du := du) htr hI (t + d)
    have hne := inn_n h2
    rw [← Nat.add_assoc, RS_s, lst_s, h2, if_neg (by omega)]
    have key : ∀ s, s < n → rgn n it ru ev tr du (RS n it ru ev tr du (t + d)).1 (RS n it ru ev tr du (t + d)).2 (t + d) s = (RS n it ru ev tr du (t + d)).1 s ∧ rcn n it ru ev tr du (RS n it ru ev tr du (t + d)).1 (RS n it ru ev tr du (t + d)).2 (t + d) s = (RS n it ru ev tr du (t + d)).2 s := by
      intro s hs
      have o := hok s hs
      constructor
      · unfold rgn st1
        rw [if_neg (hne s hs)]
        have := mn_le (a := tr) (b := (RS n it ru ev tr du (t + d)).1 s + 0)
        omega
      · unfold rcn
        rw [if_neg (fun q => hne s hs q.1)]
    refine ⟨fun s hs => ⟨(key s hs).1.trans (h1 s hs).1, (key s hs).2.trans (h1 s hs).2⟩, ?_, h3⟩
    exact Eq.trans (ct_cong (fun s hs => by show decide (rcn n it ru ev tr du (RS n it ru ev tr du (t + d)).1 (RS n it ru ev tr du (t + d)).2 (t + d) s ≠ -1) = _; rw [(key s hs).2])) h2
theorem lett_LO {s t : Nat} (hn : n ≤ 6) (h : rok n tr t g c) (hs : s < n) (htr : tr ≤ 99) (hd : du ≤ 99) (ht : (t : Int) < du) : LO (lett n g c tr du t s) := by
  intro j hj
  obtain ⟨h1, h2, -, -⟩ := h s hs
  have c1 := ct_le (fun k => decide (g s < g k)) n
  have c2 := ct_le (fun k => decide (g k < g s)) n
  have c3 : inn n c ≤ n := ct_le _ n
  unfold lett
  split
  · omega
  · split
    · omega
    · split
      · omega
      · split
        · omega
        · split <;> omega
theorem evX.fr (h : evX N w k ev) (hf : fr_ S w v) (ha : avd S P_RX = true) : evX N v k ev := by
  refine ⟨by rw [avd_fr ha hf rfl]; exact h.1, h.2.1, fun u hu r hr L hL he => h.2.2 u (fun i j hp => ?_) r hr L hL he⟩
  rw [hu i j hp, avd_fr ha hf hp]
theorem evM.fr (h : evM N w k ev) (hf : fr_ S w v) (ha : avd S P_RM = true) : evM N v k ev := by
  refine ⟨by rw [avd_fr ha hf rfl]; exact h.1, h.2.1, fun u hu r hr L hL he => h.2.2 u (fun i j hp => ?_) r hr L hL he⟩
  rw [hu i j hp, avd_fr ha hf hp]
def ruB (ru : Nat → Int) (n k : Nat) : Prop := ∀ s, s < n → ru s = -1 ∨ (0 ≤ ru s ∧ ru s < (k : Int))
theorem X_worth_none : x_Rules_worth N (-1) w = some (0, w) := by
  rw [x_Rules_worth, x_Rules_holds, if_pos (by decide)]
  rfl
theorem xso_l (h : XL w n lw it) (hg : ∀ s, s < n → w 31 s = g s) {s : Nat} (hs : s < n) {x2 x3 x4 : Int} : ∀ (f i : Nat), n - i < f → i ≤ n → x_Race_stepsOf_9 N f s x2 x3 x4 (ct (fun k => decide (g s < g k)) i : Int) (ct (fun k => decide (g k < g s)) i : Int) i w = x_Race_stepsOf_68 N s x2 x3 x4 (ct (fun k => decide (g s < g k)) n : Int) (ct (fun k => decide (g k < g s)) n : Int) w := by
  intro f
  induction f with
  | zero => intro i hf; omega
  | succ f ih =>
    intro i hf hi
    have hn6 := h.2.1
    rw [x_Race_stepsOf_9, h.1]
    by_cases cc : (n : Int) ≤ (i : Int)
    · have : i = n := by omega
      subst this
      rw [if_pos cc]
    · have ih' := ih (i + 1) (by omega) (by omega)
      rw [if_neg cc, if_pos ⟨by omega, by omega⟩, if_pos ⟨by omega, by omega⟩, Int.toNat_natCast, Int.toNat_natCast, hg i (by omega), hg s hs]
      by_cases z1 : g i ≤ g s
      · have e1 : ct (fun k => decide (g s < g k)) (i + 1) = ct (fun k => decide (g s < g k)) i := by
          rw [ct_s, if_neg (by simp; omega), Nat.add_zero]
        rw [e1] at ih'
        rw [if_pos z1, if_pos ⟨by omega, by omega⟩, if_pos ⟨by omega, by omega⟩]
        by_cases z2 : g s ≤ g i
        · have e2 : ct (fun k => decide (g k < g s)) (i + 1) = ct (fun k => decide (g k < g s)) i := by
            rw [ct_s, if_neg (by simp; omega), Nat.add_zero]
          rw [e2] at ih'
          rw [if_pos z2, x_Race_stepsOf_62, ww1 (by omega)]
          exact ih'
        · rw [if_neg z2, x_Race_stepsOf_62, ww1 (i := i) (by omega), cts1 (p := fun k => decide (g k < g s)) (by omega) (decide_eq_true (by omega))]
          exact ih'
      · have e2 : ct (fun k => decide (g k < g s)) (i + 1) = ct (fun k => decide (g k < g s)) i := by
          rw [ct_s, if_neg (by simp; omega), Nat.add_zero]
        rw [e2] at ih'
        rw [if_neg z1, x_Race_stepsOf_62, ww1 (i := i) (by omega), cts1 (p := fun k => decide (g s < g k)) (by omega) (decide_eq_true (by omega))]
        exact ih'
theorem X_stepsOf (hN : 10 ≤ N) (h : XL w n lw it) (he : evX N w k ev) (hg : ∀ s, s < n → w 31 s = g s) (hin : w 26 7 = (inn n c : Int)) {s t : Nat} (hs : s < n) (hru : w 30 s = ru s) (hb : ruB ru n k) (hok : rok n tr t g c) (htr : tr ≤ 99) (hd : du ≤ 99) (ht : (t : Int) < du) : ∃ w', x_Race_stepsOf N s tr du t w = some (stq n it ru ev tr du g c t s, w') := by
  have hn6 := h.2.1
  obtain ⟨o1, o2, -, -⟩ := hok s hs
  have hL := lett_LO hn6 hok hs htr hd ht
  have e0 := xso_l (N := N) (x2 := tr) (x3 := du) (x4 := (t : Int)) h hg hs N 0 (by omega) (Nat.zero_le _)
  have e0' : x_Race_stepsOf N s tr du t w = x_Race_stepsOf_68 N s tr du t (ct (fun k => decide (g s < g k)) n : Int) (ct (fun k => decide (g k < g s)) n : Int) w := e0
  rw [e0', x_Race_stepsOf_68, if_pos ⟨by omega, by omega⟩, Int.toNat_natCast, hg s hs, hin, ww (x := tr - g s) (by omega) (by omega), ww (x := du - (t : Int)) (by omega) (by omega)]
  generalize hw1 : aw_up (aw_up (aw_up (aw_up (aw_up (aw_up w 16 0 (tr - g s)) 16 1 (ct (fun k => decide (g s < g k)) n : Int)) 16 2 (ct (fun k => decide (g k < g s)) n : Int)) 16 3 (inn n c : Int)) 16 4 (du - (t : Int))) 16 5 (t : Int) = w1
  have f1 : fr_ [(16, 1000000)] w w1 := by
    rw [← hw1]
    exact ((((((fr_r _ w).upA rfl).upA rfl).upA rfl).upA rfl).upA rfl).upA rfl
  have h1 := h.fr f1 rfl
  have he1 := he.fr f1 rfl
  have hl : ∀ j, j < 6 → w1 16 j = lett n g c tr du t s j := by
    intro j hj
    rw [← hw1]
    unfold lett
    by_cases j0 : j = 0
    · subst j0; simp [aw_up]
    by_cases j1 : j = 1
    · subst j1; simp [aw_up]
    by_cases j2 : j = 2
    · subst j2; simp [aw_up]
    by_cases j3 : j = 3
    · subst j3; simp [aw_up]
    by_cases j4 : j = 4
    · subst j4; simp [aw_up]
    have j5 : j = 5 := by omega
    subst j5
    simp [aw_up]
  have ei := xl_item (N := N) (k := 0) h1.1 hn6 hs (by decide)
  rw [show ((0 : Nat) : Int) = 0 from rfl, Nat.add_zero, h1.2.2.2.2.1 (4 * s) (by omega)] at ei
  rw [ei, b2_some, if_pos ⟨by omega, by omega⟩, f1 30 s rfl, hru]
  unfold stq
  rcases hb s hs with z | ⟨z1, z2⟩
  · rw [z, X_worth_none, b2_some, if_pos rfl]
    have hp := ((h.2.2.2.2.2 (by omega)).2 s hs).1
    exact ⟨w1, by rw [mxmn0 hp.1]⟩
  · obtain ⟨r, hr⟩ : ∃ r : Nat, ru s = r := ⟨(ru s).toNat, by omega⟩
    rw [if_neg (by omega), hr, Int.toNat_natCast]
    obtain ⟨w2, e2⟩ := he1.2.2 w1 (eqp_r _ _) r (by omega) _ hL hl
    rw [e2, b2_some]
    exact ⟨w2, rfl⟩
/-! a second of the class's race -/
def mxt (i : Nat) (a b : Nat → Int) : Nat → Int := fun k => if k < i then a k else b k
theorem mxt_0 (a b : Nat → Int) (k : Nat) : mxt 0 a b k = b k := by unfold mxt; rw [if_neg (by omega)]
theorem mxt_n {a b : Nat → Int} {i k : Nat} (h : k < i) : mxt i a b k = a k := by unfold mxt; rw [if_pos h]
theorem mxt_at (a b : Nat → Int) (i : Nat) : mxt i a b i = b i := by unfold mxt; rw [if_neg (by omega)]
theorem mxt_s {a b : Nat → Int} {i k : Nat} (h : k ≠ i) : mxt (i + 1) a b k = mxt i a b k := by
  unfold mxt
  by_cases z : k < i
  · rw [if_pos z, if_pos (by omega)]
  · rw [if_neg z, if_neg (by omega)]
theorem mxt_e (a b : Nat → Int) (i : Nat) : mxt (i + 1) a b i = a i := by unfold mxt; rw [if_pos (by omega)]
theorem inn_up {a b : Nat → Int} {i : Nat} (hi : i < n) (h0 : b i = -1) (h1 : a i ≠ -1) : inn n (mxt (i + 1) a b) = inn n (mxt i a b) + 1 := by
  unfold inn
  rw [← ct_add (p := fun k => decide (mxt i a b k ≠ -1)) (j := i) hi (by rw [mxt_at, h0]; decide)]
  refine ct_cong (fun k hk => ?_)
  by_cases e : k = i
  · subst e
    rw [mxt_e, decide_eq_true h1]
    simp
  · rw [mxt_s e]
    simp [e]
theorem inn_eq {a b : Nat → Int} {i : Nat} (h0 : a i = b i) : inn n (mxt (i + 1) a b) = inn n (mxt i a b) := by
  unfold inn
  refine ct_cong (fun k hk => ?_)
  by_cases e : k = i
  · subst e
    rw [mxt_e, mxt_at, h0]
  · rw [mxt_s e]
theorem inn_cg {a b : Nat → Int} (h : ∀ s, s < n → a s = b s) : inn n a = inn n b := ct_cong (fun k hk => by rw [h k hk])
theorem xwk_l {t : Nat} (h98 : t < 1000) (htr : tr ≤ 99) (hI : IB it n) (hok : rok n tr t g c) : ∀ (f i : Nat) (w : aw_W), n - i < f → i ≤ n → XL w n lw it → (∀ s, s < n → w 33 s = st1 n it ru ev tr du g c t s) → (∀ s, s < n → w 31 s = mxt i (rgn n it ru ev tr du g c t) g s) → (∀ s, s < n → w 32 s = mxt i (rcn n it ru ev tr du g c t) c s) → w 26 7 = (inn n (mxt i (rcn n it ru ev tr du g c t) c) : Int) → ∃ w', x_Race_walk_2 N f tr t i w = some w' ∧ (∀ s, s < n → w' 31 s = rgn n it ru ev tr du g c t s) ∧ (∀ s, s < n → w' 32 s = rcn n it ru ev tr du g c t s) ∧ w' 26 7 = (inn n (rcn n it ru ev tr du g c t) : Int) := by
  intro f
  induction f with
  | zero => intro i w hf; omega
  | succ f ih =>
    intro i w hf hi h h33 h31 h32 h26
    have hn6 := h.2.1
    rw [x_Race_walk_2, h.1]
    by_cases cc : (n : Int) ≤ (i : Int)
    · have : i = n := by omega
      subst this
      rw [if_pos cc]
      refine ⟨w, rfl, fun s hs => by rw [h31 s hs, mxt_n hs], fun s hs => by rw [h32 s hs, mxt_n hs], ?_⟩
      rw [h26, inn_cg (fun s hs => mxt_n hs)]
    · have hin : i < n := by omega
      obtain ⟨o1, o2, o3, o4⟩ := hok i hin
      have hb := st1_bd (n := n) (ru := ru) (ev := ev) (tr := tr) (du := du) (g := g) (c := c) (t := t) (hI i hin).1
      have hm : rgn n it ru ev tr du g c t i = aw_mn tr (g i + st1 n it ru ev tr du g c t i) := rfl
      have hr : ((i : Int).toNat) = i := Int.toNat_natCast i
      have b6 : 0 ≤ (i : Int) ∧ (i : Int) < 6 := ⟨by omega, by omega⟩
      rw [if_neg cc, if_pos b6, if_pos b6, if_pos b6, if_pos b6, hr, h31 i hin, mxt_at, h33 i hin, ww (x := g i + st1 n it ru ev tr du g c t i) (by omega) (by omega), ← hm, h32 i hin, mxt_at]
      have hup : (aw_up w 31 i (rgn n it ru ev tr du g c t i)) 31 i = rgn n it ru ev tr du g c t i := by simp [aw_up]
      rw [hup]
      have stay : ¬ (c i = -1 ∧ rgn n it ru ev tr du g c t i = tr) → ∃ w', x_Race_walk_73 N (x_Race_walk_2 N f) tr t i (aw_up w 31 i (rgn n it ru ev tr du g c t i)) = some w' ∧ (∀ s, s < n → w' 31 s = rgn n it ru ev tr du g c t s) ∧ (∀ s, s < n → w' 32 s = rcn n it ru ev tr du g c t s) ∧ w' 26 7 = (inn n (rcn n it ru ev tr du g c t) : Int) := by
        intro z
        have ec : rcn n it ru ev tr du g c t i = c i := by unfold rcn; rw [if_neg z]
        rw [x_Race_walk_73, ww1 (by omega)]
        refine ih (i + 1) _ (by omega) (by omega) (h.fr (S := [(31, 1000000)]) ((fr_r _ _).upA rfl) rfl) (fun s hs => by simp [aw_up]; exact h33 s hs) (fun s hs => ?_) (fun s hs => ?_) ?_
        · by_cases e : s = i
          · subst e
            rw [mxt_e]
            simp [aw_up]
          · rw [mxt_s e, ← h31 s hs]
            simp [aw_up, e]
        · by_cases e : s = i
          · subst e
            rw [mxt_e, ec]
            simp [aw_up]
            rw [h32 s hs, mxt_at]
          · rw [mxt_s e, ← h32 s hs]
            simp [aw_up]
        · rw [inn_eq ec]
          simp [aw_up]
          exact h26
      by_cases z1 : rgn n it ru ev tr du g c t i = tr
      · rw [if_pos z1, if_pos b6]
        by_cases z2 : c i = -1
        · have ec : rcn n it ru ev tr du g c t i = (t : Int) := by unfold rcn; rw [if_pos ⟨z2, z1⟩]
          have hil := inn_le (n := n) (c := mxt i (rcn n it ru ev tr du g c t) c)
          rw [if_pos z2, if_pos b6, x_Race_walk_73, ww1 (i := i) (by omega), h26, ww1 (i := inn n (mxt i (rcn n it ru ev tr du g c t) c)) (by omega)]
          refine ih (i + 1) _ (by omega) (by omega) (h.fr (S := [(31, 1000000), (32, 1000000), (26, 7)]) ((((fr_r _ _).upA rfl).upA rfl).up rfl) rfl) (fun s hs => by simp [aw_up]; exact h33 s hs) (fun s hs => ?_) (fun s hs => ?_) ?_
          · by_cases e : s = i
            · subst e
              rw [mxt_e]
              simp [aw_up]
            · rw [mxt_s e, ← h31 s hs]
              simp [aw_up, e]
          · by_cases e : s = i
            · subst e
              rw [mxt_e, ec]
              simp [aw_up]
            · rw [mxt_s e, ← h32 s hs]
              simp [aw_up, e]
          · rw [inn_up hin z2 (by rw [ec]; omega)]
            simp [aw_up]
        · rw [if_neg z2]
          exact stay (fun q => z2 q.1)
      · rw [if_neg z1]
        exact stay (fun q => z1 q.2)
theorem X_walk (hN : 10 ≤ N) {t : Nat} (h98 : t < 1000) (htr : tr ≤ 99) (h : XL w n lw it) (hn : n ≠ 0) (hok : rok n tr t g c) (h33 : ∀ s, s < n → w 33 s = st1 n it ru ev tr du g c t s) (h31 : ∀ s, s < n → w 31 s = g s) (h32 : ∀ s, s < n → w 32 s = c s) (h26 : w 26 7 = (inn n c : Int)) : ∃ w', x_Race_walk N tr t w = some w' ∧ (∀ s, s < n → w' 31 s = rgn n it ru ev tr du g c t s) ∧ (∀ s, s < n → w' 32 s = rcn n it ru ev tr du g c t s) ∧ w' 26 7 = (inn n (rcn n it ru ev tr du g c t) : Int) := by
  have hn6 := h.2.1
  exact xwk_l (N := N) (ru := ru) (ev := ev) (du := du) h98 htr (h.2.2.2.2.2 hn).2 hok N 0 w (by omega) (Nat.zero_le _) h h33 (fun s hs => by rw [mxt_0]; exact h31 s hs) (fun s hs => by rw [mxt_0]; exact h32 s hs) (by rw [h26, inn_cg (fun s hs => mxt_0 _ _ s)])
theorem xgo_i (hN : 10 ≤ N) {k29 : Int → Int → Int → Int → aw_W → Option aw_W} {t : Nat} (hb : ruB ru n k) (hok : rok n tr t g c) (htr : tr ≤ 99) (hd : du ≤ 99) (ht : (t : Int) < du) {x3 : Int} : ∀ (f i : Nat) (w : aw_W), n - i < f → i ≤ n → XL w n lw it → evX N w k ev → (∀ s, s < n → w 30 s = ru s) → (∀ s, s < n → w 31 s = g s) → (∀ s, s < n → w 32 s = c s) → w 26 7 = (inn n c : Int) → (∀ s, s < i → w 33 s = st1 n it ru ev tr du g c t s) → ∃ w', x_Race_go_52 N k29 f tr du x3 t i w = x_Race_go_102 N k29 tr du x3 t w' ∧ (∀ s, s < n → w' 33 s = st1 n it ru ev tr du g c t s) ∧ fr_ [(15, 1000000), (16, 1000000), (33, 1000000)] w w' := by
  intro f
  induction f with
  | zero => intro i w hf; omega
  | succ f ih =>
    intro i w hf hi h he h30 h31 h32 h26 h33
    have hn6 := h.2.1
    rw [x_Race_go_52, h.1]
    by_cases cc : (n : Int) ≤ (i : Int)
    · have : i = n := by omega
      subst this
      rw [if_pos cc]
      exact ⟨w, rfl, h33, fr_r _ _⟩
    · have hin : i < n := by omega
      have b6 : 0 ≤ (i : Int) ∧ (i : Int) < 6 := ⟨by omega, by omega⟩
      rw [if_neg cc, if_pos b6, Int.toNat_natCast, h32 i hin]
      have nxt : ∀ (y : Int) (w1 : aw_W), y = st1 n it ru ev tr du g c t i → fr_ S_x_Race_stepsOf w w1 → ∃ w', x_Race_go_95 N k29 (x_Race_go_52 N k29 f) tr du x3 t i y i w1 = x_Race_go_102 N k29 tr du x3 t w' ∧ (∀ s, s < n → w' 33 s = st1 n it ru ev tr du g c t s) ∧ fr_ [(15, 1000000), (16, 1000000), (33, 1000000)] w w' := by
        intro y w1 hy f1
        have f1' : fr_ [(15, 1000000), (16, 1000000), (33, 1000000)] w (aw_up w1 33 i y) := (fr_m rfl f1).upA rfl
        rw [x_Race_go_95, if_pos b6, ww1 (by omega), Int.toNat_natCast]
        obtain ⟨w', a1, a2, a3⟩ := ih (i + 1) (aw_up w1 33 i y) (by omega) (by omega) (h.fr f1' rfl) (he.fr f1' rfl) (fun s hs => by rw [f1' 30 s rfl]; exact h30 s hs) (fun s hs => by rw [f1' 31 s rfl]; exact h31 s hs) (fun s hs => by rw [f1' 32 s rfl]; exact h32 s hs) (by rw [f1' 26 7 rfl]; exact h26) (fun s hs => by
          by_cases e : s = i
          · subst e
            simp [aw_up]
            exact hy
          · simp [aw_up, e]
            rw [f1 33 s rfl]
            exact h33 s (by omega))
        exact ⟨w', a1, a2, f1'.trans a3⟩
      by_cases z : c i = -1
      · rw [if_pos z]
        obtain ⟨w1, e1⟩ := X_stepsOf (N := N) (ev := ev) (c := c) hN h he h31 h26 hin (h30 i hin) hb hok htr hd ht
        rw [e1, b2_some]
        exact nxt _ w1 (by unfold st1; rw [if_pos z]) (f_x_Race_stepsOf N _ _ _ _ _ _ _ e1)
      · rw [if_neg z]
        exact nxt 0 w (by unfold st1; rw [if_neg z]) (fr_r _ _)
theorem xgo_o (hN : 200 ≤ N) (hn : n ≠ 0) (hb : ruB ru n k) (ht1 : 1 ≤ tr) (htr : tr ≤ 99) (hd : du ≤ 99) {T : Nat} (hT : (T : Int) ≤ du) : ∀ (d f t : Nat) (w : aw_W), d < f → t + d = T → XL w n lw it → evX N w k ev → (∀ s, s < n → w 30 s = ru s) → (∀ s, s < n → w 31 s = (RS n it ru ev tr du t).1 s) → (∀ s, s < n → w 32 s = (RS n it ru ev tr du t).2 s) → w 26 7 = (inn n (RS n it ru ev tr du t).2 : Int) → w 26 8 = lst n it ru ev tr du t → ∃ w', x_Race_go_29 N f tr du T t w = some w' ∧ (∀ s, s < n → w' 31 s = (RS n it ru ev tr du T).1 s) ∧ (∀ s, s < n → w' 32 s = (RS n it ru ev tr du T).2 s) ∧ w' 26 7 = (inn n (RS n it ru ev tr du T).2 : Int) ∧ w' 26 8 = lst n it ru ev tr du T := by
  intro d
  induction d with
  | zero =>
    intro f t w hf ht h he h30 h31 h32 h26 h268
    obtain ⟨f, rfl⟩ : ∃ g, f = g + 1 := ⟨f - 1, by omega⟩
    have : t = T := by omega
    subst this
    rw [x_Race_go_29, if_pos (by omega)]
    exact ⟨w, rfl, h31, h32, h26, h268⟩
  | succ d ih =>
    intro f t w hf ht h he h30 h31 h32 h26 h268
    obtain ⟨f, rfl⟩ : ∃ g, f = g + 1 := ⟨f - 1, by omega⟩
    have hn6 := h.2.1
    have hI := (h.2.2.2.2.2 hn).2
    have hok := RS_ok (ru := ru) (ev := ev) (du := du) ht1 hI t
    have hil := inn_le (n := n) (c := (RS n it ru ev tr du t).2)
    rw [x_Race_go_29, if_neg (by omega), h.1, h26]
    by_cases z : inn n (RS n it ru ev tr du t).2 = n
    · obtain ⟨s1, s2, s3⟩ := RS_stop ht1 hI z (d + 1)
      rw [ht] at s1 s2 s3
      rw [if_pos (by omega)]
      refine ⟨w, rfl, fun s hs => by rw [h31 s hs, (s1 s hs).1], fun s hs => by rw [h32 s hs, (s1 s hs).2], by rw [h26, z, s2], by rw [h268, s3]⟩
    · rw [if_neg (by omega)]
      obtain ⟨w1, e1, h33, f1⟩ := xgo_i (N := N) (k29 := x_Race_go_29 N f) (ev := ev) (x3 := (T : Int)) (by omega) hb hok htr hd (show (t : Int) < du by omega) N 0 w (by omega) (Nat.zero_le _) h he h30 h31 h32 h26 (fun s hs => absurd hs (Nat.not_lt_zero _))
      obtain ⟨w2, e2, q1, q2, q3⟩ := X_walk (N := N) (ru := ru) (ev := ev) (du := du) (by omega) (show t < 1000 by omega) htr (h.fr f1 rfl) hn hok h33 (fun s hs => by rw [f1 31 s rfl]; exact h31 s hs) (fun s hs => by rw [f1 32 s rfl]; exact h32 s hs) (by rw [f1 26 7 rfl]; exact h26)
      have f2 := f_x_Race_walk N _ _ _ _ e2
      have f3 : fr_ [(15, 1000000), (16, 1000000), (33, 1000000), (26, 7), (31, 1000000), (32, 1000000), (26, 8)] w (aw_up w2 26 8 t) := ((fr_m rfl f1).trans (fr_m rfl f2)).up rfl
      rw [show (0 : Int) = ((0 : Nat) : Int) from rfl, e1, x_Race_go_102, e2, b1_some, ww1 (by omega)]
      refine ih f (t + 1) _ (by omega) (by omega) (h.fr f3 rfl) (he.fr f3 rfl) (fun s hs => by rw [f3 30 s rfl]; exact h30 s hs) (fun s hs => by simp [aw_up]; exact q1 s hs) (fun s hs => by simp [aw_up]; exact q2 s hs) (by simp [aw_up]; exact q3) ?_
      rw [lst_s, if_pos (by omega)]
      simp [aw_up]
theorem jf31_l : ∀ (m f i : Nat) (w : aw_W), m < f → i + m = 6 → (∀ j, j < i → w 31 j = 0) → ∃ w', j_Arr_fill_Ii_5 N f 0 i 6 w = some w' ∧ ∀ j, j < 6 → w' 31 j = 0 := by
  intro m
  induction m with
  | zero =>
    intro f i w hf hi h
    obtain ⟨f, rfl⟩ : ∃ g, f = g + 1 := ⟨f - 1, by omega⟩
    rw [j_Arr_fill_Ii_5, if_pos (by omega)]
    exact ⟨w, rfl, fun j hj => h j (by omega)⟩
  | succ m ih =>
    intro f i w hf hi h
    obtain ⟨f, rfl⟩ : ∃ g, f = g + 1 := ⟨f - 1, by omega⟩
    rw [j_Arr_fill_Ii_5, if_neg (by omega), if_pos ⟨by omega, by omega⟩, ww1 (by omega), Int.toNat_natCast]
    refine ih f (i + 1) _ (by omega) (by omega) (fun j hj => ?_)
    by_cases e : j = i
    · subst e
      simp [aw_up]
    · simp [aw_up, e]
      exact h j (by omega)
theorem jf32_l : ∀ (m f i : Nat) (w : aw_W), m < f → i + m = 6 → (∀ j, j < i → w 32 j = -1) → ∃ w', j_Arr_fill_Ii_32_5 N f (-1) i 6 w = some w' ∧ ∀ j, j < 6 → w' 32 j = -1 := by
  intro m
  induction m with
  | zero =>
    intro f i w hf hi h
    obtain ⟨f, rfl⟩ : ∃ g, f = g + 1 := ⟨f - 1, by omega⟩
    rw [j_Arr_fill_Ii_32_5, if_pos (by omega)]
    exact ⟨w, rfl, fun j hj => h j (by omega)⟩
  | succ m ih =>
    intro f i w hf hi h
    obtain ⟨f, rfl⟩ : ∃ g, f = g + 1 := ⟨f - 1, by omega⟩
    rw [j_Arr_fill_Ii_32_5, if_neg (by omega), if_pos ⟨by omega, by omega⟩, ww1 (by omega), Int.toNat_natCast]
    refine ih f (i + 1) _ (by omega) (by omega) (fun j hj => ?_)
    by_cases e : j = i
    · subst e
      simp [aw_up]
    · simp [aw_up, e]
      exact h j (by omega)
/-- the class runs T seconds of a race -/
theorem X_rgo (hN : 200 ≤ N) (h : XL w n lw it) (hn : n ≠ 0) (he : evX N w k ev) (hru : ∀ s, s < n → w 30 s = ru s) (hb : ruB ru n k) (ht1 : 1 ≤ tr) (htr : tr ≤ 99) (hd : du ≤ 99) {T : Nat} (hT : (T : Int) ≤ du) : ∃ w', x_Race_go N tr du T w = some w' ∧ (∀ s, s < n → w' 31 s = (RS n it ru ev tr du T).1 s) ∧ (∀ s, s < n → w' 32 s = (RS n it ru ev tr du T).2 s) ∧ w' 26 7 = (inn n (RS n it ru ev tr du T).2 : Int) ∧ w' 26 8 = lst n it ru ev tr du T ∧ XL w' n lw it ∧ evX N w' k ev ∧ (∀ s, s < n → w' 30 s = ru s) := by
  have hn6 := h.2.1
  obtain ⟨w1, e1, z1⟩ := jf31_l (N := N) 6 N 0 w (by omega) (by omega) (fun j hj => absurd hj (Nat.not_lt_zero _))
  have e1' : j_Arr_fill_Ii N 0 w = some w1 := e1
  obtain ⟨w2, e2, z2⟩ := jf32_l (N := N) 6 N 0 w1 (by omega) (by omega) (fun j hj => absurd hj (Nat.not_lt_zero _))
  have e2' : j_Arr_fill_Ii_32 N (-1) w1 = some w2 := e2
  have f1 := f_j_Arr_fill_Ii N _ _ _ e1'
  have f2 := f_j_Arr_fill_Ii_32 N _ _ _ e2'
  have f3 : fr_ S_x_Race_go w (aw_up (aw_up w2 26 7 0) 26 8 (-1)) := (((fr_m rfl f1).trans (fr_m rfl f2)).up rfl).up rfl
  have i0 : inn n (fun _ => -1) = 0 := ct_z (fun _ _ => rfl)
  obtain ⟨w', e, a1, a2, a3, a4⟩ := xgo_o (N := N) (ru := ru) (ev := ev) hN hn hb ht1 htr hd hT T N 0 _ (by omega) (by omega) (h.fr f3 rfl) (he.fr f3 rfl) (fun s hs => by rw [f3 30 s rfl]; exact hru s hs) (fun s hs => by
      simp [aw_up]
      rw [f2 31 s rfl, z1 s (by omega)]
      rfl) (fun s hs => by
      simp [aw_up]
      rw [z2 s (by omega)]
      rfl) (by
      show _ = (inn n (fun _ => -1) : Int)
      rw [i0]
      simp [aw_up]) (by simp [aw_up]; rfl)
  have e' : x_Race_go N tr du T w = some w' := by
    rw [x_Race_go, e1', b1_some, e2', b1_some]
    exact e
  have f4 := f_x_Race_go N _ _ _ _ _ e'
  exact ⟨w', e', a1, a2, a3, a4, h.fr f4 rfl, he.fr f4 rfl, fun s hs => by rw [f4 30 s rfl]; exact hru s hs⟩
end RA
