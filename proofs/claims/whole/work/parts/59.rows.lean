/-! ===== pure: rows of bids as numbers ===== -/
/-- the bid of striver s of n in the row r -/
def dg (r n s : Nat) : Nat := r / 10 ^ (n - 1 - s) % 10
/-- the row of n bids -/
def rv (b : Nat → Nat) : Nat → Nat
  | 0 => 0
  | n + 1 => rv b n * 10 + b n
theorem dg_lt (r n s : Nat) : dg r n s < 10 := Nat.mod_lt _ (by decide)
theorem rv_lt {b : Nat → Nat} : ∀ {n : Nat}, (∀ s, s < n → b s < 10) → rv b n < 10 ^ n
  | 0, _ => by show 0 < 1; decide
  | n + 1, h => by
    have h1 := rv_lt (n := n) (fun s hs => h s (by omega))
    have h2 := h n (by omega)
    show rv b n * 10 + b n < 10 ^ (n + 1)
    rw [Nat.pow_succ]
    omega
theorem rv_cong {b c : Nat → Nat} : ∀ {n : Nat}, (∀ s, s < n → b s = c s) → rv b n = rv c n
  | 0, _ => rfl
  | n + 1, h => by
    show rv b n * 10 + b n = rv c n * 10 + c n
    rw [rv_cong (fun s hs => h s (by omega)), h n (by omega)]
theorem dg_rv {b : Nat → Nat} : ∀ {n : Nat}, (∀ s, s < n → b s < 10) → ∀ s, s < n → dg (rv b n) n s = b s
  | 0, _, s, hs => absurd hs (Nat.not_lt_zero s)
  | n + 1, h, s, hs => by
    have hn := h n (by omega)
    unfold dg
    show (rv b n * 10 + b n) / 10 ^ (n + 1 - 1 - s) % 10 = b s
    by_cases e : s = n
    · subst e
      rw [show s + 1 - 1 - s = 0 by omega, Nat.pow_zero, Nat.div_one]
      omega
    · have ih := dg_rv (n := n) (b := b) (fun s hs => h s (by omega)) s (by omega)
      unfold dg at ih
      rw [show n + 1 - 1 - s = (n - 1 - s) + 1 by omega, Nat.pow_succ, Nat.mul_comm (10 ^ (n - 1 - s)) 10, ← Nat.div_div_eq_div_mul, show (rv b n * 10 + b n) / 10 = rv b n by omega]
      exact ih
theorem rv_dg : ∀ {n r : Nat}, r < 10 ^ n → rv (dg r n) n = r
  | 0, r, h => by
    have : r < 1 := h
    show 0 = r
    omega
  | n + 1, r, h => by
    have h1 : r / 10 < 10 ^ n := by
      rw [Nat.pow_succ] at h
      omega
    have ih := rv_dg (n := n) (r := r / 10) h1
    have e : rv (dg r (n + 1)) n = rv (dg (r / 10) n) n := by
      refine rv_cong (fun s hs => ?_)
      unfold dg
      rw [show n + 1 - 1 - s = (n - 1 - s) + 1 by omega, Nat.pow_succ, Nat.mul_comm (10 ^ (n - 1 - s)) 10, ← Nat.div_div_eq_div_mul]
    show rv (dg r (n + 1)) n * 10 + dg r (n + 1) n = r
    rw [e, ih]
    unfold dg
    rw [show n + 1 - 1 - n = 0 by omega, Nat.pow_zero, Nat.div_one]
    omega
theorem p10_6 {n : Nat} (h : n ≤ 6) : 10 ^ n ≤ 1000000 := Nat.pow_le_pow_right (n := 10) (by decide) h
/-- a row that may be taken -/
def vr (r n mo : Nat) : Bool := decide (r / 10 ^ n = 0) && (List.range n).all (fun s => decide (dg r n s ≤ mo))
theorem vr_iff {r n mo : Nat} : vr r n mo = true ↔ r / 10 ^ n = 0 ∧ ∀ s, s < n → dg r n s ≤ mo := by
  unfold vr
  rw [Bool.and_eq_true, decide_eq_true_eq, List.all_eq_true]
  constructor
  · rintro ⟨a, b⟩
    exact ⟨a, fun s hs => of_decide_eq_true (b s (List.mem_range.mpr hs))⟩
  · rintro ⟨a, b⟩
    exact ⟨a, fun s hs => decide_eq_true (b s (List.mem_range.mp hs))⟩
theorem td10 (r : Nat) : Int.tdiv (r : Int) 10 = ((r / 10 : Nat) : Int) := rfl
theorem tm10 (r : Nat) : Int.tmod (r : Int) 10 = ((r % 10 : Nat) : Int) := rfl
section RW
variable {N : Nat} {w : aw_W} {n : Nat}
theorem xp_l (r : Nat) (hr : r < 2147483648) (hn : n ≤ 6) : ∀ (i f : Nat) (w : aw_W), i < f → i ≤ n → (∀ s, i ≤ s → s < n → w 21 s = (dg r n s : Int)) → ∃ w', x_Sale_put_12 N f ((r / 10 ^ (n - i) : Nat) : Int) ((i : Int) - 1) w = some (((r / 10 ^ n : Nat) : Int), w') ∧ ∀ s, s < n → w' 21 s = (dg r n s : Int) := by
  intro i
  induction i with
  | zero =>
    intro f w hf hin hs
    cases f with
    | zero => omega
    | succ f =>
      rw [x_Sale_put_12, if_pos (by omega), x_Sale_put_37, Nat.sub_zero]
      exact ⟨w, rfl, fun s h => hs s (Nat.zero_le s) h⟩
  | succ i ih =>
    intro f w hf hin hs
    cases f with
    | zero => omega
    | succ f =>
      have hq : r / 10 ^ (n - (i + 1)) < 2147483648 := Nat.lt_of_le_of_lt (Nat.div_le_self _ _) hr
      have e1 : r / 10 ^ (n - (i + 1)) / 10 = r / 10 ^ (n - i) := by
        rw [Nat.div_div_eq_div_mul, ← Nat.pow_succ, show (n - (i + 1)).succ = n - i by omega]
      have e2 : r / 10 ^ (n - (i + 1)) % 10 = dg r n i := by
        unfold dg
        rw [show n - 1 - i = n - (i + 1) by omega]
      have hdl := dg_lt r n i
      generalize r / 10 ^ (n - (i + 1)) = q at hq e1 e2 ⊢
      rw [x_Sale_put_12, show (((i + 1 : Nat) : Int) - 1) = (i : Int) by omega, if_neg (by omega), if_pos ⟨by omega, by omega⟩, td10, tm10, Int.toNat_natCast, ww (x := ((q / 10 : Nat) : Int)) (by omega) (by omega), ww (x := (i : Int) + (-1)) (by omega) (by omega), ww (x := ((q % 10 : Nat) : Int)) (by omega) (by omega)]
      rw [e1, e2, show (i : Int) + (-1) = (i : Int) - 1 by omega]
      refine ih f _ (by omega) (by omega) (fun s h1 h2 => ?_)
      by_cases e : s = i
      · subst e
        simp [aw_up]
      · simp [aw_up, e]
        exact hs s (by omega) h2
theorem xp_put (hN : 10 ≤ N) (h0 : w 3 4 = n) (hn : n ≤ 6) (r : Nat) (hr : r < 2147483648) : ∃ w', x_Sale_put N r w = some (((r / 10 ^ n : Nat) : Int), w') ∧ (∀ s, s < n → w' 21 s = (dg r n s : Int)) ∧ fr_ S_x_Sale_put w w' := by
  obtain ⟨w', e, h⟩ := xp_l (N := N) r hr hn n N w (by omega) (Nat.le_refl _) (fun s h1 h2 => absurd h2 (by omega))
  rw [Nat.sub_self, Nat.pow_zero, Nat.div_one] at e
  have e' : x_Sale_put N r w = some (((r / 10 ^ n : Nat) : Int), w') := by
    rw [x_Sale_put, h0, ww (by omega) (by omega)]
    exact e
  exact ⟨w', e', h, f_x_Sale_put N _ _ _ _ e'⟩
theorem xt_l {mo : Nat} {d : Nat → Nat} (h0 : w 3 4 = n) (hn : n ≤ 6) (hm : w 5 4 = mo) (hd : ∀ s, s < n → w 21 s = (d s : Int)) : ∀ (f i : Nat), n - i < f → i ≤ n → x_Sale_take_26 N f i w = some (b2i ((List.range n).all (fun s => decide (s < i) || decide (d s ≤ mo))), w) := by
  intro f
  induction f with
  | zero => intro i h; omega
  | succ f ih =>
    intro i hi hin
    rw [x_Sale_take_26, h0]
    by_cases c : (n : Int) ≤ (i : Int)
    · rw [if_pos c, x_Sale_take_63]
      have : (List.range n).all (fun s => decide (s < i) || decide (d s ≤ mo)) = true := by
        rw [List.all_eq_true]
        intro s hs
        have := List.mem_range.mp hs
        simp
        omega
      rw [this]
      rfl
    · rw [if_neg c, if_pos ⟨by omega, by omega⟩, Int.toNat_natCast, hd i (by omega), hm]
      by_cases c2 : d i ≤ mo
      · rw [if_pos (by omega), ww1 (by omega), ih (i + 1) (by omega) (by omega)]
        congr 3
        rw [Bool.eq_iff_iff, List.all_eq_true, List.all_eq_true]
        constructor
        · intro h s hs
          have := h s hs
          simp at this ⊢
          by_cases e : s = i
          · subst e; exact Or.inr c2
          · omega
        · intro h s hs
          have := h s hs
          simp at this ⊢
          omega
      · rw [if_neg (by omega), x_Sale_take_55]
        have : (List.range n).all (fun s => decide (s < i) || decide (d s ≤ mo)) = false := by
          rw [List.all_eq_false]
          refine ⟨i, List.mem_range.mpr (by omega), ?_⟩
          simp
          omega
        rw [this]
        rfl
/-- a row is taken, or not -/
theorem xt_take (hN : 10 ≤ N) (h0 : w 3 4 = n) (hn : n ≤ 6) {mo : Nat} (hm : w 5 4 = mo) {x : Int} (hx : x < 2147483648) : ∃ w', x_Sale_take N x w = some (b2i (decide (n ≠ 0) && decide (0 ≤ x) && vr x.toNat n mo), w') ∧ fr_ S_x_Sale_take w w' ∧ (0 ≤ x → n ≠ 0 → ∀ s, s < n → w' 21 s = (dg x.toNat n s : Int)) := by
  have key : ∃ w', x_Sale_take N x w = some (b2i (decide (n ≠ 0) && decide (0 ≤ x) && vr x.toNat n mo), w') ∧ (0 ≤ x → n ≠ 0 → ∀ s, s < n → w' 21 s = (dg x.toNat n s : Int)) := by
    rw [x_Sale_take, h0]
    by_cases c : n = 0
    · subst c
      refine ⟨w, ?_, fun _ h => absurd rfl h⟩
      rw [if_pos (by rfl)]
      rfl
    · rw [if_neg (by omega)]
      by_cases c1 : x < 0
      · have c2 : ¬ 0 ≤ x := by omega
        refine ⟨w, ?_, fun h => absurd h c2⟩
        rw [if_pos c1]
        simp [x_Sale_take_22, b2i, c2]
      · rw [if_neg c1]
        obtain ⟨r, rfl⟩ : ∃ r : Nat, x = r := ⟨x.toNat, by omega⟩
        obtain ⟨w1, e1, d1, f1⟩ := xp_put (N := N) (w := w) hN h0 hn r (by omega)
        rw [e1, b2_some, Int.toNat_natCast]
        have a1 : w1 3 4 = n := by rw [f1 3 4 rfl]; exact h0
        have a2 : w1 5 4 = mo := by rw [f1 5 4 rfl]; exact hm
        refine ⟨w1, ?_, fun _ _ => d1⟩
        have c0 : (0 : Int) ≤ r := by omega
        by_cases c3 : r / 10 ^ n = 0
        · rw [if_pos (by omega)]
          have := xt_l (N := N) a1 hn a2 d1 N 0 (by omega) (by omega)
          rw [show ((0 : Nat) : Int) = 0 from rfl] at this
          rw [this]
          congr 3
          unfold vr
          simp [c3, c]
        · rw [if_neg (by omega), x_Sale_take_22]
          unfold vr
          simp [c3, b2i]
  obtain ⟨w', e, h⟩ := key
  exact ⟨w', e, f_x_Sale_take N _ _ _ _ e, h⟩
theorem xr_l {d : Nat → Nat} (h0 : w 3 4 = n) (hn : n ≤ 6) (hd : ∀ s, s < n → w 21 s = (d s : Int) ∧ d s < 10) : ∀ (f i : Nat), n - i < f → i ≤ n → x_Sale_row_4 N f (rv d i : Int) i w = some ((rv d n : Int), w) := by
  intro f
  induction f with
  | zero => intro i h; omega
  | succ f ih =>
    intro i hi hin
    rw [x_Sale_row_4, h0]
    by_cases c : (n : Int) ≤ (i : Int)
    · rw [if_pos c]
      have : i = n := by omega
      subst this
      rfl
    · have hl := rv_lt (n := i) (b := d) (fun s hs => (hd s (by omega)).2)
      have h6 := p10_6 (show i ≤ 6 by omega)
      have hdi := hd i (by omega)
      rw [if_neg c, if_pos ⟨by omega, by omega⟩, Int.toNat_natCast, hdi.1, ww (x := (rv d i : Int) * 10) (by omega) (by omega), ww (x := (rv d i : Int) * 10 + (d i : Int)) (by omega) (by omega), ww1 (by omega)]
      exact ih (i + 1) (by omega) (by omega)
theorem xr_row (hN : 10 ≤ N) {d : Nat → Nat} (h0 : w 3 4 = n) (hn : n ≤ 6) (hd : ∀ s, s < n → w 21 s = (d s : Int) ∧ d s < 10) : x_Sale_row N w = some ((rv d n : Int), w) := by
  rw [x_Sale_row]
  exact xr_l (N := N) h0 hn hd N 0 (by omega) (by omega)
theorem mr_l {d : Nat → Nat} (h0 : w 49 22 = n) (hn : n ≤ 6) (hd : ∀ s, s < n → w 64 s = (d s : Int) ∧ d s < 10) : ∀ (f i : Nat), n - i < f → i ≤ n → m_rowOf_4 N f (rv d i : Int) i w = some ((rv d n : Int), w) := by
  intro f
  induction f with
  | zero => intro i h; omega
  | succ f ih =>
    intro i hi hin
    rw [m_rowOf_4, h0]
    by_cases c : (n : Int) ≤ (i : Int)
    · rw [if_pos c]
      have : i = n := by omega
      subst this
      rfl
    · have hl := rv_lt (n := i) (b := d) (fun s hs => (hd s (by omega)).2)
      have h6 := p10_6 (show i ≤ 6 by omega)
      have hdi := hd i (by omega)
      rw [if_neg c, if_pos ⟨by omega, by omega⟩, Int.toNat_natCast, hdi.1, ww (x := 10 * (rv d i : Int)) (by omega) (by omega), ww (x := 10 * (rv d i : Int) + (d i : Int)) (by omega) (by omega), ww1 (by omega), show 10 * (rv d i : Int) + (d i : Int) = ((rv d i * 10 + d i : Nat) : Int) by omega]
      exact ih (i + 1) (by omega) (by omega)
theorem mr_row (hN : 10 ≤ N) {d : Nat → Nat} (h0 : w 49 22 = n) (hn : n ≤ 6) (hd : ∀ s, s < n → w 64 s = (d s : Int) ∧ d s < 10) : m_rowOf N w = some ((rv d n : Int), w) := by
  rw [m_rowOf]
  exact mr_l (N := N) h0 hn hd N 0 (by omega) (by omega)
/-- the reference lays a row -/
theorem ml_l {mo : Nat} (hn : n ≤ 6) (r : Nat) (hr : r < 2147483648) : ∀ (i f : Nat) (w : aw_W) (ok : Bool), i < f → i ≤ n → w 56 4 = mo → (∀ s, i ≤ s → s < n → w 64 s = (dg r n s : Int)) → ∃ w', m_lay_20 N f ((r / 10 ^ (n - i) : Nat) : Int) (b2i ok) ((i : Int) - 1) w = some (b2i (ok && decide (r / 10 ^ n = 0) && (List.range i).all (fun s => decide (dg r n s ≤ mo))), w') ∧ ∀ s, s < n → w' 64 s = (dg r n s : Int) := by
  intro i
  induction i with
  | zero =>
    intro f w ok hf hin hm hs
    cases f with
    | zero => omega
    | succ f =>
      refine ⟨w, ?_, fun s h => hs s (Nat.zero_le s) h⟩
      rw [m_lay_20, if_pos (by omega), m_lay_73, Nat.sub_zero]
      cases ok with
      | false => simp [b2i, m_lay_85, m_lay_86]
      | true =>
        by_cases c : r / 10 ^ n = 0
        · rw [if_neg (by decide), if_pos (by omega)]
          simp [b2i, m_lay_86, c]
        · rw [if_neg (by decide), if_neg (by omega)]
          simp [b2i, m_lay_85, m_lay_86, c]
  | succ i ih =>
    intro f w ok hf hin hm hs
    cases f with
    | zero => omega
    | succ f =>
      have hq : r / 10 ^ (n - (i + 1)) < 2147483648 := Nat.lt_of_le_of_lt (Nat.div_le_self _ _) hr
      have e1 : r / 10 ^ (n - (i + 1)) / 10 = r / 10 ^ (n - i) := by
        rw [Nat.div_div_eq_div_mul, ← Nat.pow_succ, show (n - (i + 1)).succ = n - i by omega]
      have e2 : r / 10 ^ (n - (i + 1)) % 10 = dg r n i := by
        unfold dg
        rw [show n - 1 - i = n - (i + 1) by omega]
      have hdl := dg_lt r n i
      have step : ∀ ok2 : Bool, ok2 = (ok && decide (dg r n i ≤ mo)) → ∃ w', m_lay_66 N (m_lay_20 N f) ((r / 10 ^ (n - i) : Nat) : Int) (i : Int) (b2i ok2) (aw_up w 64 i ((dg r n i : Nat) : Int)) = some (b2i (ok && decide (r / 10 ^ n = 0) && (List.range (i + 1)).all (fun s => decide (dg r n s ≤ mo))), w') ∧ ∀ s, s < n → w' 64 s = (dg r n s : Int) := by
        intro ok2 hok
        rw [m_lay_66, ww (by omega) (by omega), show (i : Int) + (-1) = (i : Int) - 1 by omega]
        obtain ⟨w', a1, a2⟩ := ih f (aw_up w 64 i ((dg r n i : Nat) : Int)) ok2 (by omega) (by omega) (by simp [aw_up]; exact hm) (fun s h1 h2 => by
          by_cases e : s = i
          · subst e
            simp [aw_up]
          · simp [aw_up, e]
            exact hs s (by omega) h2)
        refine ⟨w', ?_, a2⟩
        rw [a1, hok, List.range_succ, List.all_append]
        congr 3
        simp only [List.all_cons, List.all_nil, Bool.and_true]
        cases ok <;> cases decide (r / 10 ^ n = 0) <;> cases decide (dg r n i ≤ mo) <;> simp
      generalize r / 10 ^ (n - (i + 1)) = q at hq e1 e2 ⊢
      rw [m_lay_20, show (((i + 1 : Nat) : Int) - 1) = (i : Int) by omega, if_neg (by omega), if_pos ⟨by omega, by omega⟩, td10, tm10, Int.toNat_natCast, ww (x := ((q / 10 : Nat) : Int)) (by omega) (by omega), ww (x := ((q % 10 : Nat) : Int)) (by omega) (by omega), e1, e2]
      cases ok with
      | false =>
        rw [if_pos (by rfl), m_lay_65]
        exact step false rfl
      | true =>
        rw [if_neg (by decide), if_pos ⟨by omega, by omega⟩, hm, show (aw_up w 64 i ((dg r n i : Nat) : Int)) 64 i = ((dg r n i : Nat) : Int) by simp [aw_up]]
        by_cases c : dg r n i ≤ mo
        · rw [if_neg (by omega)]
          exact step true (by simp [c])
        · rw [if_pos (by omega), m_lay_65]
          exact step false (by simp [c])
theorem tdm (x : Int) (h : aw_I x) : aw_I (Int.tdiv x 10) ∧ aw_I (Int.tmod x 10) := by
  have hb := tmod_bounds (a := x) (M := 10) (by decide)
  have he : x = 10 * Int.tdiv x 10 + Int.tmod x 10 := (Int.mul_tdiv_add_tmod x 10).symm
  unfold aw_I at h ⊢
  omega
/-- .. of a negative number: none -/
theorem ml_neg (hn : n ≤ 6) : ∀ (i f : Nat) (w : aw_W) (x : Int), i < f → i ≤ 6 → aw_I x → ∃ w', m_lay_20 N f x 0 ((i : Int) - 1) w = some (0, w') := by
  intro i
  induction i with
  | zero =>
    intro f w x hf hin hx
    cases f with
    | zero => omega
    | succ f =>
      rw [m_lay_20, if_pos (by omega), m_lay_73, if_pos rfl]
      exact ⟨w, rfl⟩
  | succ i ih =>
    intro f w x hf hin hx
    cases f with
    | zero => omega
    | succ f =>
      obtain ⟨t1, t2⟩ := tdm x hx
      rw [m_lay_20, show (((i + 1 : Nat) : Int) - 1) = (i : Int) by omega, if_neg (by omega), if_pos ⟨by omega, by omega⟩, if_pos rfl, m_lay_65, m_lay_66, ww (x := (i : Int) + (-1)) (by omega) (by omega), wwI t1, show (i : Int) + (-1) = (i : Int) - 1 by omega]
      exact ih f _ _ (by omega) (by omega) t1
theorem ml_lay (hN : 10 ≤ N) (h0 : w 49 22 = n) (hn : n ≤ 6) {mo : Nat} (hm : w 56 4 = mo) {x : Int} (hx : aw_I x) : ∃ w', m_lay N x w = some (b2i (decide (0 ≤ x) && vr x.toNat n mo), w') ∧ fr_ S_m_lay w w' ∧ (0 ≤ x → ∀ s, s < n → w' 64 s = (dg x.toNat n s : Int)) := by
  have key : ∃ w', m_lay N x w = some (b2i (decide (0 ≤ x) && vr x.toNat n mo), w') ∧ (0 ≤ x → ∀ s, s < n → w' 64 s = (dg x.toNat n s : Int)) := by
    have hxx := hx
    unfold aw_I at hxx
    rw [m_lay]
    by_cases c : x < 0
    · have c2 : ¬ 0 ≤ x := by omega
      obtain ⟨w', e⟩ := ml_neg (N := N) hn n N w x (by omega) hn hx
      refine ⟨w', ?_, fun h => absurd h c2⟩
      rw [if_pos c, m_lay_11, h0, ww (by omega) (by omega), e]
      simp [b2i, c2]
    · obtain ⟨r, rfl⟩ : ∃ r : Nat, x = r := ⟨x.toNat, by omega⟩
      obtain ⟨w', e, d⟩ := ml_l (N := N) hn r (by omega) n N w true (by omega) (Nat.le_refl _) hm (fun s h1 h2 => absurd h2 (by omega))
      refine ⟨w', ?_, fun _ => d⟩
      rw [Nat.sub_self, Nat.pow_zero, Nat.div_one] at e
      rw [if_neg c, m_lay_11, h0, ww (by omega) (by omega), Int.toNat_natCast]
      refine Eq.trans e ?_
      congr 3
  obtain ⟨w', e, h⟩ := key
  exact ⟨w', e, f_m_lay N _ _ _ _ e, h⟩
end RW
