/-! ===== pure: what a rule's codes are worth, in the class ===== -/
/-- codes C of rule r, and the letters -/
def cx (w : aw_W) (C : List Int) (r : Nat) (L : Nat → Int) : Prop := (∀ j, j < C.length → w 12 (160 * r + j) = C.getD j 0) ∧ w 13 r = (C.length : Int) ∧ r < 4 ∧ C.length ≤ 160 ∧ ∀ j, j < 6 → w 16 j = L j
def sgm (C : List Int) (i : Nat) (cs : List Int) : Prop := i + cs.length ≤ C.length ∧ ∀ j, j < cs.length → C.getD (i + j) 0 = cs.getD j 0
/-- these codes bring the stack from here to there -/
def run_ (N : Nat) (C : List Int) (r : Nat) (cs : List Int) (top : Nat) (w : aw_W) (top' : Nat) (w' : aw_W) : Prop := ∀ F i, sgm C i cs → x_Rules_worth_24 N (F + cs.length) r ((160 * r : Nat) : Int) top 0 i w = x_Rules_worth_24 N F r ((160 * r : Nat) : Int) top' 0 ((i + cs.length : Nat) : Int) w'
def stk (w w' : aw_W) (top : Nat) : Prop := (∀ j, j < top → w' 15 j = w 15 j) ∧ fr_ [(15, 1000000)] w w'
section WO
variable {N : Nat} {w v : aw_W} {C : List Int} {r : Nat} {L : Nat → Int} {tp : List Nat}
theorem cx.fr (h : cx w C r L) (hf : fr_ [(15, 1000000)] w v) : cx v C r L := ⟨fun j hj => by rw [hf 12 _ rfl]; exact h.1 j hj, by rw [hf 13 _ rfl]; exact h.2.1, h.2.2.1, h.2.2.2.1, fun j hj => by rw [hf 16 _ rfl]; exact h.2.2.2.2 j hj⟩
theorem getI_l {a b : List Int} {j : Nat} (h : j < a.length) : (a ++ b).getD j 0 = a.getD j 0 := by
  rw [List.getD_eq_getElem?_getD, List.getD_eq_getElem?_getD, List.getElem?_append_left h]
theorem getI_r {a b : List Int} {j : Nat} : (a ++ b).getD (a.length + j) 0 = b.getD j 0 := by
  rw [List.getD_eq_getElem?_getD, List.getD_eq_getElem?_getD, List.getElem?_append_right (by omega), Nat.add_sub_cancel_left]
theorem sgm_l {i : Nat} {a b : List Int} (h : sgm C i (a ++ b)) : sgm C i a := by
  obtain ⟨h1, h2⟩ := h
  rw [List.length_append] at h1
  exact ⟨by omega, fun j hj => by rw [h2 j (by rw [List.length_append]; omega), getI_l hj]⟩
theorem sgm_r {i : Nat} {a b : List Int} (h : sgm C i (a ++ b)) : sgm C (i + a.length) b := by
  obtain ⟨h1, h2⟩ := h
  rw [List.length_append] at h1
  exact ⟨by omega, fun j hj => by rw [Nat.add_assoc, h2 _ (by rw [List.length_append]; omega), getI_r]⟩
theorem run_nil {top : Nat} : run_ N C r [] top w top w := fun F i _ => rfl
theorem run_app {a b : List Int} {t1 t2 t3 : Nat} {w1 w2 w3 : aw_W} (h1 : run_ N C r a t1 w1 t2 w2) (h2 : run_ N C r b t2 w2 t3 w3) : run_ N C r (a ++ b) t1 w1 t3 w3 := by
  intro F i hs
  rw [List.length_append, show F + (a.length + b.length) = (F + b.length) + a.length by omega, h1 (F + b.length) i (sgm_l hs), h2 F (i + a.length) (sgm_r hs), show i + a.length + b.length = i + (a.length + b.length) by omega]
theorem stk_r (w : aw_W) (top : Nat) : stk w w top := ⟨fun _ _ => rfl, fr_r _ _⟩
/-- one code -/
theorem run_1 {c : Int} {top top' : Nat} {w' : aw_W} (h : cx w C r L) (hc : -9999 ≤ -c ∧ -c ≤ 200) (h59 : -c ≠ 59) (h63 : -c ≠ 63) (ha : x_Rules_apply N (-c) top w = some ((top' : Int), w')) : run_ N C r [c] top w top' w' := by
  intro F i hs
  obtain ⟨h1, h2, h3, h4, h5⟩ := h
  obtain ⟨s1, s2⟩ := hs
  rw [List.length_singleton] at s1
  have e := s2 0 (by simp)
  rw [Nat.add_zero] at e
  have e' : C.getD i 0 = c := e
  have eb : aw_w (((160 * r : Nat) : Int) + (i : Int)) = ((160 * r + i : Nat) : Int) := by rw [ww (by omega) (by omega)]; omega
  have ec : aw_w (-(w 12 (160 * r + i))) = -c := by rw [h1 i (by omega), e', ww (by omega) (by omega)]
  rw [List.length_singleton, x_Rules_worth_24, if_pos ⟨by omega, by omega⟩, Int.toNat_natCast, h2, if_neg (by omega), eb, if_pos ⟨by omega, by omega⟩, Int.toNat_natCast, ec, if_neg h59, if_neg h63, if_pos rfl, ha, b2_some, x_Rules_worth_113, ww1 (by omega)]
theorem ap_num {n : Int} {top : Nat} (h0 : 0 ≤ n) (h1 : n ≤ 9999) (ht : top < 64) : x_Rules_apply N (-n) top w = some (((top + 1 : Nat) : Int), aw_up w 15 top n) := by
  rw [x_Rules_apply, if_neg (by omega), if_neg (by omega), if_pos (by omega), if_neg (by omega), x_Rules_apply_45, if_pos ⟨by omega, by omega⟩, ww1 (by omega), Int.toNat_natCast, Int.neg_neg, ww (by omega) (by omega)]
theorem ap_let {k top : Nat} (hk : k < 6) (ht : top < 64) : x_Rules_apply N (-(-1 - (k : Int))) top w = some (((top + 1 : Nat) : Int), aw_up w 15 top (w 16 k)) := by
  have e : -(-1 - (k : Int)) = (k : Int) + 1 := by omega
  rw [e, x_Rules_apply, if_neg (by omega), if_neg (by omega), if_pos (by omega), if_pos (by omega), ww (x := (k : Int) + 1 - 1) (by omega) (by omega), if_pos ⟨by omega, by omega⟩, x_Rules_apply_45, if_pos ⟨by omega, by omega⟩, ww1 (by omega), Int.toNat_natCast, show ((k : Int) + 1 - 1).toNat = k by omega]
theorem ap_op {c top : Nat} {z : Int} (hc : 33 < c) (hc2 : c ≤ 200) (ht : top + 2 ≤ 64) (hj : ∀ w, x_Rules_join N (c : Int) (v 15 top) (v 15 (top + 1)) w = some (z, w)) : x_Rules_apply N (-(-(c : Int))) ((top + 2 : Nat) : Int) v = some (((top + 1 : Nat) : Int), aw_up v 15 top z) := by
  have e1 : ((top + 2 : Nat) : Int) - 2 = (top : Int) := by omega
  have e2 : ((top + 2 : Nat) : Int) - 1 = ((top + 1 : Nat) : Int) := by omega
  rw [Int.neg_neg, x_Rules_apply, if_pos (by omega), if_neg (by omega), if_pos (by omega), e1, e2, ww (x := (top : Int)) (by omega) (by omega), ww (x := ((top + 1 : Nat) : Int)) (by omega) (by omega), if_pos ⟨by omega, by omega⟩, if_pos ⟨by omega, by omega⟩, Int.toNat_natCast, Int.toNat_natCast, hj, b2_some, if_pos ⟨by omega, by omega⟩]
theorem ap_not {top : Nat} (ht : top + 1 ≤ 64) (hv : v 15 top = 0 ∨ v 15 top = 1) : x_Rules_apply N (-(-33)) ((top + 1 : Nat) : Int) v = some (((top + 1 : Nat) : Int), aw_up v 15 top (1 - v 15 top)) := by
  have e2 : ((top + 1 : Nat) : Int) - 1 = (top : Int) := by omega
  have b : 0 ≤ (top : Int) ∧ (top : Int) < 64 := ⟨by omega, by omega⟩
  rw [x_Rules_apply, if_pos (by decide), if_pos (by decide), if_neg (by omega), e2, ww (x := (top : Int)) (by omega) (by omega), if_pos b, if_pos b, Int.toNat_natCast, x_Rules_apply_79, ww (x := 1 - v 15 top) (by omega) (by omega)]
def Vs (x : Int) : Prop := -1000000 ≤ x ∧ x ≤ 1000000
def Vb (x : Int) : Prop := x = 0 ∨ x = 1
theorem j155 (z : Int) : x_Rules_join_155 N z w = some (clm z, w) := by rw [x_Rules_join_155, win_ok]
theorem jn_s {c : Nat} (hc : isM c = true ∨ isA c = true) {x y : Int} (hx : Vs x) (hy : Vs y) : x_Rules_join N (c : Int) x y w = some (opv c x y, w) := by
  have hm := mul_b hx hy
  have hd := tdv_b (y := y) hx
  unfold Vs at hx hy
  have hcc : c = 42 ∨ c = 47 ∨ c = 43 ∨ c = 45 := by
    rcases hc with z | z
    · rcases of_decide_eq_true z with q | q
      · exact Or.inl q
      · exact Or.inr (Or.inl q)
    · rcases of_decide_eq_true z with q | q
      · exact Or.inr (Or.inr (Or.inl q))
      · exact Or.inr (Or.inr (Or.inr q))
  rw [x_Rules_join]
  rcases hcc with z | z | z | z
  · subst z
    rw [if_neg (by decide), if_pos (by decide), j155, wwl (by omega) (by omega), opv_42]
  · subst z
    rw [if_neg (by decide), if_neg (by decide), if_neg (by decide), if_neg (by decide), if_neg (by decide), if_neg (by decide), if_neg (by decide), if_neg (by decide), opv_47]
    by_cases y0 : y = 0
    · rw [if_pos y0, if_pos y0, x_Rules_join_154, j155, clm0]
    · rw [if_neg y0, if_neg y0, if_pos y0, x_Rules_join_154, j155, ww (x := Int.tdiv x y) (by omega) (by omega)]
  · subst z
    rw [if_neg (by decide), if_neg (by decide), if_pos (by decide), j155, ww (x := x + y) (by omega) (by omega), opv_43]
  · subst z
    rw [if_neg (by decide), if_neg (by decide), if_neg (by decide), if_pos (by decide), j155, ww (x := x - y) (by omega) (by omega), opv_45]
theorem jn_c {c : Nat} (hc : isC c = true) {x y : Int} : x_Rules_join N (c : Int) x y w = some (opv c x y, w) := by
  rw [x_Rules_join]
  rcases of_decide_eq_true hc with z | z | z
  · subst z
    rw [if_neg (by decide), if_neg (by decide), if_neg (by decide), if_neg (by decide), if_neg (by decide), if_pos (by decide), opv_61]
    split <;> rfl
  · subst z
    rw [if_neg (by decide), if_neg (by decide), if_neg (by decide), if_neg (by decide), if_pos (by decide), opv_60]
    by_cases q : y ≤ x
    · rw [if_pos q, if_neg (by omega)]; rfl
    · rw [if_neg q, if_pos (by omega)]; rfl
  · subst z
    rw [if_neg (by decide), if_neg (by decide), if_neg (by decide), if_neg (by decide), if_neg (by decide), if_neg (by decide), if_pos (by decide), opv_62]
    by_cases q : x ≤ y
    · rw [if_pos q, if_neg (by omega)]; rfl
    · rw [if_neg q, if_pos (by omega)]; rfl
theorem jn_b {c : Nat} (hc : isN c = true ∨ isO c = true) {x y : Int} (hx : Vb x) (hy : Vb y) : x_Rules_join N (c : Int) x y w = some (opv c x y, w) := by
  have k1 : aw_and 0 0 = 0 ∧ aw_and 0 1 = 0 ∧ aw_and 1 0 = 0 ∧ aw_and 1 1 = 1 ∧ aw_or 0 0 = 0 ∧ aw_or 0 1 = 1 ∧ aw_or 1 0 = 1 ∧ aw_or 1 1 = 1 := by decide +kernel
  obtain ⟨a1, a2, a3, a4, a5, a6, a7, a8⟩ := k1
  rw [x_Rules_join]
  rcases hc with z | z
  · have : c = 38 := of_decide_eq_true z
    subst this
    rw [if_pos (by decide), opv_38]
    rcases hx with x0 | x0 <;> rcases hy with y0 | y0 <;> rw [x0, y0]
    · rw [a1]; rfl
    · rw [a2]; rfl
    · rw [a3]; rfl
    · rw [a4]; rfl
  · have : c = 124 := of_decide_eq_true z
    subst this
    rw [if_neg (by decide), if_neg (by decide), if_neg (by decide), if_neg (by decide), if_neg (by decide), if_neg (by decide), if_neg (by decide), if_pos (by decide), opv_124]
    rcases hx with x0 | x0 <;> rcases hy with y0 | y0 <;> rw [x0, y0]
    · rw [a5]; rfl
    · rw [a6]; rfl
    · rw [a7]; rfl
    · rw [a8]; rfl
/-- codes that push a value -/
def evl (N : Nat) (cs : List Int) (dn : Dn) (nd : Nat) : Prop := ∀ (C : List Int) (r : Nat) (L : Nat → Int) (top : Nat) (w : aw_W), LO L → cx w C r L → top + nd ≤ 64 → ∃ w', run_ N C r cs top w (top + 1) w' ∧ w' 15 top = dn L ∧ stk w w' top
/-- codes that turn the value on top -/
def evr (N : Nat) (cs : List Int) (t u : Dn) (nd : Nat) : Prop := ∀ (C : List Int) (r : Nat) (L : Nat → Int) (top : Nat) (w : aw_W), LO L → cx w C r L → top + 1 + nd ≤ 64 → w 15 top = t L → ∃ w', run_ N C r cs (top + 1) w (top + 1) w' ∧ w' 15 top = u L ∧ stk w w' top
theorem evr_nil {t : Dn} {nd : Nat} : evr N [] t t nd := fun C r L top w _ _ _ h => ⟨w, run_nil, h, stk_r _ _⟩
theorem stk_t {w1 w2 w3 : aw_W} {top t2 : Nat} (h1 : stk w1 w2 top) (h2 : stk w2 w3 t2) (h : top ≤ t2) : stk w1 w3 top := ⟨fun j hj => (h2.1 j (by omega)).trans (h1.1 j hj), h1.2.trans h2.2⟩
theorem evl_w {cs : List Int} {dn : Dn} {a b : Nat} (h : evl N cs dn a) (hab : a ≤ b) : evl N cs dn b := fun C r L top w hL hc ht => h C r L top w hL hc (by omega)
theorem evr_w {cs : List Int} {t u : Dn} {a b : Nat} (h : evr N cs t u a) (hab : a ≤ b) : evr N cs t u b := fun C r L top w hL hc ht => h C r L top w hL hc (by omega)
theorem evl_r {a b : List Int} {t u : Dn} {n1 n2 : Nat} (h1 : evl N a t n1) (h2 : evr N b t u n2) (hn : n2 + 1 ≤ n1) : evl N (a ++ b) u n1 := by
  intro C r L top w hL hc ht
  obtain ⟨w1, r1, v1, s1⟩ := h1 C r L top w hL hc ht
  obtain ⟨w2, r2, v2, s2⟩ := h2 C r L top w1 hL (hc.fr s1.2) (by omega) v1
  exact ⟨w2, run_app r1 r2, v2, stk_t s1 s2 (Nat.le_refl _)⟩
theorem evr_r {a b : List Int} {t u z : Dn} {n1 n2 : Nat} (h1 : evr N a t u n1) (h2 : evr N b u z n2) (hn : n2 ≤ n1) : evr N (a ++ b) t z n1 := by
  intro C r L top w hL hc ht hv
  obtain ⟨w1, r1, v1, s1⟩ := h1 C r L top w hL hc ht hv
  obtain ⟨w2, r2, v2, s2⟩ := h2 C r L top w1 hL (hc.fr s1.2) (by omega) v1
  exact ⟨w2, run_app r1 r2, v2, stk_t s1 s2 (Nat.le_refl _)⟩
/-- an operand, then its sign -/
theorem evr_o {cs : List Int} {t a : Dn} {c nd : Nat} (ha : evl N cs a nd) (hn : 1 ≤ nd) (hc : 33 < c ∧ c ≤ 200 ∧ c ≠ 59 ∧ c ≠ 63) (hj : ∀ L, LO L → ∀ w, x_Rules_join N (c : Int) (t L) (a L) w = some (opv c (t L) (a L), w)) : evr N (cs ++ [-(c : Int)]) t (opd c t a) nd := by
  intro C r L top w hL hcx ht hv
  obtain ⟨w1, r1, v1, s1⟩ := ha C r L (top + 1) w hL hcx (by omega)
  have q := hcx.fr s1.2
  have e15 : w1 15 top = t L := by rw [s1.1 top (by omega)]; exact hv
  have ap := ap_op (N := N) (v := w1) (c := c) (top := top) (z := opv c (t L) (a L)) hc.1 hc.2.1 (by omega) (fun w => by rw [e15, v1]; exact hj L hL w)
  refine ⟨_, run_app r1 (run_1 q (by omega) (by omega) (by omega) ap), up_in, ⟨fun j hj => by rw [up_out (Or.inr (by omega)), s1.1 j (by omega)], s1.2.trans ((fr_r _ _).upA rfl)⟩⟩
end WO
