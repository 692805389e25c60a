/-! ===== pure: a rule's worth, on both sides ===== -/
section RU
variable {N : Nat} {w v : aw_W} {C : List Int} {r : Nat} {L : Nat → Int} {tp : List Nat} {p : Nat}
theorem wrd {i : Nat} (h : cx w C r L) (hi : i < C.length) (hc : -9999 ≤ C.getD i 0 ∧ C.getD i 0 ≤ 9999) : aw_w (((160 * r : Nat) : Int) + (i : Int)) = ((160 * r + i : Nat) : Int) ∧ aw_w (-(w 12 (160 * r + i))) = -(C.getD i 0) := by
  obtain ⟨h1, h2, h3, h4, h5⟩ := h
  exact ⟨by rw [ww (by omega) (by omega)]; omega, by rw [h1 i hi, ww (by omega) (by omega)]⟩
theorem st63 {F i top : Nat} (h : cx w C r L) (hi : i < C.length) (hc : C.getD i 0 = -63) : x_Rules_worth_24 N (F + 1) r ((160 * r : Nat) : Int) top 0 i w = x_Rules_worth_24 N F r ((160 * r : Nat) : Int) ((0 : Nat) : Int) (if w 15 0 = 0 then 1 else 0) ((i + 1 : Nat) : Int) w := by
  obtain ⟨e1, e2⟩ := wrd h hi (by omega)
  obtain ⟨h1, h2, h3, h4, h5⟩ := h
  rw [hc] at e2
  rw [x_Rules_worth_24, if_pos ⟨by omega, by omega⟩, Int.toNat_natCast, h2, if_neg (by omega), e1, if_pos ⟨by omega, by omega⟩, Int.toNat_natCast, e2, if_neg (by decide), if_pos (by decide)]
  by_cases z : w 15 0 = 0
  · rw [if_pos z, if_pos z, x_Rules_worth_93, x_Rules_worth_113, ww1 (by omega)]
    rfl
  · rw [if_neg z, if_neg z, x_Rules_worth_93, x_Rules_worth_113, ww1 (by omega)]
    rfl
theorem st59_0 {F i top : Nat} (h : cx w C r L) (hi : i < C.length) (hc : C.getD i 0 = -59) : x_Rules_worth_24 N (F + 1) r ((160 * r : Nat) : Int) top 0 i w = some (w 15 0, w) := by
  obtain ⟨e1, e2⟩ := wrd h hi (by omega)
  obtain ⟨h1, h2, h3, h4, h5⟩ := h
  rw [hc] at e2
  rw [x_Rules_worth_24, if_pos ⟨by omega, by omega⟩, Int.toNat_natCast, h2, if_neg (by omega), e1, if_pos ⟨by omega, by omega⟩, Int.toNat_natCast, e2, if_pos (by decide), if_pos rfl]
  rfl
theorem st59_1 {F i top : Nat} (h : cx w C r L) (hi : i < C.length) (hc : C.getD i 0 = -59) : x_Rules_worth_24 N (F + 1) r ((160 * r : Nat) : Int) top 1 i w = x_Rules_worth_24 N F r ((160 * r : Nat) : Int) top 0 ((i + 1 : Nat) : Int) w := by
  obtain ⟨e1, e2⟩ := wrd h hi (by omega)
  obtain ⟨h1, h2, h3, h4, h5⟩ := h
  rw [hc] at e2
  rw [x_Rules_worth_24, if_pos ⟨by omega, by omega⟩, Int.toNat_natCast, h2, if_neg (by omega), e1, if_pos ⟨by omega, by omega⟩, Int.toNat_natCast, e2, if_pos (by decide), if_neg (by decide), x_Rules_worth_113, ww1 (by omega)]
theorem skp (h : cx w C r L) : ∀ (cs : List Int) (F i top : Nat), nos cs → sgm C i cs → x_Rules_worth_24 N (F + cs.length) r ((160 * r : Nat) : Int) top 1 i w = x_Rules_worth_24 N F r ((160 * r : Nat) : Int) top 1 ((i + cs.length : Nat) : Int) w
  | [], F, i, top, _, _ => rfl
  | c :: cs, F, i, top, hn, hs => by
    have hs1 : sgm C (i + 1) cs := sgm_r (a := [c]) (b := cs) hs
    have ih := skp h cs F (i + 1) top (fun x hx => hn x (List.mem_cons_of_mem _ hx)) hs1
    have hc := hn c (List.mem_cons_self ..)
    have e0 : C.getD i 0 = c := by
      have := hs.2 0 (by simp)
      rw [Nat.add_zero] at this
      exact this
    have hi : i < C.length := by have := hs.1; rw [List.length_cons] at this; omega
    obtain ⟨e1, e2⟩ := wrd h hi (by omega)
    obtain ⟨h1, h2, h3, h4, h5⟩ := h
    rw [List.length_cons, show F + (cs.length + 1) = F + cs.length + 1 by omega, x_Rules_worth_24, if_pos ⟨by omega, by omega⟩, Int.toNat_natCast, h2, if_neg (by omega), e1, if_pos ⟨by omega, by omega⟩, Int.toNat_natCast, e2, e0, if_neg (by omega), if_neg (by omega), if_neg (by decide), x_Rules_worth_113, ww1 (by omega), ih, show i + 1 + cs.length = i + (cs.length + 1) by omega]
theorem sgm_at {i : Nat} {c : Int} {b : List Int} (h : sgm C i (c :: b)) : i < C.length ∧ C.getD i 0 = c := by
  obtain ⟨h1, h2⟩ := h
  rw [List.length_cons] at h1
  have := h2 0 (by simp)
  rw [Nat.add_zero] at this
  exact ⟨by omega, this⟩
/-- what the loop does with a clause -/
def wcs (N : Nat) (R : Rc) : Prop := R.1 = true → ∀ (C : List Int) (r : Nat) (L : Nat → Int) (F i : Nat) (w : aw_W), LO L → cx w C r L → sgm C i R.2.2.1 → (R.2.2.2.1 L ≠ 0 → ∃ w', x_Rules_worth_24 N (F + R.2.2.1.length) r ((160 * r : Nat) : Int) ((0 : Nat) : Int) 0 i w = some (R.2.2.2.2 L, w')) ∧ (R.2.2.2.1 L = 0 → ∃ w', x_Rules_worth_24 N (F + R.2.2.1.length) r ((160 * r : Nat) : Int) ((0 : Nat) : Int) 0 i w = x_Rules_worth_24 N F r ((160 * r : Nat) : Int) ((0 : Nat) : Int) 0 ((i + R.2.2.1.length : Nat) : Int) w' ∧ cx w' C r L)
theorem clq_w {pre : List Int} {K : Rz} (hK : K.1 = true → evl N (pre ++ K.2.2.1) K.2.2.2 18) : wcs N (clq tp pre K) := by
  intro h C r L F i w hL hcx hs
  cases h0 : K.1 with
  | false => rw [clq_f h0] at h; exact nof5 h
  | true =>
    by_cases y : gb tp (sk tp K.2.1) = 63
    · cases hB : (psm tp 6 (sk tp K.2.1 + 1)).1 with
      | false => rw [clq_h h0 y rfl hB] at h; exact nof5 h
      | true =>
        obtain ⟨b1, b2, b3⟩ := (psm_ev (N := N) (tp := tp) 6).2 (sk tp K.2.1 + 1) hB
        rw [clq_y h0 y rfl hB] at hs ⊢
        generalize psm tp 6 (sk tp K.2.1 + 1) = S at b1 b2 b3 hs ⊢
        have e : pre ++ (K.2.2.1 ++ (-63) :: (S.2.2.1 ++ [-59])) = (pre ++ K.2.2.1) ++ ((-63) :: (S.2.2.1 ++ [-59])) := by rw [List.append_assoc]
        have hs' : sgm C i ((pre ++ K.2.2.1) ++ ((-63) :: (S.2.2.1 ++ [-59]))) := by rw [← e]; exact hs
        have sA := sgm_l hs'
        have sB := sgm_r hs'
        obtain ⟨sb1, sb2⟩ := sgm_at sB
        have sC : sgm C (i + (pre ++ K.2.2.1).length + 1) (S.2.2.1 ++ [-59]) := sgm_r (a := [-63]) sB
        have sD := sgm_l sC
        obtain ⟨sd1, sd2⟩ := sgm_at (sgm_r sC)
        obtain ⟨w1, r1, v1, s1⟩ := hK h0 C r L 0 w hL hcx (by omega)
        have cx1 := hcx.fr s1.2
        have len : (pre ++ (K.2.2.1 ++ (-63) :: (S.2.2.1 ++ [-59]))).length = (pre ++ K.2.2.1).length + 1 + S.2.2.1.length + 1 := by simp only [List.length_append, List.length_cons, List.length_nil]; omega
        have g1 : x_Rules_worth_24 N (F + 1 + S.2.2.1.length + 1 + (pre ++ K.2.2.1).length) r ((160 * r : Nat) : Int) ((0 : Nat) : Int) 0 i w = x_Rules_worth_24 N (F + 1 + S.2.2.1.length) r ((160 * r : Nat) : Int) ((0 : Nat) : Int) (if K.2.2.2 L = 0 then 1 else 0) ((i + (pre ++ K.2.2.1).length + 1 : Nat) : Int) w1 := by
          rw [r1 (F + 1 + S.2.2.1.length + 1) i sA, st63 cx1 sb1 sb2, v1]
        have ef : F + (pre ++ (K.2.2.1 ++ (-63) :: (S.2.2.1 ++ [-59]))).length = F + 1 + S.2.2.1.length + 1 + (pre ++ K.2.2.1).length := by rw [len]; omega
        show (K.2.2.2 L ≠ 0 → ∃ w', x_Rules_worth_24 N (F + (pre ++ (K.2.2.1 ++ (-63) :: (S.2.2.1 ++ [-59]))).length) r ((160 * r : Nat) : Int) ((0 : Nat) : Int) 0 i w = some (S.2.2.2 L, w')) ∧ (K.2.2.2 L = 0 → ∃ w', x_Rules_worth_24 N (F + (pre ++ (K.2.2.1 ++ (-63) :: (S.2.2.1 ++ [-59]))).length) r ((160 * r : Nat) : Int) ((0 : Nat) : Int) 0 i w = x_Rules_worth_24 N F r ((160 * r : Nat) : Int) ((0 : Nat) : Int) 0 ((i + (pre ++ (K.2.2.1 ++ (-63) :: (S.2.2.1 ++ [-59]))).length : Nat) : Int) w' ∧ cx w' C r L)
        rw [ef, g1]
        refine ⟨fun z => ?_, fun z => ?_⟩
        · obtain ⟨w2, r2, v2, s2⟩ := b1 C r L 0 w1 hL cx1 (by omega)
          rw [if_neg z, r2 (F + 1) _ sD, st59_0 (cx1.fr s2.2) sd1 sd2, v2]
          exact ⟨w2, rfl⟩
        · rw [if_pos z, skp cx1 S.2.2.1 (F + 1) _ _ b3 sD, st59_1 cx1 sd1 sd2, len]
          exact ⟨w1, by rw [show i + (pre ++ K.2.2.1).length + 1 + S.2.2.1.length + 1 = i + ((pre ++ K.2.2.1).length + 1 + S.2.2.1.length + 1) by omega], cx1⟩
    · rw [clq_g h0 y] at h; exact nof5 h
theorem cla_w {q : Nat} : wcs N (cla tp q) := by
  unfold cla
  by_cases c1 : gb tp q = 33 ∨ gb tp q = 40
  · rw [if_pos c1]
    exact clq_w (fun z => ((pun_ev (N := N) (tp := tp) 6).2 q z).1)
  · rw [if_neg c1]
    have hev := (psm_ev (N := N) (tp := tp) 6).2 q
    generalize psm tp 6 q = S at hev ⊢
    cases hB : S.1 with
    | false => rw [if_pos rfl]; exact fun z => nof5 z
    | true =>
      rw [if_neg (by decide)]
      cases hC : isC (gb tp (sk tp S.2.1)) with
      | true =>
        rw [if_pos rfl]
        exact clq_w (beg_ev hB hev)
      | false =>
        rw [if_neg (by decide)]
        intro _ C r L F i w hL hcx hs
        obtain ⟨b1, b2, b3⟩ := hev hB
        have sA := sgm_l (a := S.2.2.1) (b := [-59]) hs
        obtain ⟨sd1, sd2⟩ := sgm_at (sgm_r (a := S.2.2.1) (b := [-59]) hs)
        obtain ⟨w2, r2, v2, s2⟩ := b1 C r L 0 w hL hcx (by omega)
        refine ⟨fun _ => ?_, fun z => absurd z (by show ¬ (1 : Int) = 0; decide)⟩
        show ∃ w', x_Rules_worth_24 N (F + (S.2.2.1 ++ [-59]).length) r ((160 * r : Nat) : Int) ((0 : Nat) : Int) 0 i w = some (S.2.2.2 L, w')
        rw [List.length_append, List.length_singleton, show F + (S.2.2.1.length + 1) = (F + 1) + S.2.2.1.length by omega, r2 (F + 1) i sA, st59_0 (hcx.fr s2.2) sd1 sd2, v2]
        exact ⟨w2, rfl⟩
theorem pcz_w : wcs N (pcz tp p) := by
  unfold pcz
  by_cases c1 : gb tp (sk tp p) = 121
  · rw [if_neg (fun q => q c1)]
    by_cases c2 : gb tp (sk tp (sk tp p + 1)) = 58
    · rw [if_neg (fun q => q c2)]; exact cla_w
    · rw [if_pos c2]; exact fun z => nof5 z
  · rw [if_pos c1]; exact fun z => nof5 z
theorem prl_w (hL : LO L) : ∀ (f p F i : Nat) (w : aw_W), (prl tp f p).1 = -1 → sgm C i (prl tp f p).2.1 → i + (prl tp f p).2.1.length = C.length → cx w C r L → ∃ w', x_Rules_worth_24 N (F + 1 + (prl tp f p).2.1.length) r ((160 * r : Nat) : Int) ((0 : Nat) : Int) 0 i w = some ((prl tp f p).2.2 L, w')
  | 0, p, F, i, w, h, _, _, _ => by
    have h' : (p : Int) = -1 := h
    omega
  | f + 1, p, F, i, w, h, hs, hi, hcx => by
    have hw := pcz_w (N := N) (tp := tp) (p := p)
    rw [prl_s] at h hs hi ⊢
    have ih := prl_w hL f (sk tp (pcz tp p).2.1 + 1)
    generalize pcz tp p = R at h hs hi hw ih ⊢
    cases hR : R.1 with
    | false =>
      rw [hR, if_pos rfl] at h
      have h' : (R.2.1 : Int) = -1 := h
      omega
    | true =>
      rw [hR, if_neg (by decide)] at h hs hi
      rw [if_neg (by decide)]
      by_cases c : gb tp (sk tp R.2.1) = 59
      · rw [if_pos c] at h hs hi ⊢
        generalize prl tp f (sk tp R.2.1 + 1) = U at h hs hi ih ⊢
        have hi' : i + (R.2.2.1 ++ U.2.1).length = C.length := hi
        have hs' : sgm C i (R.2.2.1 ++ U.2.1) := hs
        rw [List.length_append] at hi'
        obtain ⟨k1, k2⟩ := hw hR C r L (F + 1 + U.2.1.length) i w hL hcx (sgm_l hs')
        show ∃ w', x_Rules_worth_24 N (F + 1 + (R.2.2.1 ++ U.2.1).length) r ((160 * r : Nat) : Int) ((0 : Nat) : Int) 0 i w = some ((if R.2.2.2.1 L = 0 then U.2.2 L else R.2.2.2.2 L), w')
        rw [List.length_append, show F + 1 + (R.2.2.1.length + U.2.1.length) = F + 1 + U.2.1.length + R.2.2.1.length by omega]
        by_cases z : R.2.2.2.1 L = 0
        · obtain ⟨w1, e1, cx1⟩ := k2 z
          obtain ⟨w2, e2⟩ := ih F (i + R.2.2.1.length) w1 h (sgm_r hs') (by omega) cx1
          rw [if_pos z, e1, e2]
          exact ⟨w2, rfl⟩
        · obtain ⟨w1, e1⟩ := k1 z
          rw [if_neg z, e1]
          exact ⟨w1, rfl⟩
      · rw [if_neg c] at h hs hi ⊢
        by_cases c2 : gb tp (sk tp R.2.1) = 0
        · rw [if_pos c2] at h hs hi ⊢
          obtain ⟨k1, k2⟩ := hw hR C r L (F + 1) i w hL hcx hs
          show ∃ w', x_Rules_worth_24 N (F + 1 + R.2.2.1.length) r ((160 * r : Nat) : Int) ((0 : Nat) : Int) 0 i w = some ((if R.2.2.2.1 L = 0 then 0 else R.2.2.2.2 L), w')
          have hi' : i + R.2.2.1.length = C.length := hi
          by_cases z : R.2.2.2.1 L = 0
          · obtain ⟨w1, e1, h1, h2, h3, h4, h5⟩ := k2 z
            rw [if_pos z, e1, x_Rules_worth_24, if_pos ⟨by omega, by omega⟩, Int.toNat_natCast, h2, if_pos (by omega)]
            exact ⟨w1, rfl⟩
          · obtain ⟨w1, e1⟩ := k1 z
            rw [if_neg z, e1]
            exact ⟨w1, rfl⟩
        · rw [if_neg c2] at h
          have h' : (sk tp R.2.1 : Int) = -1 := h
          omega
/-- the worth of a kept rule, in the class -/
theorem X_worth (hN : 200 ≤ N) {k : Nat} (hk : w 11 6 = (k : Int)) (hr : r < k) (hL : LO L) (hp : (prlT tp).1 = -1) (hcx : cx w (prlT tp).2.1 r L) : ∃ w', x_Rules_worth N (r : Int) w = some ((prlT tp).2.2 L, w') := by
  obtain ⟨h1, h2, h3, h4, h5⟩ := id hcx
  rw [x_Rules_worth, X_rholds hk, b2_some, if_neg (fun z => (b2i_and.mp z) ⟨by omega, by omega⟩), ww (x := (r : Int) * 160) (by omega) (by omega), show (r : Int) * 160 = ((160 * r : Nat) : Int) by omega]
  obtain ⟨w', e⟩ := prl_w (N := N) (tp := tp) (C := (prlT tp).2.1) (r := r) hL (tp.length + 1) 0 (N - (prlT tp).2.1.length - 1) 0 w hp ⟨by rw [Nat.zero_add]; exact Nat.le_refl _, fun j _ => by rw [Nat.zero_add]; rfl⟩ (by rw [Nat.zero_add]; rfl) hcx
  have ef : N - (prlT tp).2.1.length - 1 + 1 + (prlT tp).2.1.length = N := by omega
  have e' : x_Rules_worth_24 N (N - (prlT tp).2.1.length - 1 + 1 + (prlT tp).2.1.length) r ((160 * r : Nat) : Int) ((0 : Nat) : Int) 0 ((0 : Nat) : Int) w = some ((prlT tp).2.2 L, w') := e
  rw [ef] at e'
  exact ⟨w', e'⟩
end RU
