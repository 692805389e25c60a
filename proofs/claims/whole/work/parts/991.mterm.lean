/-! ===== pure: terms and sums, in the reference ===== -/
section MT2
variable {N : Nat} {w v : aw_W} {tp : List Nat} {p B o d : Nat}
theorem win_ok (z : Int) : aw_w (aw_mxL (-1000000) (aw_mn 1000000 z)) = clm z := by
  have h := clm_b z
  have e : aw_mxL (-1000000) (aw_mn 1000000 z) = clm z := by
    unfold aw_mxL aw_mn clm
    by_cases c1 : z < -1000000
    · rw [if_pos (show z < 1000000 by omega), if_pos c1, if_pos c1]
    · rw [if_neg c1]
      by_cases c2 : 1000000 < z
      · rw [if_neg (show ¬ z < 1000000 by omega), if_pos c2, if_neg (by decide)]
      · rw [if_neg c2]
        by_cases c3 : z < 1000000
        · rw [if_pos c3, if_neg c1]
        · rw [if_neg c3, if_neg (by decide)]
          omega
  rw [e, ww (by omega) (by omega)]
theorem M_within {z : Int} : m_within N z w = some (clm z, w) := by rw [m_within, win_ok]
theorem wwl {x : Int} (h0 : -9223372036854775808 ≤ x) (h1 : x < 9223372036854775808) : aw_wl x = x := by unfold aw_wl; omega
theorem mul_b {x y : Int} (hx : -1000000 ≤ x ∧ x ≤ 1000000) (hy : -1000000 ≤ y ∧ y ≤ 1000000) : -1000000000000 ≤ x * y ∧ x * y ≤ 1000000000000 := by
  have h1 : x.natAbs ≤ 1000000 := by omega
  have h2 : y.natAbs ≤ 1000000 := by omega
  have h3 : (x * y).natAbs ≤ 1000000 * 1000000 := by rw [Int.natAbs_mul]; exact Nat.mul_le_mul h1 h2
  omega
theorem tdv_b {x y : Int} (hx : -1000000 ≤ x ∧ x ≤ 1000000) : -1000000 ≤ Int.tdiv x y ∧ Int.tdiv x y ≤ 1000000 := by
  have h1 : x.natAbs ≤ 1000000 := by omega
  have h3 : (Int.tdiv x y).natAbs ≤ x.natAbs := by rw [Int.natAbs_tdiv]; exact Nat.div_le_self _ _
  omega
theorem cmp0 {r : Int} : aw_cmpL r 0 = 0 ↔ r = 0 := by
  unfold aw_cmpL
  by_cases c1 : 0 < r
  · rw [if_pos c1]; omega
  · rw [if_neg c1]
    by_cases c2 : r = 0
    · rw [if_pos c2]; omega
    · rw [if_neg c2]; omega
theorem gb_ne {c : Nat} (htk : tpk tp) (hc : 1 ≤ c) (h : gb tp p ≠ c) : lk tp p ≠ (c : Int) := fun q => h ((lk_is htk hc).mp q)
theorem opv_43 (x y : Int) : opv 43 x y = clm (x + y) := by unfold opv; rw [if_pos rfl]
theorem opv_45 (x y : Int) : opv 45 x y = clm (x - y) := by unfold opv; rw [if_neg (by decide), if_pos rfl]
theorem opv_42 (x y : Int) : opv 42 x y = clm (x * y) := by unfold opv; rw [if_neg (by decide), if_neg (by decide), if_pos rfl]
theorem opv_47 (x y : Int) : opv 47 x y = if y = 0 then 0 else clm (Int.tdiv x y) := by unfold opv; rw [if_neg (by decide), if_neg (by decide), if_neg (by decide), if_pos rfl]
theorem clm0 : clm 0 = 0 := by unfold clm; rw [if_neg (by omega), if_neg (by omega)]
theorem opd_e (c : Nat) (s t : Dn) (L : Nat → Int) : opd c s t L = opv c (s L) (t L) := rfl
/-- the reference's loop over a term -/
theorem mtl (hN : 200 ≤ N) {ca ct cs : aw_W → Option (Int × aw_W)} {pa : Nat → Rz} (hpa : okps tp pa) (hbd : ∀ p, bnd (pa p)) (hca : ∀ p, p ≤ tp.length → msp tp B o d anyQ ca p (pa p)) : ∀ (f p F : Nat) (vl : Int) (w : aw_W) (t : Dn), tp.length < p + f → f + 1 < F → p ≤ tp.length → MP w B o tp p → w 49 11 = -1 → w 49 12 = ((6 - d : Nat) : Int) → bdt t → ∃ y w', m_term_5 ca ct cs N F vl w = some (y, w') ∧ fr_ S_3 w w' ∧ ((trr tp isM pa f p t).1 = true → w' 49 11 = -1 ∧ w' 49 12 = ((6 - d : Nat) : Int) ∧ MP w' B o tp (trr tp isM pa f p t).2.1 ∧ ∀ L, LO L → (∀ j, j < 6 → w 53 (lt6 j) = L j) → vl = t L → y = (trr tp isM pa f p t).2.2.2 L) ∧ ((trr tp isM pa f p t).1 = false → w' 49 11 = ((trr tp isM pa f p t).2.1 : Int)) := by
  intro f
  induction f with
  | zero => intro p F vl w t hf hF hp; omega
  | succ f ih =>
    intro p F vl w t hf hF hp h hfl hdp ht
    obtain ⟨F, rfl⟩ : ∃ g, F = g + 2 := ⟨F - 2, by omega⟩
    have htk := h.2.2.2.2.2.1
    have h160 := htk.1
    have hk := sk_le hp
    obtain ⟨w1, e1, h1, f1⟩ := M_look (N := N) hN h
    obtain ⟨w2, e2, h2, f2⟩ := M_look (N := N) hN h1
    obtain ⟨w3, e3, h3, f3⟩ := M_look (N := N) hN h2
    rw [sk_sk hp] at e2 h2
    rw [sk_sk hk.2] at e3 h3
    rw [sk_sk hp] at e3 h3
    have i42 : lk tp (sk tp p) = 42 ↔ gb tp (sk tp p) = 42 := lk_is htk (c := 42) (by decide)
    have i47 : lk tp (sk tp p) = 47 ↔ gb tp (sk tp p) = 47 := lk_is htk (c := 47) (by decide)
    -- one more factor, from a world that stands at the sign
    have step : ∀ (wz : aw_W) (s0 : Int), MP wz B o tp (sk tp p) → fr_ [(49, 10)] w wz → isM (gb tp (sk tp p)) = true → (gb tp (sk tp p) = 42 ∧ s0 = 1 ∨ gb tp (sk tp p) = 47 ∧ s0 = 0) → ∃ y w', m_term_45 ca ct cs N (m_term_5 ca ct cs N (F + 1)) vl s0 wz = some (y, w') ∧ fr_ S_3 w w' ∧ ((trr tp isM pa (f + 1) p t).1 = true → w' 49 11 = -1 ∧ w' 49 12 = ((6 - d : Nat) : Int) ∧ MP w' B o tp (trr tp isM pa (f + 1) p t).2.1 ∧ ∀ L, LO L → (∀ j, j < 6 → w 53 (lt6 j) = L j) → vl = t L → y = (trr tp isM pa (f + 1) p t).2.2.2 L) ∧ ((trr tp isM pa (f + 1) p t).1 = false → w' 49 11 = ((trr tp isM pa (f + 1) p t).2.1 : Int)) := by
      intro wz s0 hz fz hM hs
      have hql := isT_lt isM0 hM
      have fu : fr_ [(49, 10)] w (aw_up wz 49 10 ((sk tp p + 1 : Nat) : Int)) := fz.up rfl
      obtain ⟨y1, w4, e4, -, f4, g4, b4⟩ := hca (sk tp p + 1) (by omega) (aw_up wz 49 10 ((sk tp p + 1 : Nat) : Int)) (hz.to (by omega)) (by rw [fu 49 11 rfl]; exact hfl) (by rw [fu 49 12 rfl]; exact hdp)
      obtain ⟨⟨a1, a2, a3⟩, a4⟩ := hpa (sk tp p + 1) (by omega)
      have fA : fr_ S_3 w w4 := (fr_m rfl fu).trans f4
      -- what is passed on
      have pass : ∃ z : Int, m_term_45 ca ct cs N (m_term_5 ca ct cs N (F + 1)) vl s0 wz = m_term_5 ca ct cs N (F + 1) (clm z) w4 ∧ ((-1000000 ≤ vl ∧ vl ≤ 1000000) → (-1000000 ≤ y1 ∧ y1 ≤ 1000000) → clm z = opv (gb tp (sk tp p)) vl y1) := by
        rw [m_term_45, hz.2.2.2.1, ww1 (by omega), e4, b2_some]
        rcases hs with ⟨s1, s2⟩ | ⟨s1, s2⟩
        · subst s2
          rw [if_neg (by decide), m_term_87, M_within, b2_some]
          refine ⟨_, rfl, fun q1 q2 => ?_⟩
          have := mul_b q1 q2
          rw [wwl (by omega) (by omega), s1, opv_42]
        · subst s2
          rw [if_pos rfl]
          by_cases c0 : y1 = 0
          · rw [if_pos (cmp0.mpr c0), m_term_87, M_within, b2_some]
            refine ⟨_, rfl, fun _ _ => ?_⟩
            rw [s1, c0, opv_47, if_pos rfl, clm0]
          · rw [if_neg (fun q => c0 (cmp0.mp q)), if_pos c0, m_term_87, M_within, b2_some]
            refine ⟨_, rfl, fun q1 q2 => ?_⟩
            have := tdv_b (y := y1) q1
            rw [wwl (by omega) (by omega), s1, opv_47, if_neg c0]
      obtain ⟨z, ez, vz⟩ := pass
      rw [ez]
      cases hA : (pa (sk tp p + 1)).1 with
      | false =>
        have q := b4 hA
        rw [trr_f hM hA, m_term_5, if_neg (by omega)]
        exact ⟨_, w4, rfl, fA, fun z => nof z, fun _ => q⟩
      | true =>
        obtain ⟨q1, q2, q3, q4⟩ := g4 hA
        have a6 := a4 hA
        obtain ⟨y, w', r1, r2, r3, r4⟩ := ih (pa (sk tp p + 1)).2.1 (F + 1) (clm z) w4 (opd (gb tp (sk tp p)) t (pa (sk tp p + 1)).2.2.2) (by omega) (by omega) a2 q3 q1 q2 opd_b
        rw [trr_y hM hA]
        refine ⟨y, w', r1, fA.trans r2, fun z' => ?_, r4⟩
        obtain ⟨u1, u2, u3, u4⟩ := r3 z'
        refine ⟨u1, u2, u3, fun L hL hl hv => u4 L hL (fun j hj => by rw [fA 53 _ rfl]; exact hl j hj) ?_⟩
        have e1 := q4 L hL (fun j hj => by rw [fu 53 _ rfl]; exact hl j hj)
        have bt := ht L hL
        have ba := hbd (sk tp p + 1) hA L hL
        rw [vz (by rw [hv]; exact bt) (by rw [e1]; exact ba), hv, e1, opd_e]
    rw [m_term_5, if_pos hfl, e1, b2_some]
    cases hM : isM (gb tp (sk tp p)) with
    | true =>
      have cm : gb tp (sk tp p) = 42 ∨ gb tp (sk tp p) = 47 := of_decide_eq_true hM
      by_cases c : gb tp (sk tp p) = 42
      · rw [if_pos (i42.mpr c), m_term_31, e2, b2_some, if_pos (i42.mpr c)]
        exact step w2 1 h2 (f1.trans f2) hM (Or.inl ⟨c, rfl⟩)
      · have c7 := cm.resolve_left c
        rw [if_neg (fun q => c (i42.mp q)), e2, b2_some, if_pos (i47.mpr c7), m_term_31, e3, b2_some, if_neg (fun q => c (i42.mp q))]
        exact step w3 0 h3 (f1.trans (f2.trans f3)) hM (Or.inr ⟨c7, rfl⟩)
    | false =>
      have nm : ¬ (gb tp (sk tp p) = 42 ∨ gb tp (sk tp p) = 47) := of_decide_eq_false hM
      have fA : fr_ [(49, 10)] w w2 := f1.trans f2
      rw [if_neg (fun q => nm (Or.inl (i42.mp q))), e2, b2_some, if_neg (fun q => nm (Or.inr (i47.mp q))), m_term_94, trr_n hM]
      exact ⟨vl, w2, rfl, fr_m rfl fA, fun _ => ⟨by rw [fA 49 11 rfl]; exact hfl, by rw [fA 49 12 rfl]; exact hdp, h2, fun _ _ _ hv => hv⟩, fun z => Bool.noConfusion (show true = false from z)⟩
theorem M_tmb (hN : 200 ≤ N) {ca ct cs : aw_W → Option (Int × aw_W)} {pa : Nat → Rz} (hpa : okps tp pa) (hbd : ∀ p, bnd (pa p)) (hca : ∀ p, p ≤ tp.length → msp tp B o d anyQ ca p (pa p)) (hp : p ≤ tp.length) : msp tp B o d anyQ (m_term_b ca ct cs N) p (ptA tp isM pa (pa p)) := by
  intro w h hf hdp
  have h160 := h.2.2.2.2.2.1.1
  obtain ⟨y1, w1, e1, -, f1, g1, b1⟩ := hca p hp w h hf hdp
  obtain ⟨⟨a1, a2, a3⟩, a4⟩ := hpa p hp
  rw [m_term_b, e1, b2_some]
  cases hA : (pa p).1 with
  | false =>
    have q := b1 hA
    obtain ⟨M, hM⟩ : ∃ M, N = M + 1 := ⟨N - 1, by omega⟩
    have e2 : m_term_5 ca ct cs N N y1 w1 = some (y1, w1) := by
      conv => lhs; arg 5; rw [hM]
      rw [m_term_5, if_neg (by omega)]
      rfl
    rw [e2, ptA_f hA]
    exact ⟨y1, w1, rfl, trivial, f1, fun z => nof z, fun _ => q⟩
  | true =>
    obtain ⟨q1, q2, q3, q4⟩ := g1 hA
    obtain ⟨y, w', r1, r2, r3, r4⟩ := mtl (N := N) (ca := ca) (ct := ct) (cs := cs) hN hpa hbd hca (tp.length + 1) (pa p).2.1 N y1 w1 (pa p).2.2.2 (by omega) (by omega) a2 q3 q1 q2 (hbd p hA)
    refine ⟨y, w', r1, trivial, f1.trans r2, fun z => ?_, fun z => ?_⟩
    · obtain ⟨T, hT⟩ : ∃ T, trr tp isM pa (tp.length + 1) (pa p).2.1 (pa p).2.2.2 = T := ⟨_, rfl⟩
      rw [hT] at r3 r4
      cases h2 : T.1 with
      | false => rw [ptA_g hA hT h2] at z; exact nof z
      | true =>
        rw [ptA_y hA hT h2]
        obtain ⟨u1, u2, u3, u4⟩ := r3 h2
        exact ⟨u1, u2, u3, fun L hL hl => u4 L hL (fun j hj => by rw [f1 53 _ rfl]; exact hl j hj) (q4 L hL hl)⟩
    · obtain ⟨T, hT⟩ : ∃ T, trr tp isM pa (tp.length + 1) (pa p).2.1 (pa p).2.2.2 = T := ⟨_, rfl⟩
      rw [hT] at r3 r4
      cases h2 : T.1 with
      | false => rw [ptA_g hA hT h2]; exact r4 h2
      | true => rw [ptA_y hA hT h2] at z; exact Bool.noConfusion (show true = false from z)
/-- the reference's loop over a sum -/
theorem msl (hN : 200 ≤ N) {ca ct cs : aw_W → Option (Int × aw_W)} {pa : Nat → Rz} (hpa : okps tp pa) (hbd : ∀ p, bnd (pa p)) (hct : ∀ p, p ≤ tp.length → msp tp B o d anyQ ct p (ptA tp isM pa (pa p))) : ∀ (f p F : Nat) (vl : Int) (w : aw_W) (s : Dn), tp.length < p + f → f + 1 < F → p ≤ tp.length → MP w B o tp p → w 49 11 = -1 → w 49 12 = ((6 - d : Nat) : Int) → bdt s → ∃ y w', m_sum_5 ca ct cs N F vl w = some (y, w') ∧ fr_ S_3 w w' ∧ ((srr tp isM isA pa f p s).1 = true → w' 49 11 = -1 ∧ w' 49 12 = ((6 - d : Nat) : Int) ∧ MP w' B o tp (srr tp isM isA pa f p s).2.1 ∧ ∀ L, LO L → (∀ j, j < 6 → w 53 (lt6 j) = L j) → vl = s L → y = (srr tp isM isA pa f p s).2.2.2 L) ∧ ((srr tp isM isA pa f p s).1 = false → w' 49 11 = ((srr tp isM isA pa f p s).2.1 : Int)) := by
  intro f
  induction f with
  | zero => intro p F vl w s hf hF hp; omega
  | succ f ih =>
    intro p F vl w s hf hF hp h hfl hdp hs
    obtain ⟨F, rfl⟩ : ∃ g, F = g + 2 := ⟨F - 2, by omega⟩
    have htk := h.2.2.2.2.2.1
    have h160 := htk.1
    have hk := sk_le hp
    obtain ⟨w1, e1, h1, f1⟩ := M_look (N := N) hN h
    obtain ⟨w2, e2, h2, f2⟩ := M_look (N := N) hN h1
    obtain ⟨w3, e3, h3, f3⟩ := M_look (N := N) hN h2
    rw [sk_sk hp] at e2 h2
    rw [sk_sk hk.2] at e3 h3
    rw [sk_sk hp] at e3 h3
    have i43 : lk tp (sk tp p) = 43 ↔ gb tp (sk tp p) = 43 := lk_is htk (c := 43) (by decide)
    have i45 : lk tp (sk tp p) = 45 ↔ gb tp (sk tp p) = 45 := lk_is htk (c := 45) (by decide)
    have step : ∀ (wz : aw_W) (s0 : Int), MP wz B o tp (sk tp p) → fr_ [(49, 10)] w wz → isA (gb tp (sk tp p)) = true → (gb tp (sk tp p) = 43 ∧ s0 = 1 ∨ gb tp (sk tp p) = 45 ∧ s0 = 0) → ∃ y w', m_sum_45 ca ct cs N (m_sum_5 ca ct cs N (F + 1)) vl s0 wz = some (y, w') ∧ fr_ S_3 w w' ∧ ((srr tp isM isA pa (f + 1) p s).1 = true → w' 49 11 = -1 ∧ w' 49 12 = ((6 - d : Nat) : Int) ∧ MP w' B o tp (srr tp isM isA pa (f + 1) p s).2.1 ∧ ∀ L, LO L → (∀ j, j < 6 → w 53 (lt6 j) = L j) → vl = s L → y = (srr tp isM isA pa (f + 1) p s).2.2.2 L) ∧ ((srr tp isM isA pa (f + 1) p s).1 = false → w' 49 11 = ((srr tp isM isA pa (f + 1) p s).2.1 : Int)) := by
      intro wz s0 hz fz hA hss
      have hql := isT_lt isA0 hA
      have fu : fr_ [(49, 10)] w (aw_up wz 49 10 ((sk tp p + 1 : Nat) : Int)) := fz.up rfl
      obtain ⟨y1, w4, e4, -, f4, g4, b4⟩ := hct (sk tp p + 1) (by omega) (aw_up wz 49 10 ((sk tp p + 1 : Nat) : Int)) (hz.to (by omega)) (by rw [fu 49 11 rfl]; exact hfl) (by rw [fu 49 12 rfl]; exact hdp)
      obtain ⟨⟨a1, a2, a3⟩, a4⟩ := ptA_p isM0 hpa (hpa (sk tp p + 1) (by omega)).1
      have fA : fr_ S_3 w w4 := (fr_m rfl fu).trans f4
      have pass : ∃ z : Int, m_sum_45 ca ct cs N (m_sum_5 ca ct cs N (F + 1)) vl s0 wz = m_sum_5 ca ct cs N (F + 1) (clm z) w4 ∧ ((-1000000 ≤ vl ∧ vl ≤ 1000000) → (-1000000 ≤ y1 ∧ y1 ≤ 1000000) → clm z = opv (gb tp (sk tp p)) vl y1) := by
        rw [m_sum_45, hz.2.2.2.1, ww1 (by omega), e4, b2_some]
        rcases hss with ⟨s1, s2⟩ | ⟨s1, s2⟩
        · subst s2
          rw [if_neg (by decide), m_sum_77, M_within, b2_some]
          refine ⟨_, rfl, fun q1 q2 => ?_⟩
          rw [wwl (by omega) (by omega), s1, opv_43]
        · subst s2
          rw [if_pos rfl, m_sum_77, M_within, b2_some]
          refine ⟨_, rfl, fun q1 q2 => ?_⟩
          rw [wwl (by omega) (by omega), s1, opv_45]
      obtain ⟨z, ez, vz⟩ := pass
      rw [ez]
      cases hP : (ptA tp isM pa (pa (sk tp p + 1))).1 with
      | false =>
        have q := b4 hP
        obtain ⟨t1, t2⟩ := srr_Pf (isL := isA) (f := f) (s := s) hA hP
        rw [t1, t2, m_sum_5, if_neg (by omega)]
        exact ⟨_, w4, rfl, fA, fun z => Bool.noConfusion z, fun _ => q⟩
      | true =>
        obtain ⟨q1, q2, q3, q4⟩ := g4 hP
        obtain ⟨t1, t2, t3⟩ := srr_Py (isL := isA) (f := f) (s := s) hA hP
        obtain ⟨y, w', r1, r2, r3, r4⟩ := ih (ptA tp isM pa (pa (sk tp p + 1))).2.1 (F + 1) (clm z) w4 (opd (gb tp (sk tp p)) s (ptA tp isM pa (pa (sk tp p + 1))).2.2.2) (by omega) (by omega) a2 q3 q1 q2 opd_b
        rw [t1, t2, t3]
        refine ⟨y, w', r1, fA.trans r2, fun z' => ?_, r4⟩
        obtain ⟨u1, u2, u3, u4⟩ := r3 z'
        refine ⟨u1, u2, u3, fun L hL hl hv => u4 L hL (fun j hj => by rw [fA 53 _ rfl]; exact hl j hj) ?_⟩
        have e1 := q4 L hL (fun j hj => by rw [fu 53 _ rfl]; exact hl j hj)
        have bt := hs L hL
        have ba := ptA_b (tp := tp) (isT := isM) (pa := pa) (hbd (sk tp p + 1)) hP L hL
        rw [vz (by rw [hv]; exact bt) (by rw [e1]; exact ba), hv, e1, opd_e]
    rw [m_sum_5, if_pos hfl, e1, b2_some]
    cases hA : isA (gb tp (sk tp p)) with
    | true =>
      have cm : gb tp (sk tp p) = 43 ∨ gb tp (sk tp p) = 45 := of_decide_eq_true hA
      by_cases c : gb tp (sk tp p) = 43
      · rw [if_pos (i43.mpr c), m_sum_31, e2, b2_some, if_pos (i43.mpr c)]
        exact step w2 1 h2 (f1.trans f2) hA (Or.inl ⟨c, rfl⟩)
      · have c7 := cm.resolve_left c
        rw [if_neg (fun q => c (i43.mp q)), e2, b2_some, if_pos (i45.mpr c7), m_sum_31, e3, b2_some, if_neg (fun q => c (i43.mp q))]
        exact step w3 0 h3 (f1.trans (f2.trans f3)) hA (Or.inr ⟨c7, rfl⟩)
    | false =>
      have nm : ¬ (gb tp (sk tp p) = 43 ∨ gb tp (sk tp p) = 45) := of_decide_eq_false hA
      have fA : fr_ [(49, 10)] w w2 := f1.trans f2
      rw [if_neg (fun q => nm (Or.inl (i43.mp q))), e2, b2_some, if_neg (fun q => nm (Or.inr (i45.mp q))), m_sum_84, srr_n hA]
      exact ⟨vl, w2, rfl, fr_m rfl fA, fun _ => ⟨by rw [fA 49 11 rfl]; exact hfl, by rw [fA 49 12 rfl]; exact hdp, h2, fun _ _ _ hv => hv⟩, fun z => Bool.noConfusion (show true = false from z)⟩
theorem M_smb (hN : 200 ≤ N) {ca ct cs : aw_W → Option (Int × aw_W)} (hct : ∀ p, p ≤ tp.length → msp tp B o d anyQ ct p (ptA tp isM (atd tp d) (atd tp d p))) (hp : p ≤ tp.length) : msp tp B o d anyQ (m_sum_b ca ct cs N) p (psm tp d p) := by
  intro w h hf hdp
  have h160 := h.2.2.2.2.2.1.1
  have hpa := (psm_at_p (tp := tp) d).1
  have hbd := (psm_b (tp := tp) d).1
  obtain ⟨y1, w1, e1, -, f1, g1, b1⟩ := hct p hp w h hf hdp
  obtain ⟨⟨a1, a2, a3⟩, a4⟩ := ptA_p isM0 hpa (hpa p hp).1
  rw [psm_e, m_sum_b, e1, b2_some]
  cases hP : (ptA tp isM (atd tp d) (atd tp d p)).1 with
  | false =>
    have q := b1 hP
    obtain ⟨t1, t2⟩ := chn_Pf (isL := isA) hP
    obtain ⟨M, hM⟩ : ∃ M, N = M + 1 := ⟨N - 1, by omega⟩
    have e2 : m_sum_5 ca ct cs N N y1 w1 = some (y1, w1) := by
      conv => lhs; arg 5; rw [hM]
      rw [m_sum_5, if_neg (by omega)]
      rfl
    rw [e2, t1, t2]
    exact ⟨y1, w1, rfl, trivial, f1, fun z => Bool.noConfusion z, fun _ => q⟩
  | true =>
    obtain ⟨q1, q2, q3, q4⟩ := g1 hP
    obtain ⟨t1, t2, t3⟩ := chn_Py (isL := isA) hP
    obtain ⟨y, w', r1, r2, r3, r4⟩ := msl (N := N) (ca := ca) (ct := ct) (cs := cs) hN hpa hbd hct (tp.length + 1) (ptA tp isM (atd tp d) (atd tp d p)).2.1 N y1 w1 (ptA tp isM (atd tp d) (atd tp d p)).2.2.2 (by omega) (by omega) a2 q3 q1 q2 (ptA_b (hbd p) hP)
    rw [t1, t2, t3]
    refine ⟨y, w', r1, trivial, f1.trans r2, fun z => ?_, r4⟩
    obtain ⟨u1, u2, u3, u4⟩ := r3 z
    exact ⟨u1, u2, u3, fun L hL hl => u4 L hL (fun j hj => by rw [f1 53 _ rfl]; exact hl j hj) (q4 L hL hl)⟩
theorem M_gs (hN : 200 ≤ N) : ∀ d, d ≤ 6 → (∀ D, 3 * d + 1 ≤ D → ∀ p, p ≤ tp.length → msp tp B o d anyQ (g_m_atom N D).1 p (atd tp d p)) ∧ (∀ D, 3 * d + 2 ≤ D → ∀ p, p ≤ tp.length → msp tp B o d anyQ (g_m_atom N D).2.1 p (ptA tp isM (atd tp d) (atd tp d p))) ∧ (∀ D, 3 * d + 3 ≤ D → ∀ p, p ≤ tp.length → msp tp B o d anyQ (g_m_atom N D).2.2 p (psm tp d p))
  | 0, hd => by
    have ha : ∀ D, 3 * 0 + 1 ≤ D → ∀ p, p ≤ tp.length → msp tp B o 0 anyQ (g_m_atom N D).1 p (atd tp 0 p) := by
      intro D hD p hp
      obtain ⟨D, rfl⟩ : ∃ E, D = E + 1 := ⟨D - 1, by omega⟩
      exact M_atb hN (by decide) (fun e he => by omega) hp
    have hb : ∀ D, 3 * 0 + 2 ≤ D → ∀ p, p ≤ tp.length → msp tp B o 0 anyQ (g_m_atom N D).2.1 p (ptA tp isM (atd tp 0) (atd tp 0 p)) := by
      intro D hD p hp
      obtain ⟨D, rfl⟩ : ∃ E, D = E + 1 := ⟨D - 1, by omega⟩
      exact M_tmb hN (psm_at_p 0).1 (psm_b 0).1 (fun p hp => ha D (by omega) p hp) hp
    refine ⟨ha, hb, fun D hD p hp => ?_⟩
    obtain ⟨D, rfl⟩ : ∃ E, D = E + 1 := ⟨D - 1, by omega⟩
    exact M_smb hN (fun p hp => hb D (by omega) p hp) hp
  | d + 1, hd => by
    have ih := M_gs hN d (by omega)
    have ha : ∀ D, 3 * (d + 1) + 1 ≤ D → ∀ p, p ≤ tp.length → msp tp B o (d + 1) anyQ (g_m_atom N D).1 p (atd tp (d + 1) p) := by
      intro D hD p hp
      obtain ⟨D, rfl⟩ : ∃ E, D = E + 1 := ⟨D - 1, by omega⟩
      exact M_atb hN hd (fun e he p hp => by
        have : e = d := by omega
        subst this
        exact ih.2.2 D (by omega) p hp) hp
    have hb : ∀ D, 3 * (d + 1) + 2 ≤ D → ∀ p, p ≤ tp.length → msp tp B o (d + 1) anyQ (g_m_atom N D).2.1 p (ptA tp isM (atd tp (d + 1)) (atd tp (d + 1) p)) := by
      intro D hD p hp
      obtain ⟨D, rfl⟩ : ∃ E, D = E + 1 := ⟨D - 1, by omega⟩
      exact M_tmb hN (psm_at_p (d + 1)).1 (psm_b (d + 1)).1 (fun p hp => ha D (by omega) p hp) hp
    refine ⟨ha, hb, fun D hD p hp => ?_⟩
    obtain ⟨D, rfl⟩ : ∃ E, D = E + 1 := ⟨D - 1, by omega⟩
    exact M_smb hN (fun p hp => hb D (by omega) p hp) hp
theorem M_rsum (hN : 200 ≤ N) (hd : d ≤ 6) (hp : p ≤ tp.length) : msp tp B o d anyQ (m_sum N) p (psm tp d p) := (M_gs hN d hd).2.2 60 (by omega) p hp
end MT2
