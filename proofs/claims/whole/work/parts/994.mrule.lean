/-! ===== pure: clauses and rules, in the reference ===== -/
section MR
variable {N : Nat} {w v : aw_W} {tp : List Nat} {p B o : Nat}
theorem M_lab (hN : 10 ≤ N) {x : Int} : m_isAmong N x w = some (if x = 121 then 1 else 0, w) := by
  obtain ⟨M, rfl⟩ : ∃ M, N = M + 2 := ⟨N - 2, by omega⟩
  rw [m_isAmong, m_isAmong_2, M_ln0, b2_some, if_neg (by decide), M_cA0, b2_some]
  by_cases c : x = 121
  · rw [if_pos c.symm, if_pos c]; rfl
  · rw [if_neg (fun q => c q.symm), if_neg c, m_isAmong_2, M_ln0, b2_some, if_pos (by decide)]; rfl
/-- what a clause leaves: found, or not -/
def fnd (w w' : aw_W) (cd vl : Dn) : Prop := (w 49 17 = 1 → w' 49 17 = 1 ∧ w' 49 14 = w 49 14) ∧ (w 49 17 = 0 → ∀ L, LO L → (∀ j, j < 6 → w 53 (lt6 j) = L j) → (cd L = 0 → w' 49 17 = 0 ∧ w' 49 14 = w 49 14) ∧ (cd L ≠ 0 → w' 49 17 = 1 ∧ w' 49 14 = vl L)) ∧ (w' 49 17 = 0 ∨ w' 49 17 = 1)
theorem M_134 {w1 : aw_W} (hS : fr_ S_3 w w1) (hf : w1 49 11 = -1) (hl : w 49 13 = 121) (h17 : w 49 17 = 0 ∨ w 49 17 = 1) {is v : Int} {cd vl : Dn} (hi : ∀ L, LO L → (∀ j, j < 6 → w 53 (lt6 j) = L j) → is = cd L ∧ v = vl L) : ∃ w', m_clause_134 N 121 is v w1 = some w' ∧ w' 49 11 = -1 ∧ fnd w w' cd vl ∧ fr_ [(49, 14), (49, 17)] w1 w' := by
  have z17 := hS 49 17 rfl
  have z13 := hS 49 13 rfl
  have z14 := hS 49 14 rfl
  rw [m_clause_134, if_pos hf]
  rcases h17 with q | q
  · rw [if_pos (by rw [z17]; exact q), if_pos (by rw [z13]; exact hl.symm)]
    by_cases c : is = 0
    · rw [if_pos c]
      refine ⟨w1, rfl, hf, ⟨fun z => by omega, fun _ L hL hl => ⟨fun _ => ⟨by rw [z17]; exact q, z14⟩, fun z => absurd ((hi L hL hl).1.symm.trans c) z⟩, Or.inl (by rw [z17]; exact q)⟩, fr_r _ _⟩
    · rw [if_neg c]
      refine ⟨_, rfl, by rw [up_out (Or.inr (by decide)), up_out (Or.inr (by decide))]; exact hf, ⟨fun z => by omega, fun _ L hL hl => ⟨fun z => absurd ((hi L hL hl).1.trans z) c, fun _ => ⟨by rw [up_out (Or.inr (by decide)), up_in], by rw [up_in]; exact (hi L hL hl).2⟩⟩, Or.inr (by rw [up_out (Or.inr (by decide)), up_in])⟩, ((fr_r _ _).up rfl).up rfl⟩
  · rw [if_neg (by rw [z17, q]; decide)]
    exact ⟨w1, rfl, hf, ⟨fun _ => ⟨by rw [z17]; exact q, z14⟩, fun z => by omega, Or.inr (by rw [z17]; exact q)⟩, fr_r _ _⟩
/-- of a clause: the reference's answer from a place on -/
def mcs (tp : List Nat) (B o : Nat) (w w' : aw_W) (R : Rc) : Prop := fr_ S_m_clause w w' ∧ (R.1 = true → w' 49 11 = -1 ∧ w' 49 12 = 0 ∧ MP w' B o tp R.2.1 ∧ fnd w w' R.2.2.2.1 R.2.2.2.2) ∧ (R.1 = false → w' 49 11 = (R.2.1 : Int))
/-- from behind the condition on -/
theorem M_clq (hN : 200 ≤ N) {C : Rz} {pre : List Int} {w1 : aw_W} {is : Int} (hC2 : C.2.1 ≤ tp.length) (hS : fr_ S_3 w w1) (hl : w 49 13 = 121) (h17 : w 49 17 = 0 ∨ w 49 17 = 1) (g : C.1 = true → w1 49 11 = -1 ∧ w1 49 12 = 0 ∧ MP w1 B o tp C.2.1 ∧ ∀ L, LO L → (∀ j, j < 6 → w 53 (lt6 j) = L j) → is = C.2.2.2 L) (b : C.1 = false → w1 49 11 = (C.2.1 : Int)) : ∃ w', (aw_b2 (m_takes N 63 w1) fun r2 w2 => if r2 = 0 then some w2 else aw_b2 (m_sum N w2) fun r3 w3 => m_clause_134 N 121 is r3 w3) = some w' ∧ mcs tp B o w w' (clq tp pre C) := by
  have fc : ∀ {w'}, fr_ S_3 w w' → fr_ S_m_clause w w' := fun h => fr_m rfl h
  cases hC : C.1 with
  | false =>
    have z := b hC
    have e3 : m_takes N 63 w1 = some (0, w1) := M_takes_f (by omega)
    rw [e3, b2_some, if_pos rfl, clq_f hC]
    exact ⟨w1, rfl, fc hS, fun q => nof5 q, fun _ => z⟩
  | true =>
    obtain ⟨z1, z2, z3, z4⟩ := g hC
    have hk := sk_le hC2
    by_cases y : gb tp (sk tp C.2.1) = 63
    · have hql := gb_lt y (by decide)
      obtain ⟨w2, e2, h2, f2, fr2⟩ := M_takes_y (N := N) hN z3 z1 (c := 63) (by decide) y
      have e2' : m_takes N 63 w1 = some (1, w2) := e2
      obtain ⟨v1, w3, e3, -, f3, g3, b3⟩ := M_rsum (N := N) (B := B) (o := o) (d := 6) hN (by decide) (p := sk tp C.2.1 + 1) (by omega) w2 h2 f2 (by rw [fr2 49 12 rfl]; exact z2)
      have fA : fr_ S_3 w w3 := hS.trans ((fr_m rfl fr2).trans f3)
      rw [e2', b2_some, if_neg (by decide), e3, b2_some]
      cases hB : (psm tp 6 (sk tp C.2.1 + 1)).1 with
      | false =>
        have q := b3 hB
        rw [m_clause_134, if_neg (by omega), clq_h hC y rfl hB]
        exact ⟨w3, rfl, fc fA, fun q => nof5 q, fun _ => q⟩
      | true =>
        obtain ⟨q1, q2, q3, q4⟩ := g3 hB
        obtain ⟨w', a1, a2, a3, a4⟩ := M_134 (N := N) (cd := C.2.2.2) (vl := (psm tp 6 (sk tp C.2.1 + 1)).2.2.2) (is := is) (v := v1) fA q1 hl h17 (fun L hL hl => ⟨z4 L hL hl, q4 L hL (fun j hj => by rw [fr2 53 _ rfl, hS 53 _ rfl]; exact hl j hj)⟩)
        rw [a1, clq_y hC y rfl hB]
        exact ⟨w', rfl, (fc fA).trans (fr_m rfl a4), fun _ => ⟨a2, by rw [a4 49 12 rfl]; exact q2, q3.fr a4 rfl, a3⟩, fun z => Bool.noConfusion (show true = false from z)⟩
    · obtain ⟨w2, e2, f2, fr2⟩ := M_takes_n (N := N) hN z3 z1 (c := 63) (by decide) y
      have e2' : m_takes N 63 w1 = some (0, w2) := e2
      rw [e2', b2_some, if_pos rfl, clq_g hC y]
      exact ⟨w2, rfl, fc (hS.trans (fr_m rfl fr2)), fun q => nof5 q, fun _ => f2⟩
theorem mcs_w {w0 w1 w' : aw_W} {R : Rc} (h : mcs tp B o w1 w' R) (hf : fr_ S_3 w0 w1) : mcs tp B o w0 w' R := by
  obtain ⟨h1, h2, h3⟩ := h
  refine ⟨(fr_m rfl hf).trans h1, fun z => ?_, h3⟩
  obtain ⟨a, b, c, d1, d2, d3⟩ := h2 z
  refine ⟨a, b, c, fun q => ?_, fun q L hL hl => ?_, d3⟩
  · have := d1 (by rw [hf 49 17 rfl]; exact q)
    rw [hf 49 14 rfl] at this
    exact this
  · have := d2 (by rw [hf 49 17 rfl]; exact q) L hL (fun j hj => by rw [hf 53 _ rfl]; exact hl j hj)
    rw [hf 49 14 rfl] at this
    exact this
theorem M_cl (hN : 200 ≤ N) (hp : p ≤ tp.length) (h : MP w B o tp p) (hf : w 49 11 = -1) (hdp : w 49 12 = 0) (hl : w 49 13 = 121) (h17 : w 49 17 = 0 ∨ w 49 17 = 1) : ∃ w', m_clause N w = some w' ∧ mcs tp B o w w' (pcz tp p) := by
  have htk := h.2.2.2.2.2.1
  have h160 := htk.1
  have hk := sk_le hp
  obtain ⟨w1, e1, h1, f1⟩ := M_look (N := N) hN h
  have hf1 : w1 49 11 = -1 := by rw [f1 49 11 rfl]; exact hf
  have i121 : lk tp (sk tp p) = 121 ↔ gb tp (sk tp p) = 121 := lk_is htk (c := 121) (by decide)
  unfold pcz
  rw [m_clause, e1, b2_some, M_lab (by omega), b2_some]
  by_cases c1 : gb tp (sk tp p) = 121
  · have hl1 := gb_lt c1 (by decide)
    have hk2 := sk_le (tp := tp) (p := sk tp p + 1) (by omega)
    have hx := h1.to (q := sk tp p + 1) (by omega)
    have fx : fr_ [(49, 10)] w (aw_up w1 49 10 ((sk tp p + 1 : Nat) : Int)) := f1.up rfl
    have hfx : (aw_up w1 49 10 ((sk tp p + 1 : Nat) : Int)) 49 11 = -1 := by rw [fx 49 11 rfl]; exact hf
    rw [if_pos (i121.mpr c1), if_neg (by decide), if_neg (fun q => q c1), i121.mpr c1, h1.2.2.2.1, ww1 (i := sk tp p) (by omega)]
    generalize aw_up w1 49 10 ((sk tp p + 1 : Nat) : Int) = wx at hx fx hfx ⊢
    by_cases c2 : gb tp (sk tp (sk tp p + 1)) = 58
    · have hl2 := gb_lt c2 (by decide)
      have hk3 := sk_le (tp := tp) (p := sk tp (sk tp p + 1) + 1) (by omega)
      obtain ⟨w2, e2, h2, f2, fr2⟩ := M_takes_y (N := N) hN hx hfx (c := 58) (by decide) c2
      have e2' : m_takes N 58 wx = some (1, w2) := e2
      obtain ⟨w3, e3, h3, f3⟩ := M_look (N := N) hN h2
      have fA : fr_ S_3 w w3 := (fr_m rfl fx).trans ((fr_m rfl fr2).trans (fr_m rfl f3))
      have hf3 : w3 49 11 = -1 := by rw [f3 49 11 rfl]; exact f2
      have hd3 : w3 49 12 = 0 := by rw [f3 49 12 rfl, fr2 49 12 rfl, fx 49 12 rfl]; exact hdp
      have hl3 : w3 49 13 = 121 := by rw [fA 49 13 rfl]; exact hl
      have h173 : w3 49 17 = 0 ∨ w3 49 17 = 1 := by rw [fA 49 17 rfl]; exact h17
      rw [e2', b2_some, if_neg (by decide), if_neg (fun q => q c2), e3, b2_some]
      have hq3 := hk3.2
      generalize sk tp (sk tp (sk tp p + 1) + 1) = q at h3 hq3 ⊢
      have i33 : lk tp q = 33 ↔ gb tp q = 33 := lk_is htk (c := 33) (by decide)
      have i40 : lk tp q = 40 ↔ gb tp q = 40 := lk_is htk (c := 40) (by decide)
      unfold cla
      by_cases d1 : gb tp q = 33 ∨ gb tp q = 40
      · have go : ∃ w', m_clause_64 N 121 w3 = some w' ∧ mcs tp B o w w' (clq tp [] (pcd tp 6 q)) := by
          obtain ⟨y4, w4, e4, qy, f4, g4, b4⟩ := M_cond (N := N) (B := B) (o := o) hN hq3 w3 h3 hf3 hd3
          obtain ⟨w', r1, r2⟩ := M_clq (N := N) (pre := []) (is := y4) hN ((pun_p (tp := tp) 6).2 q hq3).1.2.1 f4 hl3 h173 g4 b4
          rw [m_clause_64, e4, b2_some]
          exact ⟨w', r1, mcs_w r2 fA⟩
        rw [if_pos d1]
        rcases d1 with z | z
        · rw [if_pos (i33.mpr z)]; exact go
        · rw [if_neg (fun y => by have := i33.mp y; omega), if_pos (i40.mpr z)]; exact go
      · rw [if_neg d1, if_neg (fun y => d1 (Or.inl (i33.mp y))), if_neg (fun y => d1 (Or.inr (i40.mp y)))]
        obtain ⟨v4, w4, e4, -, f4, g4, b4⟩ := M_rsum (N := N) (B := B) (o := o) (d := 6) hN (by decide) hq3 w3 h3 hf3 hd3
        obtain ⟨⟨a1, a2, a3⟩, a4⟩ := (psm_at_p (tp := tp) 6).2 q hq3
        rw [e4, b2_some]
        generalize psm tp 6 q = S at g4 b4 a1 a2 a3 a4 ⊢
        have hk5 := sk_le a2
        cases hB : S.1 with
        | false =>
          have z := b4 hB
          rw [if_neg (by omega), if_pos rfl, m_clause_134, if_neg (by omega)]
          exact ⟨w4, rfl, (fr_m rfl (fA.trans f4)), fun q => nof5 q, fun _ => z⟩
        | true =>
          obtain ⟨q1, q2, q3, q4⟩ := g4 hB
          obtain ⟨w5, e5, h5, f5⟩ := M_look (N := N) hN q3
          have fB : fr_ S_3 w3 w5 := f4.trans (fr_m rfl f5)
          have hf5 : w5 49 11 = -1 := by rw [f5 49 11 rfl]; exact q1
          have hd5 : w5 49 12 = 0 := by rw [f5 49 12 rfl]; exact q2
          rw [if_pos q1, if_neg (by decide), e5, b2_some, M_isS htk, b2_some]
          cases hC : isC (gb tp (sk tp S.2.1)) with
          | true =>
            obtain ⟨y6, w6, e6, qy, f6, g6, b6⟩ := M_condb (N := N) (dn := S.2.2.2) (s0 := v4) hN hk5.2 h5 hf5 hd5
            have fC : fr_ S_3 w3 w6 := fB.trans f6
            obtain ⟨w', r1, r2⟩ := M_clq (N := N) (pre := S.2.2.1) (is := y6) hN (chn_p isN0 isO0 (pun_p (tp := tp) 6).1 (cmp_p (d := 6) (okr_b (dn := S.2.2.2) hk5.2)).1).1.2.1 fC hl3 h173 (fun z => by
              obtain ⟨a, b, c, e⟩ := g6 z
              exact ⟨a, b, c, fun L hL hl => e L hL (fun j hj => by rw [fB 53 _ rfl]; exact hl j hj) (q4 L hL hl)⟩) b6
            rw [if_neg b2i_t, if_pos rfl, e6, b2_some]
            exact ⟨w', r1, mcs_w r2 fA⟩
          | false =>
            obtain ⟨w', r1, r2, r3, r4⟩ := M_134 (N := N) (cd := fun _ => 1) (vl := S.2.2.2) (is := 1) (v := v4) fB hf5 hl3 h173 (fun L hL hl => ⟨rfl, q4 L hL hl⟩)
            rw [if_pos b2i_f, if_neg (by decide), r1]
            refine ⟨w', rfl, mcs_w (w1 := w3) ⟨(fr_m rfl fB).trans (fr_m rfl r4), fun _ => ⟨r2, by rw [r4 49 12 rfl]; exact hd5, h5.fr r4 rfl, r3⟩, fun z => Bool.noConfusion (show true = false from z)⟩ fA⟩
    · obtain ⟨w2, e2, f2, fr2⟩ := M_takes_n (N := N) hN hx hfx (c := 58) (by decide) c2
      have e2' : m_takes N 58 wx = some (0, w2) := e2
      rw [e2', b2_some, if_pos rfl, if_pos c2]
      exact ⟨w2, rfl, (fr_m rfl fx).trans (fr_m rfl fr2), fun q => nof5 q, fun _ => f2⟩
  · rw [if_neg (fun q => c1 (i121.mp q)), if_pos rfl, M_fails h1 hf1, b2_some, if_pos c1]
    exact ⟨_, rfl, (fr_m rfl f1).up rfl, fun q => nof5 q, fun _ => up_in⟩

/-- the reference goes through a rule -/
theorem mgt_m_goThrough (hN : 200 ≤ N) : ∀ (f p F : Nat) (w : aw_W), tp.length < p + f → f + 1 < F → p ≤ tp.length → MP w B o tp p → w 49 11 = -1 → w 49 12 = 0 → w 49 13 = 121 → (w 49 17 = 0 ∨ w 49 17 = 1) → ∃ w', (aw_b1 (m_clause N w) fun w2 => m_goThrough_32 N F w2) = some w' ∧ w' 49 11 = (prl tp f p).1 ∧ ((prl tp f p).1 = -1 → (w 49 17 = 1 → w' 49 14 = w 49 14) ∧ (w 49 17 = 0 → w 49 14 = 0 → ∀ L, LO L → (∀ j, j < 6 → w 53 (lt6 j) = L j) → w' 49 14 = (prl tp f p).2.2 L)) := by
  intro f
  induction f with
  | zero => intro p F w hf hF hp; omega
  | succ f ih =>
    intro p F w hf hF hp h hfl hdp hl h17
    obtain ⟨F, rfl⟩ : ∃ g, F = g + 2 := ⟨F - 2, by omega⟩
    have htk := h.2.2.2.2.2.1
    have h160 := htk.1
    obtain ⟨w1, e1, f1, g1, b1⟩ := M_cl (N := N) hN hp h hfl hdp hl h17
    obtain ⟨a1, a2, a3⟩ := pcz_ok (tp := tp) hp
    rw [e1, b1_some, prl_s]
    generalize pcz tp p = r at g1 b1 a1 a2 a3 ⊢
    cases hr : r.1 with
    | false =>
      have z := b1 hr
      rw [m_goThrough_32, if_neg (by omega), m_goThrough_66, if_neg (by omega), if_pos rfl]
      exact ⟨w1, rfl, z, fun q => by have q' : (r.2.1 : Int) = -1 := q; omega⟩
    | true =>
      obtain ⟨z1, z2, h1, fn1, fn2, u17⟩ := g1 hr
      obtain ⟨w2, e2, h2, f2⟩ := M_look (N := N) hN h1
      have hk := sk_le a2
      have a5 := a3 hr
      have z1' : w2 49 11 = -1 := by rw [f2 49 11 rfl]; exact z1
      have i59 : lk tp (sk tp r.2.1) = 59 ↔ gb tp (sk tp r.2.1) = 59 := lk_is htk (c := 59) (by decide)
      have in0 := lk_no (p := sk tp r.2.1) htk
      rw [m_goThrough_32, if_pos z1, e2, b2_some, if_neg (show ¬ (true = false) by decide)]
      by_cases c : gb tp (sk tp r.2.1) = 59
      · have hlt := gb_lt c (by decide)
        have fu : fr_ [(49, 10)] w1 (aw_up w2 49 10 ((sk tp r.2.1 + 1 : Nat) : Int)) := f2.up rfl
        rw [if_pos (i59.mpr c), if_pos c, h2.2.2.2.1, ww1 (by omega)]
        obtain ⟨w', r1, r2, r3⟩ := ih (sk tp r.2.1 + 1) (F + 1) (aw_up w2 49 10 ((sk tp r.2.1 + 1 : Nat) : Int)) (by omega) (by omega) (by omega) (h2.to (by omega)) (by rw [fu 49 11 rfl]; exact z1) (by rw [fu 49 12 rfl]; exact z2) (by rw [fu 49 13 rfl, f1 49 13 rfl]; exact hl) (by rw [fu 49 17 rfl]; exact u17)
        refine ⟨w', r1, r2, fun q => ?_⟩
        obtain ⟨s1, s2⟩ := r3 q
        rw [fu 49 17 rfl, fu 49 14 rfl] at s1 s2
        refine ⟨fun y => ?_, fun y y0 L hL hl => ?_⟩
        · obtain ⟨t1, t2⟩ := fn1 y
          rw [s1 t1, t2]
        · obtain ⟨t1, t2⟩ := fn2 y L hL hl
          show w' 49 14 = if r.2.2.2.1 L = 0 then (prl tp f (sk tp r.2.1 + 1)).2.2 L else r.2.2.2.2 L
          by_cases cz : r.2.2.2.1 L = 0
          · obtain ⟨v1, v2⟩ := t1 cz
            rw [if_pos cz]
            exact s2 v1 (v2.trans y0) L hL (fun j hj => by rw [fu 53 _ rfl, f1 53 _ rfl]; exact hl j hj)
          · obtain ⟨v1, v2⟩ := t2 cz
            rw [if_neg cz, s1 v1, v2]
      · obtain ⟨w3, e3, h3, f3⟩ := M_look (N := N) hN h2
        rw [sk_sk a2] at e3 h3
        have z3 : w3 49 11 = -1 := by rw [f3 49 11 rfl]; exact z1'
        rw [if_neg (fun q => c (i59.mp q)), if_neg c, m_goThrough_66, if_pos z1', e3, b2_some]
        by_cases c2 : gb tp (sk tp r.2.1) = 0
        · rw [if_pos (in0.mpr c2), if_pos c2]
          have e14 : w3 49 14 = w1 49 14 := by rw [f3 49 14 rfl, f2 49 14 rfl]
          refine ⟨w3, rfl, z3, fun _ => ⟨fun y => by rw [e14]; exact (fn1 y).2, fun y y0 L hL hl => ?_⟩⟩
          obtain ⟨t1, t2⟩ := fn2 y L hL hl
          show w3 49 14 = if r.2.2.2.1 L = 0 then 0 else r.2.2.2.2 L
          by_cases cz : r.2.2.2.1 L = 0
          · rw [if_pos cz, e14, (t1 cz).2, y0]
          · rw [if_neg cz, e14, (t2 cz).2]
        · rw [if_neg (fun q => c2 (in0.mp q)), if_neg c2, M_fails h3 z3, b2_some]
          exact ⟨_, rfl, up_in, fun q => by have q' : (sk tp r.2.1 : Int) = -1 := q; omega⟩

/-- the reference goes through a rule -/
theorem mgt_m_goThrough_49_50 (hN : 200 ≤ N) : ∀ (f p F : Nat) (w : aw_W), tp.length < p + f → f + 1 < F → p ≤ tp.length → MP w B o tp p → w 49 11 = -1 → w 49 12 = 0 → w 49 13 = 121 → (w 49 17 = 0 ∨ w 49 17 = 1) → ∃ w', (aw_b1 (m_clause N w) fun w2 => m_goThrough_49_50_32 N F w2) = some w' ∧ w' 49 11 = (prl tp f p).1 ∧ ((prl tp f p).1 = -1 → (w 49 17 = 1 → w' 49 14 = w 49 14) ∧ (w 49 17 = 0 → w 49 14 = 0 → ∀ L, LO L → (∀ j, j < 6 → w 53 (lt6 j) = L j) → w' 49 14 = (prl tp f p).2.2 L)) := by
  intro f
  induction f with
  | zero => intro p F w hf hF hp; omega
  | succ f ih =>
    intro p F w hf hF hp h hfl hdp hl h17
    obtain ⟨F, rfl⟩ : ∃ g, F = g + 2 := ⟨F - 2, by omega⟩
    have htk := h.2.2.2.2.2.1
    have h160 := htk.1
    obtain ⟨w1, e1, f1, g1, b1⟩ := M_cl (N := N) hN hp h hfl hdp hl h17
    obtain ⟨a1, a2, a3⟩ := pcz_ok (tp := tp) hp
    rw [e1, b1_some, prl_s]
    generalize pcz tp p = r at g1 b1 a1 a2 a3 ⊢
    cases hr : r.1 with
    | false =>
      have z := b1 hr
      rw [m_goThrough_49_50_32, if_neg (by omega), m_goThrough_49_50_66, if_neg (by omega), if_pos rfl]
      exact ⟨w1, rfl, z, fun q => by have q' : (r.2.1 : Int) = -1 := q; omega⟩
    | true =>
      obtain ⟨z1, z2, h1, fn1, fn2, u17⟩ := g1 hr
      obtain ⟨w2, e2, h2, f2⟩ := M_look (N := N) hN h1
      have hk := sk_le a2
      have a5 := a3 hr
      have z1' : w2 49 11 = -1 := by rw [f2 49 11 rfl]; exact z1
      have i59 : lk tp (sk tp r.2.1) = 59 ↔ gb tp (sk tp r.2.1) = 59 := lk_is htk (c := 59) (by decide)
      have in0 := lk_no (p := sk tp r.2.1) htk
      rw [m_goThrough_49_50_32, if_pos z1, e2, b2_some, if_neg (show ¬ (true = false) by decide)]
      by_cases c : gb tp (sk tp r.2.1) = 59
      · have hlt := gb_lt c (by decide)
        have fu : fr_ [(49, 10)] w1 (aw_up w2 49 10 ((sk tp r.2.1 + 1 : Nat) : Int)) := f2.up rfl
        rw [if_pos (i59.mpr c), if_pos c, h2.2.2.2.1, ww1 (by omega)]
        obtain ⟨w', r1, r2, r3⟩ := ih (sk tp r.2.1 + 1) (F + 1) (aw_up w2 49 10 ((sk tp r.2.1 + 1 : Nat) : Int)) (by omega) (by omega) (by omega) (h2.to (by omega)) (by rw [fu 49 11 rfl]; exact z1) (by rw [fu 49 12 rfl]; exact z2) (by rw [fu 49 13 rfl, f1 49 13 rfl]; exact hl) (by rw [fu 49 17 rfl]; exact u17)
        refine ⟨w', r1, r2, fun q => ?_⟩
        obtain ⟨s1, s2⟩ := r3 q
        rw [fu 49 17 rfl, fu 49 14 rfl] at s1 s2
        refine ⟨fun y => ?_, fun y y0 L hL hl => ?_⟩
        · obtain ⟨t1, t2⟩ := fn1 y
          rw [s1 t1, t2]
        · obtain ⟨t1, t2⟩ := fn2 y L hL hl
          show w' 49 14 = if r.2.2.2.1 L = 0 then (prl tp f (sk tp r.2.1 + 1)).2.2 L else r.2.2.2.2 L
          by_cases cz : r.2.2.2.1 L = 0
          · obtain ⟨v1, v2⟩ := t1 cz
            rw [if_pos cz]
            exact s2 v1 (v2.trans y0) L hL (fun j hj => by rw [fu 53 _ rfl, f1 53 _ rfl]; exact hl j hj)
          · obtain ⟨v1, v2⟩ := t2 cz
            rw [if_neg cz, s1 v1, v2]
      · obtain ⟨w3, e3, h3, f3⟩ := M_look (N := N) hN h2
        rw [sk_sk a2] at e3 h3
        have z3 : w3 49 11 = -1 := by rw [f3 49 11 rfl]; exact z1'
        rw [if_neg (fun q => c (i59.mp q)), if_neg c, m_goThrough_49_50_66, if_pos z1', e3, b2_some]
        by_cases c2 : gb tp (sk tp r.2.1) = 0
        · rw [if_pos (in0.mpr c2), if_pos c2]
          have e14 : w3 49 14 = w1 49 14 := by rw [f3 49 14 rfl, f2 49 14 rfl]
          refine ⟨w3, rfl, z3, fun _ => ⟨fun y => by rw [e14]; exact (fn1 y).2, fun y y0 L hL hl => ?_⟩⟩
          obtain ⟨t1, t2⟩ := fn2 y L hL hl
          show w3 49 14 = if r.2.2.2.1 L = 0 then 0 else r.2.2.2.2 L
          by_cases cz : r.2.2.2.1 L = 0
          · rw [if_pos cz, e14, (t1 cz).2, y0]
          · rw [if_neg cz, e14, (t2 cz).2]
        · rw [if_neg (fun q => c2 (in0.mp q)), if_neg c2, M_fails h3 z3, b2_some]
          exact ⟨_, rfl, up_in, fun q => by have q' : (sk tp r.2.1 : Int) = -1 := q; omega⟩
end MR
