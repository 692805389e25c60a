/-! ===== pure: conditions, in the reference ===== -/
def q01 : Int → Prop := fun y => y = 0 ∨ y = 1
section MC
variable {N : Nat} {w v : aw_W} {tp : List Nat} {p B o d : Nat}
theorem tof {α : Prop} {R : Nat × List Int × Dn} (z : ((true, R) : Rz).1 = false) : α := Bool.noConfusion (show true = false from z)
theorem opv_61 (x y : Int) : opv 61 x y = if x = y then 1 else 0 := by unfold opv; rw [if_neg (by decide), if_neg (by decide), if_neg (by decide), if_neg (by decide), if_pos rfl]
theorem opv_60 (x y : Int) : opv 60 x y = if x < y then 1 else 0 := by unfold opv; rw [if_neg (by decide), if_neg (by decide), if_neg (by decide), if_neg (by decide), if_neg (by decide), if_pos rfl]
theorem opv_62 (x y : Int) : opv 62 x y = if y < x then 1 else 0 := by unfold opv; rw [if_neg (by decide), if_neg (by decide), if_neg (by decide), if_neg (by decide), if_neg (by decide), if_neg (by decide), if_pos rfl]
theorem opv_38 (x y : Int) : opv 38 x y = if x = 0 then 0 else if y = 0 then 0 else 1 := by unfold opv; rw [if_neg (by decide), if_neg (by decide), if_neg (by decide), if_neg (by decide), if_neg (by decide), if_neg (by decide), if_neg (by decide), if_pos rfl]
theorem opv_124 (x y : Int) : opv 124 x y = if x = 0 then (if y = 0 then 0 else 1) else 1 := by unfold opv; rw [if_neg (by decide), if_neg (by decide), if_neg (by decide), if_neg (by decide), if_neg (by decide), if_neg (by decide), if_neg (by decide), if_neg (by decide)]
theorem M_isS (htk : tpk tp) {q : Nat} : m_isSign N (lk tp q) w = some (b2i (isC (gb tp q)), w) := by
  have i1 : lk tp q = 61 ↔ gb tp q = 61 := lk_is htk (c := 61) (by decide)
  have i2 : lk tp q = 60 ↔ gb tp q = 60 := lk_is htk (c := 60) (by decide)
  have i3 : lk tp q = 62 ↔ gb tp q = 62 := lk_is htk (c := 62) (by decide)
  rw [m_isSign]
  by_cases c1 : gb tp q = 61
  · rw [if_pos (i1.mpr c1), c1]; rfl
  · rw [if_neg (fun z => c1 (i1.mp z))]
    by_cases c2 : gb tp q = 60
    · rw [if_pos (i2.mpr c2), c2]; rfl
    · rw [if_neg (fun z => c2 (i2.mp z))]
      by_cases c3 : gb tp q = 62
      · rw [if_pos (i3.mpr c3), c3]; rfl
      · have : isC (gb tp q) = false := decide_eq_false (by omega)
        rw [if_neg (fun z => c3 (i3.mp z)), this]
        rfl
/-- a comparison from behind its first sum on; s0: that sum's value -/
theorem M_c12 (hN : 200 ≤ N) (hd : d ≤ 6) (hp : p ≤ tp.length) {dn : Dn} {s0 : Int} (h : MP w B o tp p) (hf : w 49 11 = -1) (hdp : w 49 12 = ((6 - d : Nat) : Int)) : ∃ y w', m_compares_12 N s0 w = some (y, w') ∧ q01 y ∧ fr_ S_3 w w' ∧ ((cmp tp d (true, p, [], dn)).1 = true → w' 49 11 = -1 ∧ w' 49 12 = ((6 - d : Nat) : Int) ∧ MP w' B o tp (cmp tp d (true, p, [], dn)).2.1 ∧ ∀ L, LO L → (∀ j, j < 6 → w 53 (lt6 j) = L j) → s0 = dn L → y = (cmp tp d (true, p, [], dn)).2.2.2 L) ∧ ((cmp tp d (true, p, [], dn)).1 = false → w' 49 11 = ((cmp tp d (true, p, [], dn)).2.1 : Int)) := by
  have htk := h.2.2.2.2.2.1
  have h160 := htk.1
  have hk := sk_le hp
  obtain ⟨w1, e1, h1, f1⟩ := M_look (N := N) hN h
  have hf1 : w1 49 11 = -1 := by rw [f1 49 11 rfl]; exact hf
  have hd1 : w1 49 12 = ((6 - d : Nat) : Int) := by rw [f1 49 12 rfl]; exact hdp
  rw [m_compares_12, if_pos hf, e1, b2_some, M_isS htk, b2_some]
  cases hC : isC (gb tp (sk tp p)) with
  | false =>
    rw [if_pos b2i_f, M_fails h1 hf1, b2_some, if_pos (Or.inl rfl), cmp_g (A := (true, p, [], dn)) rfl hC]
    exact ⟨_, _, rfl, Or.inl rfl, (fr_m rfl f1).up rfl, fun z => nof z, fun _ => up_in⟩
  | true =>
    have hql := isT_lt isC0 hC
    have hcc : gb tp (sk tp p) = 61 ∨ gb tp (sk tp p) = 60 ∨ gb tp (sk tp p) = 62 := of_decide_eq_true hC
    have hlk : lk tp (sk tp p) = (gb tp (sk tp p) : Int) := by unfold lk; rw [if_pos hql]
    have fu : fr_ [(49, 10)] w (aw_up w1 49 10 ((sk tp p + 1 : Nat) : Int)) := f1.up rfl
    obtain ⟨y1, w2, e2, -, f2, g2, b2⟩ := M_rsum (N := N) (B := B) (o := o) hN hd (p := sk tp p + 1) (by omega) (aw_up w1 49 10 ((sk tp p + 1 : Nat) : Int)) (h1.to (by omega)) (by rw [fu 49 11 rfl]; exact hf) (by rw [fu 49 12 rfl]; exact hdp)
    have fA : fr_ S_3 w w2 := (fr_m rfl fu).trans f2
    rw [if_neg b2i_t, h1.2.2.2.1, ww1 (i := sk tp p) (by omega), e2, b2_some, hlk]
    -- the answer
    have ans : ∃ y, (if (gb tp (sk tp p) : Int) = 61 then (if s0 = y1 then m_compares_111 N 1 w2 else m_compares_111 N 0 w2) else if (gb tp (sk tp p) : Int) = 60 then (if y1 ≤ s0 then m_compares_111 N 0 w2 else m_compares_111 N 1 w2) else (if s0 ≤ y1 then m_compares_111 N 0 w2 else m_compares_111 N 1 w2)) = some (y, w2) ∧ q01 y ∧ y = opv (gb tp (sk tp p)) s0 y1 := by
      rcases hcc with z | z | z
      · rw [z, if_pos (by rfl), opv_61]
        by_cases c : s0 = y1
        · rw [if_pos c, if_pos c]; exact ⟨1, rfl, Or.inr rfl, rfl⟩
        · rw [if_neg c, if_neg c]; exact ⟨0, rfl, Or.inl rfl, rfl⟩
      · rw [z, if_neg (by decide), if_pos (by rfl), opv_60]
        by_cases c : y1 ≤ s0
        · rw [if_pos c, if_neg (by omega)]; exact ⟨0, rfl, Or.inl rfl, rfl⟩
        · rw [if_neg c, if_pos (by omega)]; exact ⟨1, rfl, Or.inr rfl, rfl⟩
      · rw [z, if_neg (by decide), if_neg (by decide), opv_62]
        by_cases c : s0 ≤ y1
        · rw [if_pos c, if_neg (by omega)]; exact ⟨0, rfl, Or.inl rfl, rfl⟩
        · rw [if_neg c, if_pos (by omega)]; exact ⟨1, rfl, Or.inr rfl, rfl⟩
    obtain ⟨y, ey, qy, vy⟩ := ans
    rw [ey]
    refine ⟨y, w2, rfl, qy, fA, fun z => ?_, fun z => ?_⟩
    · cases hB : (psm tp d (sk tp p + 1)).1 with
      | false => rw [cmp_h (A := (true, p, [], dn)) rfl hC rfl hB] at z; exact nof z
      | true =>
        obtain ⟨q1, q2, q3, q4⟩ := g2 hB
        rw [cmp_y (A := (true, p, [], dn)) rfl hC rfl hB]
        refine ⟨q1, q2, q3, fun L hL hl hv => ?_⟩
        have e1 := q4 L hL (fun j hj => by rw [fu 53 _ rfl]; exact hl j hj)
        show y = opd (gb tp (sk tp p)) dn (psm tp d (sk tp p + 1)).2.2.2 L
        rw [opd_e, vy, hv, e1]
    · cases hB : (psm tp d (sk tp p + 1)).1 with
      | false => rw [cmp_h (A := (true, p, [], dn)) rfl hC rfl hB]; exact b2 hB
      | true => rw [cmp_y (A := (true, p, [], dn)) rfl hC rfl hB] at z; exact tof z
theorem cmp_jd {A : Rz} (h : A.1 = true) : (cmp tp d A).2.2.2 = (cmp tp d (true, A.2.1, [], A.2.2.2)).2.2.2 := by
  cases hC : isC (gb tp (sk tp A.2.1)) with
  | false => rw [cmp_g h hC, cmp_g (A := (true, A.2.1, [], A.2.2.2)) rfl hC]
  | true =>
    cases hB : (psm tp d (sk tp A.2.1 + 1)).1 with
    | false => rw [cmp_h h hC rfl hB, cmp_h (A := (true, A.2.1, [], A.2.2.2)) rfl hC rfl hB]
    | true => rw [cmp_y h hC rfl hB, cmp_y (A := (true, A.2.1, [], A.2.2.2)) rfl hC rfl hB]
theorem M_cmp0 (hN : 200 ≤ N) (hd : d ≤ 6) (hp : p ≤ tp.length) : msp tp B o d q01 (m_compares N 0 0) p (cmp tp d (psm tp d p)) := by
  intro w h hf hdp
  obtain ⟨y1, w1, e1, -, f1, g1, b1⟩ := M_rsum (N := N) (B := B) (o := o) hN hd hp w h hf hdp
  obtain ⟨⟨a1, a2, a3⟩, a4⟩ := (psm_at_p (tp := tp) d).2 p hp
  rw [m_compares, if_pos rfl, e1, b2_some]
  generalize psm tp d p = A at g1 b1 a1 a2 a3 a4 ⊢
  cases hA : A.1 with
  | false =>
    have q := b1 hA
    rw [cmp_f hA, m_compares_12, if_neg (by omega)]
    exact ⟨0, w1, rfl, Or.inl rfl, f1, fun z => nof z, fun _ => q⟩
  | true =>
    obtain ⟨q1, q2, q3, q4⟩ := g1 hA
    obtain ⟨r1, r2, -⟩ := cmp_j (tp := tp) (d := d) hA
    obtain ⟨y, w', s1, s2, s3, s4, s5⟩ := M_c12 (N := N) (dn := A.2.2.2) (s0 := y1) hN hd a2 q3 q1 q2
    rw [r1, r2, cmp_jd hA]
    refine ⟨y, w', s1, s2, f1.trans s3, fun z => ?_, s5⟩
    obtain ⟨u1, u2, u3, u4⟩ := s4 z
    exact ⟨u1, u2, u3, fun L hL hl => u4 L hL (fun j hj => by rw [f1 53 _ rfl]; exact hl j hj) (q4 L hL hl)⟩
theorem popn_33 {e q : Nat} {R : Rz} (hR : pun tp e (q + 1) = R) : popn tp e 33 q = if R.1 = false then no_ R.2.1 else (true, R.2.1, R.2.2.1 ++ [-33], fun L => 1 - R.2.2.2 L) := by
  subst hR
  unfold popn
  rw [if_neg (by decide)]
theorem popn_40 {e q : Nat} {R : Rz} (hR : pcd tp e (q + 1) = R) : popn tp e 40 q = if R.1 = false then no_ R.2.1 else if gb tp (sk tp R.2.1) = 41 then (true, sk tp R.2.1 + 1, R.2.2.1, R.2.2.2) else no_ (sk tp R.2.1) := by
  subst hR
  unfold popn
  rw [if_pos rfl]
theorem M_unb (hN : 200 ≤ N) {cu : aw_W → Option (Int × aw_W)} {cp cc : Int → Int → aw_W → Option (Int × aw_W)} (hd : d ≤ 6) (hcu : ∀ e, d = e + 1 → ∀ p, p ≤ tp.length → msp tp B o e q01 cu p (pun tp e p)) (hcc : ∀ e, d = e + 1 → ∀ p, p ≤ tp.length → msp tp B o e q01 (cc 0 0) p (pcd tp e p)) (hp : p ≤ tp.length) : msp tp B o d q01 (m_unit_b cu cp cc N) p (pun tp d p) := by
  intro w h hf hdp
  have htk := h.2.2.2.2.2.1
  have h160 := htk.1
  have hk := sk_le hp
  obtain ⟨w1, e1, h1, f1⟩ := M_look (N := N) hN h
  have hf1 : w1 49 11 = -1 := by rw [f1 49 11 rfl]; exact hf
  have hd1 : w1 49 12 = ((6 - d : Nat) : Int) := by rw [f1 49 12 rfl]; exact hdp
  have i33 : lk tp (sk tp p) = 33 ↔ gb tp (sk tp p) = 33 := lk_is htk (c := 33) (by decide)
  have i40 : lk tp (sk tp p) = 40 ↔ gb tp (sk tp p) = 40 := lk_is htk (c := 40) (by decide)
  rw [m_unit_b, e1, b2_some]
  by_cases hb : gb tp (sk tp p) = 33 ∨ gb tp (sk tp p) = 40
  · have hql : sk tp p < tp.length := by rcases hb with z | z; exact gb_lt z (by decide); exact gb_lt z (by decide)
    cases d with
    | zero =>
      have ein : m_goesIn N w1 = some (0, aw_up w1 49 11 (sk tp p : Int)) := by
        rw [m_goesIn, hd1, if_pos (by rfl), M_fails h1 hf1, b2_some, if_pos (Or.inl rfl)]
      rw [pun_0b hb, ein]
      rcases hb with z | z
      · rw [if_pos (i33.mpr z), b2_some, if_pos rfl]
        exact ⟨_, _, rfl, Or.inl rfl, (fr_m rfl f1).up rfl, fun z => nof z, fun _ => up_in⟩
      · rw [if_neg (fun q => by have := i33.mp q; omega), if_pos (i40.mpr z), b2_some, if_pos rfl]
        exact ⟨_, _, rfl, Or.inl rfl, (fr_m rfl f1).up rfl, fun z => nof z, fun _ => up_in⟩
    | succ e =>
      have ew : aw_w (((6 - (e + 1) : Nat) : Int) + 1) = ((6 - e : Nat) : Int) := by rw [ww (by omega) (by omega)]; omega
      have ew2 : aw_w (((6 - e : Nat) : Int) - 1) = ((6 - (e + 1) : Nat) : Int) := by rw [ww (by omega) (by omega)]; omega
      have fu : fr_ S_3 w1 (aw_up (aw_up w1 49 12 ((6 - e : Nat) : Int)) 49 10 ((sk tp p + 1 : Nat) : Int)) := ((fr_r _ _).up rfl).up rfl
      have hx : MP (aw_up (aw_up w1 49 12 ((6 - e : Nat) : Int)) 49 10 ((sk tp p + 1 : Nat) : Int)) B o tp (sk tp p + 1) := (h1.fr (S := [(49, 12)]) ((fr_r _ _).up rfl) rfl).to (by omega)
      have x11 : (aw_up (aw_up w1 49 12 ((6 - e : Nat) : Int)) 49 10 ((sk tp p + 1 : Nat) : Int)) 49 11 = -1 := by rw [up_out (Or.inr (by decide)), up_out (Or.inr (by decide))]; exact hf1
      have x12 : (aw_up (aw_up w1 49 12 ((6 - e : Nat) : Int)) 49 10 ((sk tp p + 1 : Nat) : Int)) 49 12 = ((6 - e : Nat) : Int) := by rw [up_out (Or.inr (by decide)), up_in]
      have ein : m_goesIn N w1 = some (1, aw_up (aw_up w1 49 12 ((6 - e : Nat) : Int)) 49 10 ((sk tp p + 1 : Nat) : Int)) := by
        rw [m_goesIn, hd1, if_neg (by omega), ew, h1.2.2.2.1, ww1 (i := sk tp p) (by omega)]
      rw [pun_sb hb, ein]
      generalize aw_up (aw_up w1 49 12 ((6 - e : Nat) : Int)) 49 10 ((sk tp p + 1 : Nat) : Int) = wx at fu hx x11 x12 ⊢
      rcases hb with z | z
      · obtain ⟨y, w2, e2, qy, f2, g2, b2⟩ := hcu e rfl (sk tp p + 1) (by omega) wx hx x11 x12
        have fA : fr_ S_3 w w2 := (fr_m rfl f1).trans (fu.trans f2)
        have end_ : ∃ y', (if y = 0 then m_unit_44 cu cp cc N 1 (aw_up w2 49 12 (aw_w (w2 49 12 - 1))) else m_unit_44 cu cp cc N 0 (aw_up w2 49 12 (aw_w (w2 49 12 - 1)))) = some (y', aw_up w2 49 12 (aw_w (w2 49 12 - 1))) ∧ q01 y' ∧ y' = 1 - y := by
          rcases qy with y0 | y0
          · rw [if_pos y0]; exact ⟨1, rfl, Or.inr rfl, by omega⟩
          · rw [if_neg (by omega)]; exact ⟨0, rfl, Or.inl rfl, by omega⟩
        obtain ⟨y', ey, qy', vy⟩ := end_
        rw [z, popn_33 rfl, if_pos (i33.mpr z), b2_some, if_neg (by decide), e2, b2_some, ey]
        generalize pun tp e (sk tp p + 1) = R at g2 b2 ⊢
        refine ⟨y', _, rfl, qy', fA.up rfl, fun q => ?_, fun q => ?_⟩
        · cases hR : R.1 with
          | false => rw [if_pos hR] at q; exact nof q
          | true =>
            obtain ⟨z1, z2, z3, z4⟩ := g2 hR
            rw [if_neg (by decide)]
            refine ⟨by rw [up_out (Or.inr (by decide))]; exact z1, by rw [up_in, z2, ew2], z3.fr (S := [(49, 12)]) ((fr_r _ _).up rfl) rfl, fun L hL hl => ?_⟩
            show y' = 1 - R.2.2.2 L
            rw [vy, z4 L hL (fun j hj => by rw [fu 53 _ rfl, f1 53 _ rfl]; exact hl j hj)]
        · cases hR : R.1 with
          | false => rw [if_pos rfl, up_out (Or.inr (by decide))]; exact b2 hR
          | true => rw [if_neg (by rw [hR]; decide)] at q; exact tof q
      · obtain ⟨y, w2, e2, qy, f2, g2, b2⟩ := hcc e rfl (sk tp p + 1) (by omega) wx hx x11 x12
        have fA : fr_ S_3 w w2 := (fr_m rfl f1).trans (fu.trans f2)
        rw [z, popn_40 rfl, if_neg (fun q => by have := i33.mp q; omega), if_pos (i40.mpr z), b2_some, if_neg (by decide), e2, b2_some]
        generalize pcd tp e (sk tp p + 1) = R at g2 b2 ⊢
        cases hR : R.1 with
        | false =>
          have z2 := b2 hR
          have e3 : m_takes N 41 w2 = some (0, w2) := M_takes_f (by omega)
          rw [e3, b2_some, if_pos rfl, if_pos rfl]
          exact ⟨_, w2, rfl, Or.inl rfl, fA, fun z => nof z, fun _ => z2⟩
        | true =>
          obtain ⟨z1, z2, z3, z4⟩ := g2 hR
          rw [if_neg (by decide)]
          by_cases c2 : gb tp (sk tp R.2.1) = 41
          · obtain ⟨w3, e3, h3, f3, fr3⟩ := M_takes_y (N := N) hN z3 z1 (c := 41) (by decide) c2
            have e3' : m_takes N 41 w2 = some (1, w3) := e3
            have hw12 : w3 49 12 = ((6 - e : Nat) : Int) := by rw [fr3 49 12 rfl]; exact z2
            rw [e3', b2_some, if_neg (by decide), if_pos (show y = 0 ∨ y = 1 from qy), if_pos c2, hw12, ew2]
            refine ⟨_, _, rfl, qy, (fA.trans (fr_m rfl fr3)).up rfl, fun _ => ⟨by rw [up_out (Or.inr (by decide))]; exact f3, up_in, h3.fr (S := [(49, 12)]) ((fr_r _ _).up rfl) rfl, fun L hL hl => ?_⟩, fun z => tof z⟩
            exact z4 L hL (fun j hj => by rw [fu 53 _ rfl, f1 53 _ rfl]; exact hl j hj)
          · obtain ⟨w3, e3, f3, fr3⟩ := M_takes_n (N := N) hN z3 z1 (c := 41) (by decide) c2
            have e3' : m_takes N 41 w2 = some (0, w3) := e3
            rw [e3', b2_some, if_pos rfl, if_neg c2]
            exact ⟨_, w3, rfl, Or.inl rfl, fA.trans (fr_m rfl fr3), fun z => nof z, fun _ => f3⟩
  · obtain ⟨y, w2, e2, qy, f2, g2, b2⟩ := M_cmp0 (N := N) (B := B) (o := o) hN hd hk.2 w1 h1 hf1 hd1
    rw [pun_c hb, if_neg (fun q => hb (Or.inl (i33.mp q))), if_neg (fun q => hb (Or.inr (i40.mp q))), e2, b2_some, if_pos (show y = 0 ∨ y = 1 from qy)]
    refine ⟨y, w2, rfl, qy, (fr_m rfl f1).trans f2, fun z => ?_, b2⟩
    obtain ⟨u1, u2, u3, u4⟩ := g2 z
    exact ⟨u1, u2, u3, fun L hL hl => u4 L hL (fun j hj => by rw [f1 53 _ rfl]; exact hl j hj)⟩
end MC
