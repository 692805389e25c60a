/-! ===== pure: conditions, in the reference: the loops ===== -/
section MC2
variable {N : Nat} {w v : aw_W} {tp : List Nat} {p B o d : Nat}
theorem mpl (hN : 200 ≤ N) {cu : aw_W → Option (Int × aw_W)} {cp cc : Int → Int → aw_W → Option (Int × aw_W)} {pa : Nat → Rz} (hpa : okps tp pa) (hcu : ∀ p, p ≤ tp.length → msp tp B o d q01 cu p (pa p)) : ∀ (f p F : Nat) (vl : Int) (w : aw_W) (t : Dn), tp.length < p + f → f + 1 < F → p ≤ tp.length → q01 vl → MP w B o tp p → w 49 11 = -1 → w 49 12 = ((6 - d : Nat) : Int) → ∃ y w', m_part_18 cu cp cc N F vl w = some (y, w') ∧ q01 y ∧ fr_ S_3 w w' ∧ ((trr tp isN pa f p t).1 = true → w' 49 11 = -1 ∧ w' 49 12 = ((6 - d : Nat) : Int) ∧ MP w' B o tp (trr tp isN pa f p t).2.1 ∧ ∀ L, LO L → (∀ j, j < 6 → w 53 (lt6 j) = L j) → vl = t L → y = (trr tp isN pa f p t).2.2.2 L) ∧ ((trr tp isN pa f p t).1 = false → w' 49 11 = ((trr tp isN pa f p t).2.1 : Int)) := by
  intro f
  induction f with
  | zero => intro p F vl w t hf hF hp; omega
  | succ f ih =>
    intro p F vl w t hf hF hp hv h hfl hdp
    obtain ⟨F, rfl⟩ : ∃ g, F = g + 2 := ⟨F - 2, by omega⟩
    have htk := h.2.2.2.2.2.1
    have h160 := htk.1
    have hk := sk_le hp
    obtain ⟨w1, e1, h1, f1⟩ := M_look (N := N) hN h
    have i38 : lk tp (sk tp p) = 38 ↔ gb tp (sk tp p) = 38 := lk_is htk (c := 38) (by decide)
    rw [m_part_18, if_pos hfl, e1, b2_some]
    cases hM : isN (gb tp (sk tp p)) with
    | true =>
      have cm : gb tp (sk tp p) = 38 := of_decide_eq_true hM
      have hql := isT_lt isN0 hM
      have fu : fr_ [(49, 10)] w (aw_up w1 49 10 ((sk tp p + 1 : Nat) : Int)) := f1.up rfl
      obtain ⟨y1, w4, e4, qy, f4, g4, b4⟩ := hcu (sk tp p + 1) (by omega) (aw_up w1 49 10 ((sk tp p + 1 : Nat) : Int)) (h1.to (by omega)) (by rw [fu 49 11 rfl]; exact hfl) (by rw [fu 49 12 rfl]; exact hdp)
      obtain ⟨⟨a1, a2, a3⟩, a4⟩ := hpa (sk tp p + 1) (by omega)
      have fA : fr_ S_3 w w4 := (fr_m rfl fu).trans f4
      rw [if_pos (i38.mpr cm), h1.2.2.2.1, ww1 (by omega), e4, b2_some]
      have pass : ∃ z : Int, (if vl = 0 then m_part_64 cu cp cc N (m_part_18 cu cp cc N (F + 1)) w4 else if y1 = 0 then m_part_64 cu cp cc N (m_part_18 cu cp cc N (F + 1)) w4 else m_part_65 cu cp cc N (m_part_18 cu cp cc N (F + 1)) 1 w4) = m_part_18 cu cp cc N (F + 1) z w4 ∧ q01 z ∧ z = opv (gb tp (sk tp p)) vl y1 := by
        rw [cm, opv_38]
        by_cases c0 : vl = 0
        · rw [if_pos c0, if_pos c0]; exact ⟨0, rfl, Or.inl rfl, rfl⟩
        · rw [if_neg c0, if_neg c0]
          by_cases c1 : y1 = 0
          · rw [if_pos c1, if_pos c1]; exact ⟨0, rfl, Or.inl rfl, rfl⟩
          · rw [if_neg c1, if_neg c1]; exact ⟨1, rfl, Or.inr rfl, rfl⟩
      obtain ⟨z, ez, qz, vz⟩ := pass
      rw [ez]
      cases hA : (pa (sk tp p + 1)).1 with
      | false =>
        have q := b4 hA
        rw [trr_f hM hA, m_part_18, if_neg (by omega), m_part_69, if_pos (show z = 0 ∨ z = 1 from qz)]
        exact ⟨_, w4, rfl, qz, fA, fun z => nof z, fun _ => q⟩
      | true =>
        obtain ⟨q1, q2, q3, q4⟩ := g4 hA
        obtain ⟨y, w', r1, r0, r2, r3, r4⟩ := ih (pa (sk tp p + 1)).2.1 (F + 1) z w4 (opd (gb tp (sk tp p)) t (pa (sk tp p + 1)).2.2.2) (by omega) (by omega) a2 qz q3 q1 q2
        rw [trr_y hM hA]
        refine ⟨y, w', r1, r0, fA.trans r2, fun z' => ?_, r4⟩
        obtain ⟨u1, u2, u3, u4⟩ := r3 z'
        refine ⟨u1, u2, u3, fun L hL hl hv => u4 L hL (fun j hj => by rw [fA 53 _ rfl]; exact hl j hj) ?_⟩
        have e1 := q4 L hL (fun j hj => by rw [fu 53 _ rfl]; exact hl j hj)
        rw [vz, hv, e1, opd_e]
    | false =>
      have nm : ¬ gb tp (sk tp p) = 38 := of_decide_eq_false hM
      rw [if_neg (fun q => nm (i38.mp q)), m_part_69, if_pos (show vl = 0 ∨ vl = 1 from hv), trr_n hM]
      exact ⟨vl, w1, rfl, hv, fr_m rfl f1, fun _ => ⟨by rw [f1 49 11 rfl]; exact hfl, by rw [f1 49 12 rfl]; exact hdp, h1, fun _ _ _ hv => hv⟩, fun z => tof z⟩
/-- a part from behind its first unit on -/
theorem M_p17 (hN : 200 ≤ N) {cu : aw_W → Option (Int × aw_W)} {cp cc : Int → Int → aw_W → Option (Int × aw_W)} {pa : Nat → Rz} {A : Rz} (hpa : okps tp pa) (hcu : ∀ p, p ≤ tp.length → msp tp B o d q01 cu p (pa p)) (hA2 : A.2.1 ≤ tp.length) {X : (Nat → Int) → Prop} {y1 : Int} {w w1 : aw_W} (hS : fr_ S_3 w w1) (qy : q01 y1) (g1 : A.1 = true → w1 49 11 = -1 ∧ w1 49 12 = ((6 - d : Nat) : Int) ∧ MP w1 B o tp A.2.1 ∧ ∀ L, LO L → (∀ j, j < 6 → w 53 (lt6 j) = L j) → X L → y1 = A.2.2.2 L) (b1 : A.1 = false → w1 49 11 = (A.2.1 : Int)) : ∃ y w', m_part_17 cu cp cc N y1 w1 = some (y, w') ∧ q01 y ∧ fr_ S_3 w w' ∧ ((ptA tp isN pa A).1 = true → w' 49 11 = -1 ∧ w' 49 12 = ((6 - d : Nat) : Int) ∧ MP w' B o tp (ptA tp isN pa A).2.1 ∧ ∀ L, LO L → (∀ j, j < 6 → w 53 (lt6 j) = L j) → X L → y = (ptA tp isN pa A).2.2.2 L) ∧ ((ptA tp isN pa A).1 = false → w' 49 11 = ((ptA tp isN pa A).2.1 : Int)) := by
  rw [m_part_17]
  cases hA : A.1 with
  | false =>
    have q := b1 hA
    obtain ⟨M, hM⟩ : ∃ M, N = M + 1 := ⟨N - 1, by omega⟩
    have e2 : m_part_18 cu cp cc N N y1 w1 = some (y1, w1) := by
      conv => lhs; arg 5; rw [hM]
      rw [m_part_18, if_neg (by omega), m_part_69, if_pos (show y1 = 0 ∨ y1 = 1 from qy)]
    rw [e2, ptA_f hA]
    exact ⟨y1, w1, rfl, qy, hS, fun z => nof z, fun _ => q⟩
  | true =>
    obtain ⟨q1, q2, q3, q4⟩ := g1 hA
    have h160 := q3.2.2.2.2.2.1.1
    obtain ⟨y, w', r1, r0, r2, r3, r4⟩ := mpl (N := N) (cu := cu) (cp := cp) (cc := cc) hN hpa hcu (tp.length + 1) A.2.1 N y1 w1 A.2.2.2 (by omega) (by omega) hA2 qy q3 q1 q2
    refine ⟨y, w', r1, r0, hS.trans r2, fun z => ?_, fun z => ?_⟩
    · obtain ⟨T, hT⟩ : ∃ T, trr tp isN pa (tp.length + 1) A.2.1 A.2.2.2 = T := ⟨_, rfl⟩
      rw [hT] at r3 r4
      cases h2 : T.1 with
      | false => rw [ptA_g hA hT h2] at z; exact nof z
      | true =>
        rw [ptA_y hA hT h2]
        obtain ⟨u1, u2, u3, u4⟩ := r3 h2
        exact ⟨u1, u2, u3, fun L hL hl hx => u4 L hL (fun j hj => by rw [hS 53 _ rfl]; exact hl j hj) (q4 L hL hl hx)⟩
    · obtain ⟨T, hT⟩ : ∃ T, trr tp isN pa (tp.length + 1) A.2.1 A.2.2.2 = T := ⟨_, rfl⟩
      rw [hT] at r3 r4
      cases h2 : T.1 with
      | false => rw [ptA_g hA hT h2]; exact r4 h2
      | true => rw [ptA_y hA hT h2] at z; exact tof z
theorem mcl (hN : 200 ≤ N) {cu : aw_W → Option (Int × aw_W)} {cp cc : Int → Int → aw_W → Option (Int × aw_W)} {pa : Nat → Rz} (hpa : okps tp pa) (hcp : ∀ p, p ≤ tp.length → msp tp B o d q01 (cp 0 0) p (ptA tp isN pa (pa p))) : ∀ (f p F : Nat) (vl : Int) (w : aw_W) (s : Dn), tp.length < p + f → f + 1 < F → p ≤ tp.length → q01 vl → MP w B o tp p → w 49 11 = -1 → w 49 12 = ((6 - d : Nat) : Int) → ∃ y w', m_condition_7 cu cp cc N F vl w = some (y, w') ∧ q01 y ∧ fr_ S_3 w w' ∧ ((srr tp isN isO pa f p s).1 = true → w' 49 11 = -1 ∧ w' 49 12 = ((6 - d : Nat) : Int) ∧ MP w' B o tp (srr tp isN isO pa f p s).2.1 ∧ ∀ L, LO L → (∀ j, j < 6 → w 53 (lt6 j) = L j) → vl = s L → y = (srr tp isN isO pa f p s).2.2.2 L) ∧ ((srr tp isN isO pa f p s).1 = false → w' 49 11 = ((srr tp isN isO pa f p s).2.1 : Int)) := by
  intro f
  induction f with
  | zero => intro p F vl w s hf hF hp; omega
  | succ f ih =>
    intro p F vl w s hf hF hp hv h hfl hdp
    obtain ⟨F, rfl⟩ : ∃ g, F = g + 2 := ⟨F - 2, by omega⟩
    have htk := h.2.2.2.2.2.1
    have h160 := htk.1
    have hk := sk_le hp
    obtain ⟨w1, e1, h1, f1⟩ := M_look (N := N) hN h
    have i124 : lk tp (sk tp p) = 124 ↔ gb tp (sk tp p) = 124 := lk_is htk (c := 124) (by decide)
    rw [m_condition_7, if_pos hfl, e1, b2_some]
    cases hL : isO (gb tp (sk tp p)) with
    | true =>
      have cm : gb tp (sk tp p) = 124 := of_decide_eq_true hL
      have hql := isT_lt isO0 hL
      have fu : fr_ [(49, 10)] w (aw_up w1 49 10 ((sk tp p + 1 : Nat) : Int)) := f1.up rfl
      obtain ⟨y1, w4, e4, qy, f4, g4, b4⟩ := hcp (sk tp p + 1) (by omega) (aw_up w1 49 10 ((sk tp p + 1 : Nat) : Int)) (h1.to (by omega)) (by rw [fu 49 11 rfl]; exact hfl) (by rw [fu 49 12 rfl]; exact hdp)
      obtain ⟨⟨a1, a2, a3⟩, a4⟩ := ptA_p isN0 hpa (hpa (sk tp p + 1) (by omega)).1
      have fA : fr_ S_3 w w4 := (fr_m rfl fu).trans f4
      rw [if_pos (i124.mpr cm), h1.2.2.2.1, ww1 (by omega), e4, b2_some]
      have pass : ∃ z : Int, (if vl = 0 then (if y1 = 0 then m_condition_56 cu cp cc N (m_condition_7 cu cp cc N (F + 1)) 0 w4 else m_condition_51 cu cp cc N (m_condition_7 cu cp cc N (F + 1)) w4) else m_condition_51 cu cp cc N (m_condition_7 cu cp cc N (F + 1)) w4) = m_condition_7 cu cp cc N (F + 1) z w4 ∧ q01 z ∧ z = opv (gb tp (sk tp p)) vl y1 := by
        rw [cm, opv_124]
        by_cases c0 : vl = 0
        · rw [if_pos c0, if_pos c0]
          by_cases c1 : y1 = 0
          · rw [if_pos c1, if_pos c1]; exact ⟨0, rfl, Or.inl rfl, rfl⟩
          · rw [if_neg c1, if_neg c1]; exact ⟨1, rfl, Or.inr rfl, rfl⟩
        · rw [if_neg c0, if_neg c0]; exact ⟨1, rfl, Or.inr rfl, rfl⟩
      obtain ⟨z, ez, qz, vz⟩ := pass
      rw [ez]
      cases hP : (ptA tp isN pa (pa (sk tp p + 1))).1 with
      | false =>
        have q := b4 hP
        obtain ⟨t1, t2⟩ := srr_Pf (isL := isO) (f := f) (s := s) hL hP
        rw [t1, t2, m_condition_7, if_neg (by omega), m_condition_60, if_pos (show z = 0 ∨ z = 1 from qz)]
        exact ⟨_, w4, rfl, qz, fA, fun z => Bool.noConfusion z, fun _ => q⟩
      | true =>
        obtain ⟨q1, q2, q3, q4⟩ := g4 hP
        obtain ⟨t1, t2, t3⟩ := srr_Py (isL := isO) (f := f) (s := s) hL hP
        obtain ⟨y, w', r1, r0, r2, r3, r4⟩ := ih (ptA tp isN pa (pa (sk tp p + 1))).2.1 (F + 1) z w4 (opd (gb tp (sk tp p)) s (ptA tp isN pa (pa (sk tp p + 1))).2.2.2) (by omega) (by omega) a2 qz q3 q1 q2
        rw [t1, t2, t3]
        refine ⟨y, w', r1, r0, fA.trans r2, fun z' => ?_, r4⟩
        obtain ⟨u1, u2, u3, u4⟩ := r3 z'
        refine ⟨u1, u2, u3, fun L hL hl hv => u4 L hL (fun j hj => by rw [fA 53 _ rfl]; exact hl j hj) ?_⟩
        have e1 := q4 L hL (fun j hj => by rw [fu 53 _ rfl]; exact hl j hj)
        rw [vz, hv, e1, opd_e]
    | false =>
      have nm : ¬ gb tp (sk tp p) = 124 := of_decide_eq_false hL
      rw [if_neg (fun q => nm (i124.mp q)), m_condition_60, if_pos (show vl = 0 ∨ vl = 1 from hv), srr_n hL]
      exact ⟨vl, w1, rfl, hv, fr_m rfl f1, fun _ => ⟨by rw [f1 49 11 rfl]; exact hfl, by rw [f1 49 12 rfl]; exact hdp, h1, fun _ _ _ hv => hv⟩, fun z => tof z⟩
/-- a condition from behind its first part on -/
theorem M_c7 (hN : 200 ≤ N) {cu : aw_W → Option (Int × aw_W)} {cp cc : Int → Int → aw_W → Option (Int × aw_W)} {pa : Nat → Rz} {A : Rz} (hpa : okps tp pa) (hcp : ∀ p, p ≤ tp.length → msp tp B o d q01 (cp 0 0) p (ptA tp isN pa (pa p))) (hA2 : (ptA tp isN pa A).2.1 ≤ tp.length) {X : (Nat → Int) → Prop} {y1 : Int} {w w1 : aw_W} (hS : fr_ S_3 w w1) (qy : q01 y1) (g1 : (ptA tp isN pa A).1 = true → w1 49 11 = -1 ∧ w1 49 12 = ((6 - d : Nat) : Int) ∧ MP w1 B o tp (ptA tp isN pa A).2.1 ∧ ∀ L, LO L → (∀ j, j < 6 → w 53 (lt6 j) = L j) → X L → y1 = (ptA tp isN pa A).2.2.2 L) (b1 : (ptA tp isN pa A).1 = false → w1 49 11 = ((ptA tp isN pa A).2.1 : Int)) : ∃ y w', m_condition_7 cu cp cc N N y1 w1 = some (y, w') ∧ q01 y ∧ fr_ S_3 w w' ∧ ((chn tp isN isO pa A).1 = true → w' 49 11 = -1 ∧ w' 49 12 = ((6 - d : Nat) : Int) ∧ MP w' B o tp (chn tp isN isO pa A).2.1 ∧ ∀ L, LO L → (∀ j, j < 6 → w 53 (lt6 j) = L j) → X L → y = (chn tp isN isO pa A).2.2.2 L) ∧ ((chn tp isN isO pa A).1 = false → w' 49 11 = ((chn tp isN isO pa A).2.1 : Int)) := by
  cases hP : (ptA tp isN pa A).1 with
  | false =>
    have q := b1 hP
    obtain ⟨t1, t2⟩ := chn_Pf (isL := isO) hP
    obtain ⟨M, hM⟩ : ∃ M, N = M + 1 := ⟨N - 1, by omega⟩
    have e2 : m_condition_7 cu cp cc N N y1 w1 = some (y1, w1) := by
      conv => lhs; arg 5; rw [hM]
      rw [m_condition_7, if_neg (by omega), m_condition_60, if_pos (show y1 = 0 ∨ y1 = 1 from qy)]
    rw [e2, t1, t2]
    exact ⟨y1, w1, rfl, qy, hS, fun z => Bool.noConfusion z, fun _ => q⟩
  | true =>
    obtain ⟨q1, q2, q3, q4⟩ := g1 hP
    have h160 := q3.2.2.2.2.2.1.1
    obtain ⟨t1, t2, t3⟩ := chn_Py (isL := isO) hP
    obtain ⟨y, w', r1, r0, r2, r3, r4⟩ := mcl (N := N) (cu := cu) (cp := cp) (cc := cc) hN hpa hcp (tp.length + 1) (ptA tp isN pa A).2.1 N y1 w1 (ptA tp isN pa A).2.2.2 (by omega) (by omega) hA2 qy q3 q1 q2
    rw [t1, t2, t3]
    refine ⟨y, w', r1, r0, hS.trans r2, fun z => ?_, r4⟩
    obtain ⟨u1, u2, u3, u4⟩ := r3 z
    exact ⟨u1, u2, u3, fun L hL hl hx => u4 L hL (fun j hj => by rw [hS 53 _ rfl]; exact hl j hj) (q4 L hL hl hx)⟩
theorem M_gu (hN : 200 ≤ N) : ∀ d, d ≤ 6 → (∀ D, 3 * d + 1 ≤ D → ∀ p, p ≤ tp.length → msp tp B o d q01 (g_m_unit N D).1 p (pun tp d p)) ∧ (∀ D, 3 * d + 2 ≤ D → ∀ p, p ≤ tp.length → msp tp B o d q01 ((g_m_unit N D).2.1 0 0) p (ptA tp isN (pun tp d) (pun tp d p))) ∧ (∀ D, 3 * d + 3 ≤ D → ∀ p, p ≤ tp.length → msp tp B o d q01 ((g_m_unit N D).2.2 0 0) p (pcd tp d p)) := by
  have pt : ∀ d, (∀ D, 3 * d + 1 ≤ D → ∀ p, p ≤ tp.length → msp tp B o d q01 (g_m_unit N D).1 p (pun tp d p)) → ∀ D, 3 * d + 2 ≤ D → ∀ p, p ≤ tp.length → msp tp B o d q01 ((g_m_unit N D).2.1 0 0) p (ptA tp isN (pun tp d) (pun tp d p)) := by
    intro d ha D hD p hp
    obtain ⟨D, rfl⟩ : ∃ E, D = E + 1 := ⟨D - 1, by omega⟩
    intro w h hf hdp
    obtain ⟨y1, w1, e1, qy, f1, g1, b1⟩ := ha D (by omega) p hp w h hf hdp
    obtain ⟨y, w', r1, r0, r2, r3, r4⟩ := M_p17 (N := N) (X := fun _ => True) (cu := (g_m_unit N D).1) (cp := (g_m_unit N D).2.1) (cc := (g_m_unit N D).2.2) hN (pun_p d).1 (fun p hp => ha D (by omega) p hp) ((pun_p d).1 p hp).1.2.1 f1 qy (fun z => by obtain ⟨a, b, c, e⟩ := g1 z; exact ⟨a, b, c, fun L hL hl _ => e L hL hl⟩) b1
    refine ⟨y, w', ?_, r0, r2, fun z => by obtain ⟨a, b, c, e⟩ := r3 z; exact ⟨a, b, c, fun L hL hl => e L hL hl trivial⟩, r4⟩
    show m_part_b (g_m_unit N D).1 (g_m_unit N D).2.1 (g_m_unit N D).2.2 N 0 0 w = _
    rw [m_part_b, if_pos rfl, e1, b2_some]
    exact r1
  have pc : ∀ d, (∀ D, 3 * d + 2 ≤ D → ∀ p, p ≤ tp.length → msp tp B o d q01 ((g_m_unit N D).2.1 0 0) p (ptA tp isN (pun tp d) (pun tp d p))) → ∀ D, 3 * d + 3 ≤ D → ∀ p, p ≤ tp.length → msp tp B o d q01 ((g_m_unit N D).2.2 0 0) p (pcd tp d p) := by
    intro d hb D hD p hp
    obtain ⟨D, rfl⟩ : ∃ E, D = E + 1 := ⟨D - 1, by omega⟩
    intro w h hf hdp
    obtain ⟨y1, w1, e1, qy, f1, g1, b1⟩ := hb D (by omega) p hp w h hf hdp
    obtain ⟨y, w', r1, r0, r2, r3, r4⟩ := M_c7 (N := N) (X := fun _ => True) (cu := (g_m_unit N D).1) (cp := (g_m_unit N D).2.1) (cc := (g_m_unit N D).2.2) hN (pun_p d).1 (fun p hp => hb D (by omega) p hp) (ptA_p isN0 (pun_p d).1 ((pun_p d).1 p hp).1).1.2.1 f1 qy (fun z => by obtain ⟨a, b, c, e⟩ := g1 z; exact ⟨a, b, c, fun L hL hl _ => e L hL hl⟩) b1
    refine ⟨y, w', ?_, r0, r2, fun z => by obtain ⟨a, b, c, e⟩ := r3 z; exact ⟨a, b, c, fun L hL hl => e L hL hl trivial⟩, r4⟩
    show m_condition_b (g_m_unit N D).1 (g_m_unit N D).2.1 (g_m_unit N D).2.2 N 0 0 w = _
    rw [m_condition_b, e1, b2_some]
    exact r1
  intro d
  induction d with
  | zero =>
    intro hd
    have ha : ∀ D, 3 * 0 + 1 ≤ D → ∀ p, p ≤ tp.length → msp tp B o 0 q01 (g_m_unit N D).1 p (pun tp 0 p) := by
      intro D hD p hp
      obtain ⟨D, rfl⟩ : ∃ E, D = E + 1 := ⟨D - 1, by omega⟩
      exact M_unb hN (by decide) (fun e he => by omega) (fun e he => by omega) hp
    exact ⟨ha, pt 0 ha, pc 0 (pt 0 ha)⟩
  | succ d ih =>
    intro hd
    have ih' := ih (by omega)
    have ha : ∀ D, 3 * (d + 1) + 1 ≤ D → ∀ p, p ≤ tp.length → msp tp B o (d + 1) q01 (g_m_unit N D).1 p (pun tp (d + 1) p) := by
      intro D hD p hp
      obtain ⟨D, rfl⟩ : ∃ E, D = E + 1 := ⟨D - 1, by omega⟩
      exact M_unb hN hd (fun e he p hp => by
        have : e = d := by omega
        subst this
        exact ih'.1 D (by omega) p hp) (fun e he p hp => by
        have : e = d := by omega
        subst this
        exact ih'.2.2 D (by omega) p hp) hp
    exact ⟨ha, pt (d + 1) ha, pc (d + 1) (pt (d + 1) ha)⟩
theorem M_cond (hN : 200 ≤ N) (hp : p ≤ tp.length) : msp tp B o 6 q01 (m_condition N 0 0) p (pcd tp 6 p) := (M_gu hN 6 (by decide)).2.2 60 (by decide) p hp
/-- a condition whose first sum has been read: s0 -/
theorem M_condb (hN : 200 ≤ N) (hp : p ≤ tp.length) {dn : Dn} {s0 : Int} (h : MP w B o tp p) (hf : w 49 11 = -1) (hdp : w 49 12 = 0) : ∃ y w', m_condition N 1 s0 w = some (y, w') ∧ q01 y ∧ fr_ S_3 w w' ∧ ((chn tp isN isO (pun tp 6) (cmp tp 6 (true, p, [], dn))).1 = true → w' 49 11 = -1 ∧ w' 49 12 = 0 ∧ MP w' B o tp (chn tp isN isO (pun tp 6) (cmp tp 6 (true, p, [], dn))).2.1 ∧ ∀ L, LO L → (∀ j, j < 6 → w 53 (lt6 j) = L j) → s0 = dn L → y = (chn tp isN isO (pun tp 6) (cmp tp 6 (true, p, [], dn))).2.2.2 L) ∧ ((chn tp isN isO (pun tp 6) (cmp tp 6 (true, p, [], dn))).1 = false → w' 49 11 = ((chn tp isN isO (pun tp 6) (cmp tp 6 (true, p, [], dn))).2.1 : Int)) := by
  obtain ⟨y1, w1, e1, qy, f1, g1, b1⟩ := M_c12 (N := N) (dn := dn) (s0 := s0) (d := 6) hN (by decide) hp h hf hdp
  have hok := (cmp_p (tp := tp) (d := 6) (okr_b (dn := dn) hp)).1
  have hu := (M_gu (tp := tp) (B := B) (o := o) hN 6 (by decide)).1 58 (by decide)
  have hpt := (M_gu (tp := tp) (B := B) (o := o) hN 6 (by decide)).2.1 59 (by decide)
  obtain ⟨y2, w2, e2, qy2, f2, g2, b2⟩ := M_p17 (N := N) (X := fun L => s0 = dn L) (cu := (g_m_unit N 58).1) (cp := (g_m_unit N 58).2.1) (cc := (g_m_unit N 58).2.2) hN (pun_p 6).1 hu hok.2.1 f1 qy g1 b1
  obtain ⟨y, w', e3, qy3, f3, g3, b3⟩ := M_c7 (N := N) (X := fun L => s0 = dn L) (cu := (g_m_unit N 59).1) (cp := (g_m_unit N 59).2.1) (cc := (g_m_unit N 59).2.2) hN (pun_p 6).1 hpt (ptA_p isN0 (pun_p 6).1 hok).1.2.1 f2 qy2 g2 b2
  refine ⟨y, w', ?_, qy3, f3, g3, b3⟩
  show m_condition_b (g_m_unit N 59).1 (g_m_unit N 59).2.1 (g_m_unit N 59).2.2 N 1 s0 w = _
  rw [m_condition_b]
  show (aw_b2 (m_part_b (g_m_unit N 58).1 (g_m_unit N 58).2.1 (g_m_unit N 58).2.2 N 1 s0 w) _) = _
  rw [m_part_b, if_neg (by decide), m_compares, if_neg (by decide), e1, b2_some, e2, b2_some]
  exact e3
end MC2
