/-! ===== pure: calls that change something ===== -/
section NC
variable {N : Nat} {w v w1 w2 : aw_W} {S Sm : List (Nat × Nat)} {n : Nat} {lw it : Nat → Int} {m : Nat} {r : Nat → Nat} {rl : Nat → Int} {tp : List Nat} {k : Nat} {tx : Nat → List Nat} {kp : Bool} {km : Nat} {kr : Nat → Nat} {kl ku : Nat → Int}
theorem K7 (h : few n = true → w 23 4 = 0 ∨ RK w n lw it) (hf : fr_ S w v) (ha : avd S [(23, 4), (23, 5), (23, 6), (23, 7), (24, 1000000)] = true) : few n = true → v 23 4 = 0 ∨ RK v n lw it := fun z => by
  rcases h z with q | q
  · exact Or.inl (by rw [avd_fr ha hf rfl]; exact q)
  · exact Or.inr (q.fr hf ha)
theorem nv_step {fx fm : aw_W → Option (Int × aw_W)} {a : Int} (e1 : fx w = some (a, w1)) (hX : NX w1 n lw it m r rl tp k tx kp km kr kl ku) (e2 : fm w1 = some (a, w2)) (f2 : fr_ Sm w1 w2) (a3 : avd Sm P_NX = true) (hM : NM w2 n lw it m r rl tp k tx kp km kr kl ku) (hD : ND n m k rl kp kl ku) : okc2 fx fm w :=
  ⟨a, w1, w2, e1, e2, _, _, _, _, _, _, _, _, _, _, _, _, _, _, hX.fr f2 a3, hM, hD⟩
theorem C_feed (hN : 10000000 ≤ N) (h : nv w) {x1 x2 x3 x4 x5 : Int} : okc2 (x_feed N x1 x2 x3 x4 x5) (m_feed N x1 x2 x3 x4 x5) w := by
  obtain ⟨n, lw, it, m, r, rl, tp, k, tx, kp, km, kr, kl, ku, ⟨h1, h2, h3, h4, h5, h6, h7⟩, hM, hD⟩ := h
  obtain ⟨w1, e1, t1⟩ := X_feed (N := N) (by omega) h4 (x1 := x1) (x2 := x2) (x3 := x3) (x4 := x4) (x5 := x5)
  have f1 := f_x_feed N _ _ _ _ _ _ _ _ e1
  obtain ⟨g1, g2, g3, g4, g5, g6⟩ := hM.fr f1 rfl
  obtain ⟨w2, e2, t2⟩ := M_feed (N := N) (by omega) g4 (x1 := x1) (x2 := x2) (x3 := x3) (x4 := x4) (x5 := x5)
  have f2 := f_m_feed N _ _ _ _ _ _ _ _ e2
  exact nv_step e1 ⟨h1.fr f1 rfl, h2.fr f1 rfl, h3.fr f1 rfl, t1, h5.fr f1 rfl, h6.fr f1 rfl, K7 h7 f1 rfl⟩ e2 f2 rfl ⟨g1.fr f2 rfl, g2.fr f2 rfl, g3.fr f2 rfl, t2, g5.fr f2 rfl, g6.fr f2 rfl⟩ hD
theorem C_end (hN : 10000000 ≤ N) (h : nv w) {x1 : Int} : okc2 (x_end N x1) (m_end N x1) w := by
  obtain ⟨n, lw, it, m, r, rl, tp, k, tx, kp, km, kr, kl, ku, ⟨h1, h2, h3, h4, h5, h6, h7⟩, hM, hD⟩ := h
  obtain ⟨w1, e1, t1⟩ := X_end (N := N) h4 (x := x1)
  have f1 := f_x_end N _ _ _ _ e1
  obtain ⟨g1, g2, g3, g4, g5, g6⟩ := hM.fr f1 rfl
  obtain ⟨w2, e2, t2⟩ := M_end (N := N) g4 (x := x1)
  have f2 := f_m_end N _ _ _ _ e2
  exact nv_step e1 ⟨h1.fr f1 rfl, h2.fr f1 rfl, h3.fr f1 rfl, t1, h5.fr f1 rfl, h6.fr f1 rfl, K7 h7 f1 rfl⟩ e2 f2 rfl ⟨g1.fr f2 rfl, g2.fr f2 rfl, g3.fr f2 rfl, t2, g5.fr f2 rfl, g6.fr f2 rfl⟩ hD
theorem C_change (hN : 10000000 ≤ N) (h : nv w) {x1 x2 : Int} : okc2 (x_change N x1 x2) (m_change N x1 x2) w := by
  obtain ⟨n, lw, it, m, r, rl, tp, k, tx, kp, km, kr, kl, ku, ⟨h1, h2, h3, h4, h5, h6, h7⟩, hM, hD⟩ := h
  obtain ⟨w1, e1, t1, c1⟩ := X_change (N := N) h1 (x1 := x1) (x2 := x2)
  have f1 := f_x_change N _ _ _ _ _ e1
  obtain ⟨g1, g2, g3, g4, g5, g6⟩ := hM.fr f1 rfl
  obtain ⟨w2, e2, t2⟩ := M_change (N := N) g1 (x1 := x1) (x2 := x2)
  have f2 := f_m_change N _ _ _ _ _ e2
  refine nv_step e1 ⟨t1, h2.fr f1 rfl, h3.fr f1 rfl, h4.fr f1 rfl, h5.fr f1 rfl, h6.fr f1 rfl, fun z => ?_⟩ e2 f2 rfl ⟨t2, g2.fr f2 rfl, g3.fr f2 rfl, g4.fr f2 rfl, g5.fr f2 rfl, g6.fr f2 rfl⟩ hD
  rcases c1 with ⟨q1, q2⟩ | q
  · rw [q1]
    unfold lwc
    rw [if_neg (by rw [q2]; decide)]
    exact h7 z
  · exact Or.inl q
theorem C_rule (hN : 10000000 ≤ N) (h : nv w) {x1 x2 : Int} : okc2 (x_rule N x1 x2) (m_rule N x1 x2) w := by
  obtain ⟨n, lw, it, m, r, rl, tp, k, tx, kp, km, kr, kl, ku, ⟨h1, h2, h3, h4, h5, h6, h7⟩, hM, hD⟩ := h
  obtain ⟨w1, e1, t1⟩ := X_rule (N := N) h1 h5.1 h3 (x1 := x1) (x2 := x2)
  have f1 := f_x_rule N _ _ _ _ _ e1
  obtain ⟨g1, g2, g3, g4, g5, g6⟩ := hM.fr f1 rfl
  obtain ⟨w2, e2, t2⟩ := M_rule (N := N) g1 g5.1 g5.2.1 g3 (x1 := x1) (x2 := x2)
  have f2 := f_m_rule N _ _ _ _ _ e2
  exact nv_step e1 ⟨h1.fr f1 rfl, h2.fr f1 rfl, t1, h4.fr f1 rfl, h5.fr f1 rfl, h6.fr f1 rfl, K7 h7 f1 rfl⟩ e2 f2 rfl ⟨g1.fr f2 rfl, g2.fr f2 rfl, t2, g4.fr f2 rfl, g5.fr f2 rfl, g6.fr f2 rfl⟩ ⟨ruB_rlc hD.1, hD.2⟩
theorem okr_n {x : Int} (h : okr n lw x = true) : n ≠ 0 := by
  unfold okr at h
  simp at h
  exact h.1.1
theorem C_honour (hN : 10000000 ≤ N) (h : nv w) {x1 : Int} (hx : aw_I x1) : okc2 (x_honour N x1) (m_honour N x1) w := by
  obtain ⟨n, lw, it, m, r, rl, tp, k, tx, kp, km, kr, kl, ku, ⟨h1, h2, h3, h4, h5, h6, h7⟩, hM, hD⟩ := h
  obtain ⟨w1, e1, t1⟩ := X_honour (N := N) (by omega) h1 h2 hx
  have f1 := f_x_honour N _ _ _ _ e1
  obtain ⟨g1, g2, g3, g4, g5, g6⟩ := hM.fr f1 rfl
  obtain ⟨w2, e2, t2⟩ := M_honour (N := N) (by omega) g1 g2 hx
  have f2 := f_m_honour N _ _ _ _ e2
  refine nv_step e1 ⟨h1.fr f1 rfl, t1, h3.fr f1 rfl, h4.fr f1 rfl, h5.fr f1 rfl, h6.fr f1 rfl, K7 h7 f1 rfl⟩ e2 f2 rfl ⟨g1.fr f2 rfl, t2, g3.fr f2 rfl, g4.fr f2 rfl, g5.fr f2 rfl, g6.fr f2 rfl⟩ ⟨hD.1, hD.2.1, fun z => ?_⟩
  cases ho : okr n lw x1 with
  | true => exact okr_n ho
  | false =>
    unfold hbm at z
    rw [if_pos (Or.inr ho)] at z
    exact hD.2.2 z
theorem C_years (hN : 10000000 ≤ N) (h : nv w) {x1 x2 : Int} : okc2 (x_years N x1 x2) (m_years N x1 x2) w := by
  obtain ⟨n, lw, it, m, r, rl, tp, k, tx, kp, km, kr, kl, ku, ⟨h1, h2, h3, h4, h5, h6, h7⟩, hM, hD⟩ := h
  obtain ⟨w1, e1, t1⟩ := X_years (N := N) (by omega) h1 h2 (x1 := x1) (x2 := x2)
  have f1 := f_x_years N _ _ _ _ _ e1
  obtain ⟨g1, g2, g3, g4, g5, g6⟩ := hM.fr f1 rfl
  obtain ⟨w2, e2, t2⟩ := M_years (N := N) (by omega) g1 g2 (x1 := x1) (x2 := x2)
  have f2 := f_m_years N _ _ _ _ _ e2
  refine nv_step e1 ⟨h1.fr f1 rfl, t1, h3.fr f1 rfl, h4.fr f1 rfl, h5.fr f1 rfl, h6.fr f1 rfl, K7 h7 f1 rfl⟩ e2 f2 rfl ⟨g1.fr f2 rfl, t2, g3.fr f2 rfl, g4.fr f2 rfl, g5.fr f2 rfl, g6.fr f2 rfl⟩ ⟨hD.1, hD.2.1, fun z => ?_⟩
  unfold ybm at z
  by_cases y : yok n m x1 = true
  · exact (yok_iff.mp y).1
  · rw [if_neg y] at z
    exact hD.2.2 z
theorem C_undo (hN : 10000000 ≤ N) (h : nv w) : okc2 (x_undo N) (m_undo N) w := by
  obtain ⟨n, lw, it, m, r, rl, tp, k, tx, kp, km, kr, kl, ku, ⟨h1, h2, h3, h4, h5, h6, h7⟩, hM, hD⟩ := h
  obtain ⟨w1, e1, t1⟩ := X_undo (N := N) h2
  have f1 := f_x_undo N _ _ _ e1
  obtain ⟨g1, g2, g3, g4, g5, g6⟩ := hM.fr f1 rfl
  obtain ⟨w2, e2, t2⟩ := M_undo (N := N) g2
  have f2 := f_m_undo N _ _ _ e2
  exact nv_step e1 ⟨h1.fr f1 rfl, t1, h3.fr f1 rfl, h4.fr f1 rfl, h5.fr f1 rfl, h6.fr f1 rfl, K7 h7 f1 rfl⟩ e2 f2 rfl ⟨g1.fr f2 rfl, t2, g3.fr f2 rfl, g4.fr f2 rfl, g5.fr f2 rfl, g6.fr f2 rfl⟩ ⟨hD.1, hD.2.1, fun z => hD.2.2 (by omega)⟩
theorem C_image (hN : 10000000 ≤ N) (h : nv w) : okc2 (x_image N) (m_image N) w := by
  obtain ⟨n, lw, it, m, r, rl, tp, k, tx, kp, km, kr, kl, ku, ⟨h1, h2, h3, h4, h5, h6, h7⟩, hM, hD⟩ := h
  obtain ⟨w1, e1, t1, u1⟩ := X_image (N := N) h1 h2 h3 h6
  have f1 := f_x_image N _ _ _ e1
  obtain ⟨g1, g2, g3, g4, g5, g6⟩ := hM.fr f1 rfl
  obtain ⟨w2, e2, t2, u2⟩ := M_image (N := N) (by omega) g1 g2 g3 g6
  have f2 := f_m_image N _ _ _ e2
  by_cases c : n = 0
  · have q1 : XI w1 kp km kr kl ku := by rw [u1 c]; exact h6
    have q2 : MI w2 kp km kr kl ku := by rw [u2 c]; exact g6.th
    exact nv_step e1 ⟨h1.fr f1 rfl, h2.fr f1 rfl, h3.fr f1 rfl, h4.fr f1 rfl, h5.fr f1 rfl, q1, K7 h7 f1 rfl⟩ e2 f2 rfl ⟨g1.fr f2 rfl, g2.fr f2 rfl, g3.fr f2 rfl, g4.fr f2 rfl, g5.fr f2 rfl, q2⟩ hD
  · exact nv_step e1 ⟨h1.fr f1 rfl, h2.fr f1 rfl, h3.fr f1 rfl, h4.fr f1 rfl, h5.fr f1 rfl, t1 c, K7 h7 f1 rfl⟩ e2 f2 rfl ⟨g1.fr f2 rfl, g2.fr f2 rfl, g3.fr f2 rfl, g4.fr f2 rfl, g5.fr f2 rfl, t2 c⟩ ⟨hD.1, fun _ => ⟨c, (h1.2.2.2.2.2 c).1, hD.1⟩, hD.2.2⟩
theorem C_back (hN : 10000000 ≤ N) (h : nv w) : okc2 (x_back N) (m_back N) w := by
  obtain ⟨n, lw, it, m, r, rl, tp, k, tx, kp, km, kr, kl, ku, ⟨h1, h2, h3, h4, h5, h6, h7⟩, hM, hD⟩ := h
  have hk : kp = true → n ≠ 0 ∧ LB kl := fun z => ⟨(hD.2.1 z).1, (hD.2.1 z).2.1⟩
  obtain ⟨w1, e1, t1, u1⟩ := X_back (N := N) h1 hk h6
  have f1 := f_x_back N _ _ _ e1
  obtain ⟨g1, g2, g3, g4, g5, g6⟩ := hM.fr f1 rfl
  obtain ⟨w2, e2, t2, u2⟩ := M_back (N := N) (by omega) g1 g3 hk g6
  have f2 := f_m_back N _ _ _ e2
  cases c : kp with
  | false =>
    have z1 := u1 c
    have z2 := u2 c
    subst z1
    rw [c] at h6 hD g6
    refine nv_step e1 ⟨h1, h2, h3, h4, h5, h6, h7⟩ e2 f2 rfl ?_ hD
    rw [z2]
    exact ⟨g1.th, g2.th, g3.th, g4.th, g5.fr (S := [(49, 0)]) ((fr_r _ _).up rfl) rfl, g6.th⟩
  | true =>
    obtain ⟨q1, q2, q3, q4⟩ := t1 c
    obtain ⟨p1, p2, p3⟩ := t2 c
    obtain ⟨d1, d2, d3⟩ := hD.2.1 c
    exact nv_step e1 ⟨q1, q2, q3, h4.fr f1 rfl, h5.fr f1 rfl, h6.fr f1 rfl, fun _ => Or.inl q4⟩ e2 f2 rfl ⟨p1, p2, p3, g4.fr f2 rfl, g5.fr f2 rfl, g6.fr f2 rfl⟩ ⟨d3, hD.2.1, fun _ => d1⟩
theorem ruB_k {k k' : Nat} (h : ruB rl n k) (hk : k ≤ k') : ruB rl n k' := fun s hs => by
  have := h s hs
  omega
theorem C_text (hN : 10000000 ≤ N) (h : nv w) {x1 : Int} : okc2 (x_text N x1) (m_text N x1) w := by
  obtain ⟨n, lw, it, m, r, rl, tp, k, tx, kp, km, kr, kl, ku, ⟨h1, h2, h3, h4, h5, h6, h7⟩, hM, hD⟩ := h
  obtain ⟨w1, e1, A1, B1, C1⟩ := X_text (N := N) (by omega) h4 h5 h2 (x := x1)
  have f1 := f_x_text N _ _ _ _ e1
  obtain ⟨g1, g2, g3, g4, g5, g6⟩ := hM.fr f1 rfl
  obtain ⟨w2, e2, A2, B2, C2⟩ := M_text (N := N) (by omega) g4 g5 g2 g3.2 (x := x1)
  have f2 := f_m_text N _ _ _ _ e2
  cases a : tA tp x1 with
  | true =>
    obtain ⟨p1, p2, p3, p4, p5, p6, p7⟩ := A1 a
    obtain ⟨q1, q2, q3, q4, q5, q6⟩ := A2 a
    exact nv_step (kp := false) (km := km) (kr := kr) (kl := kl) (ku := ku) e1 ⟨p1, p2, p3, p6, p7, ⟨p4, fun z => absurd z (by decide)⟩, fun _ => Or.inl p5⟩ e2 f2 rfl ⟨q1, q2, q3, q5, q6, ⟨q4, fun z => absurd z (by decide)⟩⟩ ⟨fun s _ => Or.inl rfl, fun z => absurd z (by decide), fun z => absurd rfl z⟩
  | false =>
    cases b : tB tp k x1 with
    | true =>
      obtain ⟨p1, p2, p3⟩ := B1 a b
      obtain ⟨q1, q2, q3⟩ := B2 a b
      exact nv_step e1 ⟨h1.fr p3 rfl, h2.fr p3 rfl, h3.fr p3 rfl, p2, p1, h6.fr p3 rfl, K7 h7 p3 rfl⟩ e2 f2 rfl ⟨g1.fr q3 rfl, g2.fr q3 rfl, g3.fr q3 rfl, q2, q1, g6.fr q3 rfl⟩ ⟨ruB_k hD.1 (by omega), fun z => ⟨(hD.2.1 z).1, (hD.2.1 z).2.1, ruB_k (hD.2.1 z).2.2 (by omega)⟩, hD.2.2⟩
    | false =>
      have p := C1 a b
      have q := C2 a b
      exact nv_step e1 ⟨h1.fr p rfl, h2.fr p rfl, h3.fr p rfl, h4.fr p rfl, h5.fr p rfl, h6.fr p rfl, K7 h7 p rfl⟩ e2 f2 rfl ⟨g1.fr q rfl, g2.fr q rfl, g3.fr q rfl, g4.fr q rfl, g5.fr q rfl, g6.fr q rfl⟩ hD
theorem C_without (hN : 10000000 ≤ N) (h : nv w) {x1 x2 x3 : Int} : okc2 (x_without N x1 x2 x3) (m_without N x1 x2 x3) w := by
  obtain ⟨n, lw, it, m, r, rl, tp, k, tx, kp, km, kr, kl, ku, hX, hM, hD⟩ := h
  obtain ⟨h1, h2, h3, h4, h5, h6, h7⟩ := id hX
  obtain ⟨w1, e1⟩ := X_without (N := N) (by omega) h1 (h5.ev (by omega)) h3 hD.1 (x1 := x1) (x2 := x2) (x3 := x3)
  have f1 := f_x_without N _ _ _ _ _ _ e1
  obtain ⟨g1, g2, g3, g4, g5, g6⟩ := hM.fr f1 rfl
  obtain ⟨w2, e2, t2⟩ := M_without (N := N) (by omega) g1 (g5.ev (by omega)) g3 hD.1 (x1 := x1) (x2 := x2) (x3 := x3)
  have f2 := f_m_without N _ _ _ _ _ _ e2
  exact nv_step e1 (hX.fr f1 rfl) e2 f2 rfl ⟨g1.fr f2 rfl, g2.fr f2 rfl, t2, g4.fr f2 rfl, g5.fr f2 rfl, g6.fr f2 rfl⟩ hD
theorem C_choice (hN : 10000000 ≤ N) (h : nv w) {x1 x2 x3 : Int} : okc2 (x_choice N x1 x2 x3) (m_choice N x1 x2 x3) w := by
  obtain ⟨n, lw, it, m, r, rl, tp, k, tx, kp, km, kr, kl, ku, hX, hM, hD⟩ := h
  obtain ⟨h1, h2, h3, h4, h5, h6, h7⟩ := id hX
  obtain ⟨w1, e1⟩ := X_choice (N := N) (by omega) h1 (h5.ev (by omega)) h3 hD.1 (x1 := x1) (x2 := x2) (x3 := x3)
  have f1 := f_x_choice N _ _ _ _ _ _ e1
  obtain ⟨g1, g2, g3, g4, g5, g6⟩ := hM.fr f1 rfl
  obtain ⟨w2, e2, t2⟩ := M_choice (N := N) (by omega) g1 (g5.ev (by omega)) g3 hD.1 (x1 := x1) (x2 := x2) (x3 := x3)
  have f2 := f_m_choice N _ _ _ _ _ _ e2
  exact nv_step e1 (hX.fr f1 rfl) e2 f2 rfl ⟨g1.fr f2 rfl, g2.fr f2 rfl, t2, g4.fr f2 rfl, g5.fr f2 rfl, g6.fr f2 rfl⟩ hD
theorem X_rests2 (hN : 10000000 ≤ N) (h : XL w n lw it) (hk : few n = true → w 23 4 = 0 ∨ RK w n lw it) {x1 : Int} : ∃ w', x_rests N x1 w = some (a_rests n lw it x1, w') ∧ (few n = true → w' 23 4 = 0 ∨ RK w' n lw it) := by
  unfold a_rests
  rw [x_rests, X_isSmall h, b2_some]
  cases hf : few n with
  | false => rw [if_pos (by rfl), if_pos rfl]; exact ⟨w, rfl, fun z => absurd z (by decide)⟩
  | true =>
    obtain ⟨w1, e1, h1, k1⟩ := X_find (N := N) hN h hf (hk hf)
    obtain ⟨k2, k3, -⟩ := id k1
    rw [if_neg (by decide), if_neg (by simp), e1, b1_some, k3]
    by_cases c : x1 = -1
    · rw [if_pos c, if_pos c]; exact ⟨w1, rfl, fun _ => Or.inr k1⟩
    · rw [if_neg c, if_neg c, x_Rests_nth, k3]
      by_cases c1 : x1 < 0
      · rw [if_pos c1, if_pos (Or.inl c1)]; exact ⟨w1, rfl, fun _ => Or.inr k1⟩
      · rw [if_neg c1]
        by_cases c2 : x1 < (ct (isr n lw it) 10000 : Int)
        · obtain ⟨i, rfl⟩ : ∃ i : Nat, x1 = i := ⟨x1.toNat, by omega⟩
          have e2 := xnw_l (N := N) (R := 10000) hN k2 rfl (i := i) (by omega) 157 N 0 (by omega) (by omega) (Nat.zero_le _)
          have e2' : x_Rests_nth_18 N N (i : Int) 0 w1 = some (nq (isr n lw it) 10000 i, w1) := by
            have z : (i : Int) - ((ct (isr n lw it) (64 * 0) : Nat) : Int) = (i : Int) := by show (i : Int) - ((0 : Nat) : Int) = i; omega
            rw [z] at e2
            exact e2
          rw [if_pos c2, if_neg (by omega), e2', b2_some, Int.toNat_natCast]
          exact ⟨w1, rfl, fun _ => Or.inr k1⟩
        · rw [if_neg c2, if_pos (by omega)]; exact ⟨w1, rfl, fun _ => Or.inr k1⟩
theorem X_seller2 (hN : 10000000 ≤ N) (h : XL w n lw it) (hk : few n = true → w 23 4 = 0 ∨ RK w n lw it) {x1 : Int} : ∃ w', x_seller N x1 w = some (a_seller n lw it x1, w') ∧ (few n = true → w' 23 4 = 0 ∨ RK w' n lw it) := by
  unfold a_seller
  rw [x_seller, X_isSmall h, b2_some]
  cases hf : few n with
  | false => rw [if_pos (by rfl), if_pos (Or.inl rfl)]; exact ⟨w, rfl, fun z => absurd z (by decide)⟩
  | true =>
    rw [if_neg (by decide)]
    by_cases c : 0 ≤ x1 ∧ x1 ≤ 1
    · obtain ⟨w1, e1, h1, k1⟩ := X_find (N := N) hN h hf (hk hf)
      obtain ⟨k2, k3, k4⟩ := id k1
      rw [if_neg (by omega), if_pos c.2, if_neg (c := _ ∨ _) (fun z => z.elim (fun z => by cases z) (fun z => z c)), e1, b1_some, k3]
      by_cases z : ct (isr n lw it) 10000 = 0
      · rw [if_pos (by omega), if_pos z]; exact ⟨w1, rfl, fun _ => Or.inr k1⟩
      · obtain ⟨g1, g2⟩ := k4 z
        rw [if_neg (by omega), if_neg z, g1, g2]
        by_cases z0 : x1 = 0
        · rw [if_pos z0, if_pos z0]; exact ⟨w1, rfl, fun _ => Or.inr k1⟩
        · rw [if_neg z0, if_neg z0]; exact ⟨w1, rfl, fun _ => Or.inr k1⟩
    · rw [if_pos (c := _ ∨ _) (Or.inr c)]
      by_cases z : x1 < 0
      · rw [if_pos z]; exact ⟨w, rfl, fun _ => hk hf⟩
      · rw [if_neg z, if_neg (by omega)]; exact ⟨w, rfl, fun _ => hk hf⟩
theorem C_rests (hN : 10000000 ≤ N) (h : nv w) {x1 : Int} : okc2 (x_rests N x1) (m_rests N x1) w := by
  obtain ⟨n, lw, it, m, r, rl, tp, k, tx, kp, km, kr, kl, ku, ⟨h1, h2, h3, h4, h5, h6, h7⟩, hM, hD⟩ := h
  obtain ⟨w1, e1, t1⟩ := X_rests2 (N := N) hN h1 h7 (x1 := x1)
  have f1 := f_x_rests N _ _ _ _ e1
  obtain ⟨g1, g2, g3, g4, g5, g6⟩ := hM.fr f1 rfl
  obtain ⟨w2, e2⟩ := M_rests (N := N) hN g1 (x1 := x1)
  have f2 := f_m_rests N _ _ _ _ e2
  exact nv_step e1 ⟨h1.fr f1 rfl, h2.fr f1 rfl, h3.fr f1 rfl, h4.fr f1 rfl, h5.fr f1 rfl, h6.fr f1 rfl, t1⟩ e2 f2 rfl ⟨g1.fr f2 rfl, g2.fr f2 rfl, g3.fr f2 rfl, g4.fr f2 rfl, g5.fr f2 rfl, g6.fr f2 rfl⟩ hD
theorem C_seller (hN : 10000000 ≤ N) (h : nv w) {x1 : Int} : okc2 (x_seller N x1) (m_seller N x1) w := by
  obtain ⟨n, lw, it, m, r, rl, tp, k, tx, kp, km, kr, kl, ku, ⟨h1, h2, h3, h4, h5, h6, h7⟩, hM, hD⟩ := h
  obtain ⟨w1, e1, t1⟩ := X_seller2 (N := N) hN h1 h7 (x1 := x1)
  have f1 := f_x_seller N _ _ _ _ e1
  obtain ⟨g1, g2, g3, g4, g5, g6⟩ := hM.fr f1 rfl
  obtain ⟨w2, e2⟩ := M_seller (N := N) hN g1 (x1 := x1)
  have f2 := f_m_seller N _ _ _ _ e2
  exact nv_step e1 ⟨h1.fr f1 rfl, h2.fr f1 rfl, h3.fr f1 rfl, h4.fr f1 rfl, h5.fr f1 rfl, h6.fr f1 rfl, t1⟩ e2 f2 rfl ⟨g1.fr f2 rfl, g2.fr f2 rfl, g3.fr f2 rfl, g4.fr f2 rfl, g5.fr f2 rfl, g6.fr f2 rfl⟩ hD
/-- striver: the reference's answer, and the class's cells -/
theorem C_striver (h : nv w) {x1 x2 : Int} : ∃ (n : Nat) (lw it rl : Nat → Int), XL w n lw it ∧ XU w rl ∧ ∃ w2, m_striver N x1 x2 w = some (if sok n x1 x2 then a_str n it rl x1 x2 else 0, w2) ∧ w2 49 0 = b2i (!(sok n x1 x2)) ∧ nv w2 := by
  obtain ⟨n, lw, it, m, r, rl, tp, k, tx, kp, km, kr, kl, ku, hX, hM, hD⟩ := h
  obtain ⟨g1, g2, g3, g4, g5, g6⟩ := id hM
  obtain ⟨w2, e2, t2⟩ := M_striver (N := N) g1 g3 (x1 := x1) (x2 := x2)
  have f2 := f_m_striver N _ _ _ _ _ e2
  exact ⟨n, lw, it, rl, hX.1, hX.2.2.1, w2, e2, t2, _, _, _, _, _, _, _, _, _, _, _, _, _, _, hX.fr f2 rfl, hM.fr f2 rfl, hD⟩
end NC
