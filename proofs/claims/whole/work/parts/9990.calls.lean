/-! ===== pure: what always holds, and each call ===== -/
def P_NX : List (Nat × Nat) := P_XL ++ (P_XB ++ (P_XU ++ (P_XT ++ (P_RX ++ (P_XI ++ [(23, 4), (23, 5), (23, 6), (23, 7), (24, 1000000)])))))
def P_NM : List (Nat × Nat) := P_ML ++ (P_MB ++ (P_MU ++ (P_MT ++ (P_RM ++ P_MI))))
theorem avd_a {S A B : List (Nat × Nat)} (h : avd S (A ++ B) = true) : avd S A = true ∧ avd S B = true := by
  unfold avd at h ⊢
  rw [List.all_append, Bool.and_eq_true] at h
  exact h
def NX (w : aw_W) (n : Nat) (lw it : Nat → Int) (m : Nat) (r : Nat → Nat) (rl : Nat → Int) (tp : List Nat) (k : Nat) (tx : Nat → List Nat) (kp : Bool) (km : Nat) (kr : Nat → Nat) (kl ku : Nat → Int) : Prop := XL w n lw it ∧ XB w m r ∧ XU w rl ∧ XT w tp ∧ RX w k tx ∧ XI w kp km kr kl ku ∧ (few n = true → w 23 4 = 0 ∨ RK w n lw it)
def NM (w : aw_W) (n : Nat) (lw it : Nat → Int) (m : Nat) (r : Nat → Nat) (rl : Nat → Int) (tp : List Nat) (k : Nat) (tx : Nat → List Nat) (kp : Bool) (km : Nat) (kr : Nat → Nat) (kl ku : Nat → Int) : Prop := ML w n lw it ∧ MB w m r ∧ MU w rl ∧ MT w tp ∧ RM w k tx ∧ MI w kp km kr kl ku
def ND (n m k : Nat) (rl : Nat → Int) (kp : Bool) (kl ku : Nat → Int) : Prop := ruB rl n k ∧ (kp = true → n ≠ 0 ∧ LB kl ∧ ruB ku n k) ∧ (m ≠ 0 → n ≠ 0)
/-- what holds between any two calls -/
def nv (w : aw_W) : Prop := ∃ (n : Nat) (lw it : Nat → Int) (m : Nat) (r : Nat → Nat) (rl : Nat → Int) (tp : List Nat) (k : Nat) (tx : Nat → List Nat) (kp : Bool) (km : Nat) (kr : Nat → Nat) (kl ku : Nat → Int), NX w n lw it m r rl tp k tx kp km kr kl ku ∧ NM w n lw it m r rl tp k tx kp km kr kl ku ∧ ND n m k rl kp kl ku
/-- both answer alike, and it holds again -/
def okc2 (fx fm : aw_W → Option (Int × aw_W)) (w : aw_W) : Prop := ∃ a w1 w2, fx w = some (a, w1) ∧ fm w1 = some (a, w2) ∧ nv w2
section NV
variable {N : Nat} {w v w1 w2 : aw_W} {S : List (Nat × Nat)} {n : Nat} {lw it : Nat → Int} {m : Nat} {r : Nat → Nat} {rl : Nat → Int} {tp : List Nat} {k : Nat} {tx : Nat → List Nat} {kp : Bool} {km : Nat} {kr : Nat → Nat} {kl ku : Nat → Int}
theorem RK.fr (h : RK w n lw it) (hf : fr_ S w v) (ha : avd S [(23, 4), (23, 5), (23, 6), (23, 7), (24, 1000000)] = true) : RK v n lw it := by
  obtain ⟨h1, h2, h3⟩ := h
  refine ⟨fun j hj => ?_, by rw [avd_fr ha hf rfl]; exact h2, fun z => ?_⟩
  · rw [← h1 j hj]
    unfold mk
    rw [avd_fr ha hf (fr_inA rfl _)]
  · rw [avd_fr ha hf rfl, avd_fr ha hf rfl]
    exact h3 z
theorem NX.fr (h : NX w n lw it m r rl tp k tx kp km kr kl ku) (hf : fr_ S w v) (ha : avd S P_NX = true) : NX v n lw it m r rl tp k tx kp km kr kl ku := by
  obtain ⟨h1, h2, h3, h4, h5, h6, h7⟩ := h
  obtain ⟨a1, a⟩ := avd_a ha
  obtain ⟨a2, a⟩ := avd_a a
  obtain ⟨a3, a⟩ := avd_a a
  obtain ⟨a4, a⟩ := avd_a a
  obtain ⟨a5, a⟩ := avd_a a
  obtain ⟨a6, a7⟩ := avd_a a
  refine ⟨h1.fr hf a1, h2.fr hf a2, h3.fr hf a3, h4.fr hf a4, h5.fr hf a5, h6.fr hf a6, fun z => ?_⟩
  rcases h7 z with q | q
  · exact Or.inl (by rw [avd_fr a7 hf rfl]; exact q)
  · exact Or.inr (q.fr hf a7)
theorem NM.fr (h : NM w n lw it m r rl tp k tx kp km kr kl ku) (hf : fr_ S w v) (ha : avd S P_NM = true) : NM v n lw it m r rl tp k tx kp km kr kl ku := by
  obtain ⟨h1, h2, h3, h4, h5, h6⟩ := h
  obtain ⟨a1, a⟩ := avd_a ha
  obtain ⟨a2, a⟩ := avd_a a
  obtain ⟨a3, a⟩ := avd_a a
  obtain ⟨a4, a⟩ := avd_a a
  obtain ⟨a5, a6⟩ := avd_a a
  exact ⟨h1.fr hf a1, h2.fr hf a2, h3.fr hf a3, h4.fr hf a4, h5.fr hf a5, h6.fr hf a6⟩
theorem nv_pure {fx fm : aw_W → Option (Int × aw_W)} {Sx Sm : List (Nat × Nat)} {a : Int} (hx : NX w n lw it m r rl tp k tx kp km kr kl ku) (hm : NM w n lw it m r rl tp k tx kp km kr kl ku) (hd : ND n m k rl kp kl ku) (ex : ∃ w', fx w = some (a, w')) (fX : ∀ y v, fx w = some (y, v) → fr_ Sx w v) (em : ∀ u, NM u n lw it m r rl tp k tx kp km kr kl ku → ∃ w', fm u = some (a, w')) (fM : ∀ u y v, fm u = some (y, v) → fr_ Sm u v) (a1 : avd Sx P_NX = true) (a2 : avd Sx P_NM = true) (a3 : avd Sm P_NX = true) (a4 : avd Sm P_NM = true) : okc2 fx fm w := by
  obtain ⟨w1, e1⟩ := ex
  have f1 := fX _ _ e1
  have m1 := hm.fr f1 a2
  obtain ⟨w2, e2⟩ := em w1 m1
  have f2 := fM _ _ _ e2
  exact ⟨a, w1, w2, e1, e2, _, _, _, _, _, _, _, _, _, _, _, _, _, _, (hx.fr f1 a1).fr f2 a3, m1.fr f2 a4, hd⟩
theorem C_fault (hN : 10000000 ≤ N) (h : nv w) {x1 : Int} : okc2 (x_fault N x1) (m_fault N x1) w := by
  obtain ⟨n, lw, it, m, r, rl, tp, k, tx, kp, km, kr, kl, ku, hX, hM, hD⟩ := h
  obtain ⟨h1, h2, h3, h4, h5, h6, h7⟩ := id hX
  refine nv_pure (Sx := S_x_fault) (Sm := S_m_fault) hX hM hD (X_fault (by omega) h4) (fun y v e => f_x_fault N _ _ _ _ e) (fun u hu => ?_) (fun u y v e => f_m_fault N _ _ _ _ e) rfl rfl rfl rfl
  obtain ⟨g1, g2, g3, g4, g5, g6⟩ := hu
  exact (M_fault (by omega) g4).elim (fun v q => ⟨v, q.1⟩)
theorem C_law (hN : 10000000 ≤ N) (h : nv w) {x1 : Int} : okc2 (x_law N x1) (m_law N x1) w := by
  obtain ⟨n, lw, it, m, r, rl, tp, k, tx, kp, km, kr, kl, ku, hX, hM, hD⟩ := h
  obtain ⟨h1, h2, h3, h4, h5, h6, h7⟩ := id hX
  refine nv_pure (Sx := S_x_law) (Sm := S_m_law) hX hM hD (X_law h1) (fun y v e => f_x_law N _ _ _ _ e) (fun u hu => ?_) (fun u y v e => f_m_law N _ _ _ _ e) rfl rfl rfl rfl
  obtain ⟨g1, g2, g3, g4, g5, g6⟩ := hu
  exact M_law g1
theorem C_race (hN : 10000000 ≤ N) (h : nv w) {x1 x2 x3 : Int} : okc2 (x_race N x1 x2 x3) (m_race N x1 x2 x3) w := by
  obtain ⟨n, lw, it, m, r, rl, tp, k, tx, kp, km, kr, kl, ku, hX, hM, hD⟩ := h
  obtain ⟨h1, h2, h3, h4, h5, h6, h7⟩ := id hX
  refine nv_pure (Sx := S_x_race) (Sm := S_m_race) hX hM hD (X_race (by omega) h1 (h5.ev (by omega)) h3 hD.1) (fun y v e => f_x_race N _ _ _ _ _ _ e) (fun u hu => ?_) (fun u y v e => f_m_race N _ _ _ _ _ _ e) rfl rfl rfl rfl
  obtain ⟨g1, g2, g3, g4, g5, g6⟩ := hu
  exact M_race (by omega) g1 (g5.ev (by omega)) g3 hD.1
theorem C_came (hN : 10000000 ≤ N) (h : nv w) {x1 x2 x3 : Int} : okc2 (x_came N x1 x2 x3) (m_came N x1 x2 x3) w := by
  obtain ⟨n, lw, it, m, r, rl, tp, k, tx, kp, km, kr, kl, ku, hX, hM, hD⟩ := h
  obtain ⟨h1, h2, h3, h4, h5, h6, h7⟩ := id hX
  refine nv_pure (Sx := S_x_came) (Sm := S_m_came) hX hM hD (X_came (by omega) h1 (h5.ev (by omega)) h3 hD.1) (fun y v e => f_x_came N _ _ _ _ _ _ e) (fun u hu => ?_) (fun u y v e => f_m_came N _ _ _ _ _ _ e) rfl rfl rfl rfl
  obtain ⟨g1, g2, g3, g4, g5, g6⟩ := hu
  exact M_came (by omega) g1 (g5.ev (by omega)) g3 hD.1
theorem C_step (hN : 10000000 ≤ N) (h : nv w) {x1 x2 x3 x4 : Int} : okc2 (x_step N x1 x2 x3 x4) (m_step N x1 x2 x3 x4) w := by
  obtain ⟨n, lw, it, m, r, rl, tp, k, tx, kp, km, kr, kl, ku, hX, hM, hD⟩ := h
  obtain ⟨h1, h2, h3, h4, h5, h6, h7⟩ := id hX
  refine nv_pure (Sx := S_x_step) (Sm := S_m_step) hX hM hD (X_step (by omega) h1 (h5.ev (by omega)) h3 hD.1) (fun y v e => f_x_step N _ _ _ _ _ _ _ e) (fun u hu => ?_) (fun u y v e => f_m_step N _ _ _ _ _ _ _ e) rfl rfl rfl rfl
  obtain ⟨g1, g2, g3, g4, g5, g6⟩ := hu
  exact M_step (by omega) g1 (g5.ev (by omega)) g3 hD.1
theorem C_medal (hN : 10000000 ≤ N) (h : nv w) {x1 x2 x3 : Int} : okc2 (x_medal N x1 x2 x3) (m_medal N x1 x2 x3) w := by
  obtain ⟨n, lw, it, m, r, rl, tp, k, tx, kp, km, kr, kl, ku, hX, hM, hD⟩ := h
  obtain ⟨h1, h2, h3, h4, h5, h6, h7⟩ := id hX
  refine nv_pure (Sx := S_x_medal) (Sm := S_m_medal) hX hM hD (X_medal (by omega) h1 (h5.ev (by omega)) h3 hD.1) (fun y v e => f_x_medal N _ _ _ _ _ _ e) (fun u hu => ?_) (fun u y v e => f_m_medal N _ _ _ _ _ _ e) rfl rfl rfl rfl
  obtain ⟨g1, g2, g3, g4, g5, g6⟩ := hu
  exact M_medal (by omega) g1 (g5.ev (by omega)) g3 hD.1
theorem C_latest (hN : 10000000 ≤ N) (h : nv w) {x1 : Int} : okc2 (x_latest N x1) (m_latest N x1) w := by
  obtain ⟨n, lw, it, m, r, rl, tp, k, tx, kp, km, kr, kl, ku, hX, hM, hD⟩ := h
  obtain ⟨h1, h2, h3, h4, h5, h6, h7⟩ := id hX
  refine nv_pure (Sx := S_x_latest) (Sm := S_m_latest) hX hM hD (X_latest (by omega) h1 (h5.ev (by omega)) h3 hD.1) (fun y v e => f_x_latest N _ _ _ _ e) (fun u hu => ?_) (fun u y v e => f_m_latest N _ _ _ _ e) rfl rfl rfl rfl
  obtain ⟨g1, g2, g3, g4, g5, g6⟩ := hu
  exact M_latest (by omega) g1 (g5.ev (by omega)) g3 hD.1
theorem C_bids (hN : 10000000 ≤ N) (h : nv w) {x1 x2 : Int} (hx : aw_I x1) : okc2 (x_bids N x1 x2) (m_bids N x1 x2) w := by
  obtain ⟨n, lw, it, m, r, rl, tp, k, tx, kp, km, kr, kl, ku, hX, hM, hD⟩ := h
  obtain ⟨h1, h2, h3, h4, h5, h6, h7⟩ := id hX
  refine nv_pure (Sx := S_x_bids) (Sm := S_m_bids) hX hM hD (X_bids (by omega) h1 hx) (fun y v e => f_x_bids N _ _ _ _ _ e) (fun u hu => ?_) (fun u y v e => f_m_bids N _ _ _ _ _ e) rfl rfl rfl rfl
  obtain ⟨g1, g2, g3, g4, g5, g6⟩ := hu
  exact M_bids (by omega) g1 hx
theorem C_gain (hN : 10000000 ≤ N) (h : nv w) {x1 x2 : Int} (hx : aw_I x1) : okc2 (x_gain N x1 x2) (m_gain N x1 x2) w := by
  obtain ⟨n, lw, it, m, r, rl, tp, k, tx, kp, km, kr, kl, ku, hX, hM, hD⟩ := h
  obtain ⟨h1, h2, h3, h4, h5, h6, h7⟩ := id hX
  refine nv_pure (Sx := S_x_gain) (Sm := S_m_gain) hX hM hD (X_gain (by omega) h1 hx) (fun y v e => f_x_gain N _ _ _ _ _ e) (fun u hu => ?_) (fun u y v e => f_m_gain N _ _ _ _ _ e) rfl rfl rfl rfl
  obtain ⟨g1, g2, g3, g4, g5, g6⟩ := hu
  exact M_gain (by omega) g1 hx
theorem C_cure (hN : 10000000 ≤ N) (h : nv w) {x1 x2 : Int} (hx : aw_I x1) : okc2 (x_cure N x1 x2) (m_cure N x1 x2) w := by
  obtain ⟨n, lw, it, m, r, rl, tp, k, tx, kp, km, kr, kl, ku, hX, hM, hD⟩ := h
  obtain ⟨h1, h2, h3, h4, h5, h6, h7⟩ := id hX
  refine nv_pure (Sx := S_x_cure) (Sm := S_m_cure) hX hM hD (X_cure (by omega) h1 hx) (fun y v e => f_x_cure N _ _ _ _ _ e) (fun u hu => ?_) (fun u y v e => f_m_cure N _ _ _ _ _ e) rfl rfl rfl rfl
  obtain ⟨g1, g2, g3, g4, g5, g6⟩ := hu
  exact M_cure (by omega) g1 hx
theorem C_firm (hN : 10000000 ≤ N) (h : nv w) {x1 x2 : Int} (hx : aw_I x1) : okc2 (x_firm N x1 x2) (m_firm N x1 x2) w := by
  obtain ⟨n, lw, it, m, r, rl, tp, k, tx, kp, km, kr, kl, ku, hX, hM, hD⟩ := h
  obtain ⟨h1, h2, h3, h4, h5, h6, h7⟩ := id hX
  refine nv_pure (Sx := S_x_firm) (Sm := S_m_firm) hX hM hD (X_firm (by omega) h1 hx) (fun y v e => f_x_firm N _ _ _ _ _ e) (fun u hu => ?_) (fun u y v e => f_m_firm N _ _ _ _ _ e) rfl rfl rfl rfl
  obtain ⟨g1, g2, g3, g4, g5, g6⟩ := hu
  exact M_firm (by omega) g1 hx
theorem C_together (hN : 10000000 ≤ N) (h : nv w) {x1 x2 x3 : Int} (hx : aw_I x1) : okc2 (x_together N x1 x2 x3) (m_together N x1 x2 x3) w := by
  obtain ⟨n, lw, it, m, r, rl, tp, k, tx, kp, km, kr, kl, ku, hX, hM, hD⟩ := h
  obtain ⟨h1, h2, h3, h4, h5, h6, h7⟩ := id hX
  refine nv_pure (Sx := S_x_together) (Sm := S_m_together) hX hM hD (X_together (by omega) h1 hx) (fun y v e => f_x_together N _ _ _ _ _ _ e) (fun u hu => ?_) (fun u y v e => f_m_together N _ _ _ _ _ _ e) rfl rfl rfl rfl
  obtain ⟨g1, g2, g3, g4, g5, g6⟩ := hu
  exact M_together (by omega) g1 hx
theorem C_treason (hN : 10000000 ≤ N) (h : nv w) {x1 x2 : Int} (hx : aw_I x1) : okc2 (x_treason N x1 x2) (m_treason N x1 x2) w := by
  obtain ⟨n, lw, it, m, r, rl, tp, k, tx, kp, km, kr, kl, ku, hX, hM, hD⟩ := h
  obtain ⟨h1, h2, h3, h4, h5, h6, h7⟩ := id hX
  refine nv_pure (Sx := S_x_treason) (Sm := S_m_treason) hX hM hD (X_treason (by omega) h1 hx) (fun y v e => f_x_treason N _ _ _ _ _ e) (fun u hu => ?_) (fun u y v e => f_m_treason N _ _ _ _ _ e) rfl rfl rfl rfl
  obtain ⟨g1, g2, g3, g4, g5, g6⟩ := hu
  exact M_treason (by omega) g1 hx
theorem C_near (hN : 10000000 ≤ N) (h : nv w) {x1 x2 : Int} (hx : aw_I x1) : okc2 (x_near N x1 x2) (m_near N x1 x2) w := by
  obtain ⟨n, lw, it, m, r, rl, tp, k, tx, kp, km, kr, kl, ku, hX, hM, hD⟩ := h
  obtain ⟨h1, h2, h3, h4, h5, h6, h7⟩ := id hX
  refine nv_pure (Sx := S_x_near) (Sm := S_m_near) hX hM hD (X_near (by omega) h1 hx) (fun y v e => f_x_near N _ _ _ _ _ e) (fun u hu => ?_) (fun u y v e => f_m_near N _ _ _ _ _ e) rfl rfl rfl rfl
  obtain ⟨g1, g2, g3, g4, g5, g6⟩ := hu
  exact M_near (by omega) g1 hx
theorem C_changes (hN : 10000000 ≤ N) (h : nv w) {x1 : Int} (hx : aw_I x1) : okc2 (x_changes N x1) (m_changes N x1) w := by
  obtain ⟨n, lw, it, m, r, rl, tp, k, tx, kp, km, kr, kl, ku, hX, hM, hD⟩ := h
  obtain ⟨h1, h2, h3, h4, h5, h6, h7⟩ := id hX
  refine nv_pure (Sx := S_x_changes) (Sm := S_m_changes) hX hM hD (X_changes (by omega) h1 hx) (fun y v e => f_x_changes N _ _ _ _ e) (fun u hu => ?_) (fun u y v e => f_m_changes N _ _ _ _ e) rfl rfl rfl rfl
  obtain ⟨g1, g2, g3, g4, g5, g6⟩ := hu
  exact M_changes (by omega) g1 hx
theorem C_waits (hN : 10000000 ≤ N) (h : nv w) {x1 x2 : Int} : okc2 (x_waits N x1 x2) (m_waits N x1 x2) w := by
  obtain ⟨n, lw, it, m, r, rl, tp, k, tx, kp, km, kr, kl, ku, hX, hM, hD⟩ := h
  obtain ⟨h1, h2, h3, h4, h5, h6, h7⟩ := id hX
  refine nv_pure (Sx := S_x_waits) (Sm := S_m_waits) hX hM hD (X_waits (by omega) h1) (fun y v e => f_x_waits N _ _ _ _ _ e) (fun u hu => ?_) (fun u y v e => f_m_waits N _ _ _ _ _ e) rfl rfl rfl rfl
  obtain ⟨g1, g2, g3, g4, g5, g6⟩ := hu
  exact M_waits (by omega) g1
theorem C_spur (hN : 10000000 ≤ N) (h : nv w) {x1 : Int} : okc2 (x_spur N x1) (m_spur N x1) w := by
  obtain ⟨n, lw, it, m, r, rl, tp, k, tx, kp, km, kr, kl, ku, hX, hM, hD⟩ := h
  obtain ⟨h1, h2, h3, h4, h5, h6, h7⟩ := id hX
  refine nv_pure (Sx := S_x_spur) (Sm := S_m_spur) hX hM hD (X_spur (by omega) h1) (fun y v e => f_x_spur N _ _ _ _ e) (fun u hu => ?_) (fun u y v e => f_m_spur N _ _ _ _ e) rfl rfl rfl rfl
  obtain ⟨g1, g2, g3, g4, g5, g6⟩ := hu
  exact M_spur (by omega) g1
theorem C_rounds (hN : 10000000 ≤ N) (h : nv w) {x1 : Int} : okc2 (x_rounds N x1) (m_rounds N x1) w := by
  obtain ⟨n, lw, it, m, r, rl, tp, k, tx, kp, km, kr, kl, ku, hX, hM, hD⟩ := h
  obtain ⟨h1, h2, h3, h4, h5, h6, h7⟩ := id hX
  refine nv_pure (Sx := S_x_rounds) (Sm := S_m_rounds) hX hM hD (X_rounds (by omega) h1) (fun y v e => f_x_rounds N _ _ _ _ e) (fun u hu => ?_) (fun u y v e => f_m_rounds N _ _ _ _ e) rfl rfl rfl rfl
  obtain ⟨g1, g2, g3, g4, g5, g6⟩ := hu
  exact M_rounds (by omega) g1
theorem C_hope (hN : 10000000 ≤ N) (h : nv w) {x1 x2 x3 : Int} : okc2 (x_hope N x1 x2 x3) (m_hope N x1 x2 x3) w := by
  obtain ⟨n, lw, it, m, r, rl, tp, k, tx, kp, km, kr, kl, ku, hX, hM, hD⟩ := h
  obtain ⟨h1, h2, h3, h4, h5, h6, h7⟩ := id hX
  refine nv_pure (Sx := S_x_hope) (Sm := S_m_hope) hX hM hD (X_hope (by omega) h1) (fun y v e => f_x_hope N _ _ _ _ _ _ e) (fun u hu => ?_) (fun u y v e => f_m_hope N _ _ _ _ _ _ e) rfl rfl rfl rfl
  obtain ⟨g1, g2, g3, g4, g5, g6⟩ := hu
  exact M_hope (by omega) g1
theorem C_bold (hN : 10000000 ≤ N) (h : nv w) {x1 : Int} : okc2 (x_bold N x1) (m_bold N x1) w := by
  obtain ⟨n, lw, it, m, r, rl, tp, k, tx, kp, km, kr, kl, ku, hX, hM, hD⟩ := h
  obtain ⟨h1, h2, h3, h4, h5, h6, h7⟩ := id hX
  refine nv_pure (Sx := S_x_bold) (Sm := S_m_bold) hX hM hD (X_bold (by omega) h1) (fun y v e => f_x_bold N _ _ _ _ e) (fun u hu => ?_) (fun u y v e => f_m_bold N _ _ _ _ e) rfl rfl rfl rfl
  obtain ⟨g1, g2, g3, g4, g5, g6⟩ := hu
  exact M_bold (by omega) g1
theorem C_voids (hN : 10000000 ≤ N) (h : nv w) : okc2 (x_voids N ) (m_voids N ) w := by
  obtain ⟨n, lw, it, m, r, rl, tp, k, tx, kp, km, kr, kl, ku, hX, hM, hD⟩ := h
  obtain ⟨h1, h2, h3, h4, h5, h6, h7⟩ := id hX
  refine nv_pure (Sx := S_x_voids) (Sm := S_m_voids) hX hM hD (X_voids (by omega) h1) (fun y v e => f_x_voids N  _ _ _ e) (fun u hu => ?_) (fun u y v e => f_m_voids N  _ _ _ e) rfl rfl rfl rfl
  obtain ⟨g1, g2, g3, g4, g5, g6⟩ := hu
  exact M_voids (by omega) g1
theorem C_often (hN : 10000000 ≤ N) (h : nv w) {x1 : Int} : okc2 (x_often N x1) (m_often N x1) w := by
  obtain ⟨n, lw, it, m, r, rl, tp, k, tx, kp, km, kr, kl, ku, hX, hM, hD⟩ := h
  obtain ⟨h1, h2, h3, h4, h5, h6, h7⟩ := id hX
  refine nv_pure (Sx := S_x_often) (Sm := S_m_often) hX hM hD (X_often (by omega) h1 h2) (fun y v e => f_x_often N _ _ _ _ e) (fun u hu => ?_) (fun u y v e => f_m_often N _ _ _ _ e) rfl rfl rfl rfl
  obtain ⟨g1, g2, g3, g4, g5, g6⟩ := hu
  exact M_often (by omega) g1 g2
theorem C_sum (hN : 10000000 ≤ N) (h : nv w) {x1 : Int} : okc2 (x_sum N x1) (m_sum_49 N x1) w := by
  obtain ⟨n, lw, it, m, r, rl, tp, k, tx, kp, km, kr, kl, ku, hX, hM, hD⟩ := h
  obtain ⟨h1, h2, h3, h4, h5, h6, h7⟩ := id hX
  refine nv_pure (Sx := S_x_sum) (Sm := S_m_sum_49) hX hM hD (X_sum (by omega) h1 h2) (fun y v e => f_x_sum N _ _ _ _ e) (fun u hu => ?_) (fun u y v e => f_m_sum_49 N _ _ _ _ e) rfl rfl rfl rfl
  obtain ⟨g1, g2, g3, g4, g5, g6⟩ := hu
  exact M_sum (by omega) g1 g2
theorem C_made (hN : 10000000 ≤ N) (h : nv w) {x1 x2 : Int} : okc2 (x_made N x1 x2) (m_made N x1 x2) w := by
  obtain ⟨n, lw, it, m, r, rl, tp, k, tx, kp, km, kr, kl, ku, hX, hM, hD⟩ := h
  obtain ⟨h1, h2, h3, h4, h5, h6, h7⟩ := id hX
  refine nv_pure (Sx := S_x_made) (Sm := S_m_made) hX hM hD (X_made (by omega) h1 h2 hD.2.2) (fun y v e => f_x_made N _ _ _ _ _ e) (fun u hu => ?_) (fun u y v e => f_m_made N _ _ _ _ _ e) rfl rfl rfl rfl
  obtain ⟨g1, g2, g3, g4, g5, g6⟩ := hu
  exact M_made (by omega) g1 g2
theorem C_pair (hN : 10000000 ≤ N) (h : nv w) : okc2 (x_pair N ) (m_pair N ) w := by
  obtain ⟨n, lw, it, m, r, rl, tp, k, tx, kp, km, kr, kl, ku, hX, hM, hD⟩ := h
  obtain ⟨h1, h2, h3, h4, h5, h6, h7⟩ := id hX
  refine nv_pure (Sx := S_x_pair) (Sm := S_m_pair) hX hM hD (X_pair (by omega) h1 h2 hD.2.2) (fun y v e => f_x_pair N  _ _ _ e) (fun u hu => ?_) (fun u y v e => f_m_pair N  _ _ _ e) rfl rfl rfl rfl
  obtain ⟨g1, g2, g3, g4, g5, g6⟩ := hu
  exact M_pair (by omega) g1 g2
theorem C_count (hN : 10000000 ≤ N) (h : nv w) {x1 : Int} : okc2 (x_count N x1) (m_count N x1) w := by
  obtain ⟨n, lw, it, m, r, rl, tp, k, tx, kp, km, kr, kl, ku, hX, hM, hD⟩ := h
  obtain ⟨h1, h2, h3, h4, h5, h6, h7⟩ := id hX
  refine nv_pure (Sx := S_x_count) (Sm := S_m_count) hX hM hD (⟨_, X_count h1.1 h5.1 h4.1 h2.1⟩) (fun y v e => f_x_count N _ _ _ _ e) (fun u hu => ?_) (fun u y v e => f_m_count N _ _ _ _ e) rfl rfl rfl rfl
  obtain ⟨g1, g2, g3, g4, g5, g6⟩ := hu
  exact ⟨_, M_count g1.1 g5.1 g4.1 g2.1⟩
end NV
