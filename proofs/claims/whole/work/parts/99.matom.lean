/-! ===== pure: atoms, terms, sums, in the reference ===== -/
def S_3 : List (Nat × Nat) := [(49, 10), (49, 11), (49, 12)]
/-- a reader of the reference: what it answers, where it stands then -/
def msp (tp : List Nat) (B o d : Nat) (Q : Int → Prop) (G : aw_W → Option (Int × aw_W)) (p : Nat) (R : Rz) : Prop := ∀ w, MP w B o tp p → w 49 11 = -1 → w 49 12 = ((6 - d : Nat) : Int) → ∃ y w', G w = some (y, w') ∧ Q y ∧ fr_ S_3 w w' ∧ (R.1 = true → w' 49 11 = -1 ∧ w' 49 12 = ((6 - d : Nat) : Int) ∧ MP w' B o tp R.2.1 ∧ ∀ L, LO L → (∀ j, j < 6 → w 53 (lt6 j) = L j) → y = R.2.2.2 L) ∧ (R.1 = false → w' 49 11 = (R.2.1 : Int))
def anyQ : Int → Prop := fun _ => True
section MA
variable {N : Nat} {w v : aw_W} {tp : List Nat} {p B o d : Nat}
theorem M_takes_y (hN : 200 ≤ N) (h : MP w B o tp p) (hf : w 49 11 = -1) {c : Nat} (hc : 1 ≤ c) (hg : gb tp (sk tp p) = c) : ∃ w', m_takes N (c : Int) w = some (1, w') ∧ MP w' B o tp (sk tp p + 1) ∧ w' 49 11 = -1 ∧ fr_ [(49, 10)] w w' := by
  have htk := h.2.2.2.2.2.1
  have h160 := htk.1
  have hl := gb_lt hg hc
  obtain ⟨w1, e1, h1, f1⟩ := M_look (N := N) hN h
  rw [m_takes, if_pos hf, e1, b2_some, if_pos ((lk_is htk hc).mpr hg), h1.2.2.2.1, ww1 (by omega)]
  exact ⟨_, rfl, h1.to (by omega), by rw [up_out (Or.inr (by decide)), f1 49 11 rfl]; exact hf, f1.trans ((fr_r _ _).up rfl)⟩
theorem M_takes_n (hN : 200 ≤ N) (h : MP w B o tp p) (hf : w 49 11 = -1) {c : Nat} (hc : 1 ≤ c) (hg : gb tp (sk tp p) ≠ c) : ∃ w', m_takes N (c : Int) w = some (0, w') ∧ w' 49 11 = (sk tp p : Int) ∧ fr_ [(49, 10), (49, 11)] w w' := by
  have htk := h.2.2.2.2.2.1
  obtain ⟨w1, e1, h1, f1⟩ := M_look (N := N) hN h
  have hf1 : w1 49 11 = -1 := by rw [f1 49 11 rfl]; exact hf
  rw [m_takes, if_pos hf, e1, b2_some, if_neg (fun q => hg ((lk_is htk hc).mp q)), m_takes_16, M_fails h1 hf1, b2_some]
  exact ⟨_, rfl, up_in, (fr_m rfl f1).up rfl⟩
theorem M_takes_f {c : Int} (hf : w 49 11 ≠ -1) : m_takes N c w = some (0, w) := by
  rw [m_takes, if_neg hf, m_takes_16, M_fails2 hf, b2_some]
  rfl
theorem mia_l {x : Int} : ∀ (r f i : Nat), r < f → i + r = 6 → m_isAmong_221_2 N f x i w = some (if fi T6 x r i = -1 then 0 else 1, w) := by
  intro r
  induction r with
  | zero =>
    intro f i hf hi
    obtain ⟨f, rfl⟩ : ∃ g, f = g + 1 := ⟨f - 1, by omega⟩
    rw [m_isAmong_221_2, M_ln1, b2_some, if_pos (by omega)]
    rfl
  | succ r ih =>
    intro f i hf hi
    obtain ⟨f, rfl⟩ : ∃ g, f = g + 1 := ⟨f - 1, by omega⟩
    rw [m_isAmong_221_2, M_ln1, b2_some, if_neg (by omega), M_cA1 (by omega), b2_some, fi_s]
    by_cases c : T6.getD i 0 = x
    · rw [if_pos c, if_pos c, if_neg (by omega)]
      rfl
    · rw [if_neg c, if_neg c, ww1 (by omega)]
      exact ih f (i + 1) (by omega) (by omega)
theorem M_ia (hN : 10 ≤ N) {x : Int} : m_isAmong_221 N x w = some (if fi T6 x 6 0 = -1 then 0 else 1, w) := mia_l (N := N) 6 N 0 (by omega) (by omega)
/-- digits of a number -/
theorem mdg_l {ca ct cs : aw_W → Option (Int × aw_W)} : ∀ (r F had p : Nat) (vl : Int) (w : aw_W), r + 1 < F → had + r = 4 → (had = 0 → isd tp p = true) → 0 ≤ vl → vl < 10 ^ had → MP w B o tp p → w 49 11 = -1 → ∃ y w', m_atom_90 ca ct cs N F vl had w = some (y, w') ∧ fr_ [(49, 10), (49, 11)] w w' ∧ ((nmb tp r (decide (had ≠ 0)) vl p).1 ≠ -1 → w' 49 11 = -1 ∧ MP w' B o tp (nmb tp r (decide (had ≠ 0)) vl p).2 ∧ y = (nmb tp r (decide (had ≠ 0)) vl p).1) ∧ ((nmb tp r (decide (had ≠ 0)) vl p).1 = -1 → w' 49 11 = ((nmb tp r (decide (had ≠ 0)) vl p).2 : Int)) := by
  intro r
  induction r with
  | zero =>
    intro F had p vl w hF hr h0 hv0 hv1 h hf
    obtain ⟨F, rfl⟩ : ∃ g, F = g + 1 := ⟨F - 1, by omega⟩
    have hne : had ≠ 0 := by omega
    rw [m_atom_90, M_isDigit h, b2_some, nmb_0, decide_eq_true hne]
    cases hd : isd tp p with
    | false =>
      rw [if_pos b2i_f, if_neg (by decide), if_pos rfl]
      exact ⟨_, w, rfl, fr_r _ _, fun _ => ⟨hf, h, rfl⟩, fun z => by have z' : vl = -1 := z; omega⟩
    | true =>
      rw [if_neg b2i_t, if_pos hf, if_pos (by omega), if_pos rfl, m_atom_110, M_fails h hf, b2_some]
      exact ⟨_, _, rfl, (fr_r _ _).up rfl, fun z => absurd rfl z, fun _ => up_in⟩
  | succ r ih =>
    intro F had p vl w hF hr h0 hv0 hv1 h hf
    obtain ⟨F, rfl⟩ : ∃ g, F = g + 1 := ⟨F - 1, by omega⟩
    obtain ⟨h1, h2, h3, h4, h5, h6, h7, h8⟩ := id h
    rw [m_atom_90, M_isDigit h, b2_some, nmb_s]
    cases hd : isd tp p with
    | false =>
      have hne : had ≠ 0 := fun q => by have := h0 q; rw [hd] at this; cases this
      rw [if_pos b2i_f, if_neg (by decide), decide_eq_true hne, if_pos rfl]
      exact ⟨_, w, rfl, fr_r _ _, fun _ => ⟨hf, h, rfl⟩, fun z => by have z' : vl = -1 := z; omega⟩
    | true =>
      have hb := isd_iff.mp hd
      have hpl := isd_lt hd
      have h160 := h6.1
      have es : sg (gb tp p) = (gb tp p : Int) := by unfold sg; rw [if_pos (by omega)]
      have hp3 : (10 : Int) ^ had ≤ 10 ^ 3 := by
        have : (10 : Nat) ^ had ≤ 10 ^ 3 := Nat.pow_le_pow_right (by decide) (by omega)
        exact_mod_cast this
      have hps : (10 : Int) ^ (had + 1) = 10 ^ had * 10 := Int.pow_succ 10 had
      rw [if_neg b2i_t, if_pos hf, if_neg (by omega), h1, h2, h4, opw h, if_pos (bA_ok h8 hpl), Int.toNat_natCast, Int.toNat_natCast, h7 p hpl, es, if_pos rfl]
      generalize (10 : Int) ^ had = Z at hv1 hp3 hps
      have hZ : Z ≤ 1000 := hp3
      rw [ww (x := 10 * vl) (by omega) (by omega), ww (x := 10 * vl + (gb tp p : Int)) (by omega) (by omega), ww (x := 10 * vl + (gb tp p : Int) - 48) (by omega) (by omega), ww1 (i := had) (by omega), ww1 (i := p) (by omega), show 10 * vl + (gb tp p : Int) - 48 = vl * 10 + (gb tp p : Int) - 48 by omega]
      have ih' := ih F (had + 1) (p + 1) (vl * 10 + (gb tp p : Int) - 48) (aw_up w 49 10 ((p + 1 : Nat) : Int)) (by omega) (by omega) (fun q => by omega) (by omega) (by rw [hps]; omega) (h.to (by omega)) (by rw [up_out (Or.inr (by decide))]; exact hf)
      rw [decide_eq_true (show had + 1 ≠ 0 by omega)] at ih'
      obtain ⟨y, w', a1, a2, a3, a4⟩ := ih'
      exact ⟨y, w', a1, ((fr_r _ _).up rfl).trans a2, a3, a4⟩
theorem T6_l : ∀ k : Nat, k < 6 → T6.getD k 0 = (lt6 k : Int) ∧ lt6 k < 128 := by decide
theorem M_atb (hN : 200 ≤ N) {ca ct cs : aw_W → Option (Int × aw_W)} (hd : d ≤ 6) (hcs : ∀ e, d = e + 1 → ∀ p, p ≤ tp.length → msp tp B o e anyQ cs p (psm tp e p)) (hp : p ≤ tp.length) : msp tp B o d anyQ (m_atom_b ca ct cs N) p (atd tp d p) := by
  intro w h hf hdp
  have htk := h.2.2.2.2.2.1
  have h160 := htk.1
  have hk := sk_le hp
  obtain ⟨w1, e1, h1, f1⟩ := M_look (N := N) hN h
  have hf1 : w1 49 11 = -1 := by rw [f1 49 11 rfl]; exact hf
  have hd1 : w1 49 12 = ((6 - d : Nat) : Int) := by rw [f1 49 12 rfl]; exact hdp
  have i91 : lk tp (sk tp p) = 91 ↔ gb tp (sk tp p) = 91 := lk_is htk (c := 91) (by decide)
  rw [m_atom_b, e1, b2_some, M_ia (by omega), b2_some, fi_lk6 htk]
  by_cases c1 : gb tp (sk tp p) = 91
  · have hql := gb_lt c1 (by decide)
    have hfi : fi T6 (gb tp (sk tp p)) 6 0 = -1 := by rw [c1]; decide
    rw [hfi, if_pos rfl, if_pos rfl, if_pos (i91.mpr c1)]
    cases d with
    | zero =>
      rw [show atd tp 0 p = no_ (sk tp p) from patm_b0 c1, m_goesIn, hd1, if_pos (by rfl), M_fails h1 hf1, b2_some, if_pos (Or.inl rfl), b2_some, if_pos rfl]
      exact ⟨_, _, rfl, trivial, (fr_m rfl f1).up rfl, fun z => nof z, fun _ => up_in⟩
    | succ e =>
      have ew : aw_w (((6 - (e + 1) : Nat) : Int) + 1) = ((6 - e : Nat) : Int) := by rw [ww (by omega) (by omega)]; omega
      have ew2 : aw_w (((6 - e : Nat) : Int) - 1) = ((6 - (e + 1) : Nat) : Int) := by rw [ww (by omega) (by omega)]; omega
      rw [show atd tp (e + 1) p = _ from patm_b (s := psm tp e) c1 rfl, m_goesIn, hd1, if_neg (by omega), b2_some, if_neg (by decide), ew, h1.2.2.2.1, ww1 (i := sk tp p) (by omega)]
      have fu : fr_ S_3 w1 (aw_up (aw_up w1 49 12 ((6 - e : Nat) : Int)) 49 10 ((sk tp p + 1 : Nat) : Int)) := ((fr_r _ _).up rfl).up rfl
      have hx : MP (aw_up (aw_up w1 49 12 ((6 - e : Nat) : Int)) 49 10 ((sk tp p + 1 : Nat) : Int)) B o tp (sk tp p + 1) := (h1.fr (S := [(49, 12)]) ((fr_r _ _).up rfl) rfl).to (by omega)
      obtain ⟨y, w2, e2, -, f2, g2, b2⟩ := hcs e rfl (sk tp p + 1) (by omega) _ hx (by rw [up_out (Or.inr (by decide)), up_out (Or.inr (by decide))]; exact hf1) (by rw [up_out (Or.inr (by decide)), up_in])
      have fA : fr_ S_3 w w2 := (fr_m rfl f1).trans (fu.trans f2)
      rw [e2, b2_some]
      generalize psm tp e (sk tp p + 1) = R at g2 b2 ⊢
      cases hR : R.1 with
      | false =>
        have z2 := b2 hR
        have e3 : m_takes N 93 w2 = some (0, w2) := M_takes_f (by omega)
        rw [e3, b2_some, if_pos rfl, if_pos rfl]
        exact ⟨_, w2, rfl, trivial, fA, fun z => nof z, fun _ => z2⟩
      | true =>
        obtain ⟨z1, z2, z3, z4⟩ := g2 hR
        rw [if_neg (by decide)]
        by_cases c2 : gb tp (sk tp R.2.1) = 93
        · obtain ⟨w3, e3, h3, f3, fr3⟩ := M_takes_y (N := N) hN z3 z1 (c := 93) (by decide) c2
          have e3' : m_takes N 93 w2 = some (1, w3) := e3
          have hw12 : w3 49 12 = ((6 - e : Nat) : Int) := by rw [fr3 49 12 rfl]; exact z2
          rw [e3', b2_some, if_neg (by decide), if_pos c2, hw12, ew2]
          refine ⟨_, _, rfl, trivial, (fA.trans (fr_m rfl fr3)).up rfl, fun _ => ⟨by rw [up_out (Or.inr (by decide))]; exact f3, up_in, h3.fr (S := [(49, 12)]) ((fr_r _ _).up rfl) rfl, fun L hL hl => ?_⟩, fun z => Bool.noConfusion (show true = false from z)⟩
          exact z4 L hL (fun j hj => by rw [fu 53 _ rfl, f1 53 _ rfl]; exact hl j hj)
        · obtain ⟨w3, e3, f3, fr3⟩ := M_takes_n (N := N) hN z3 z1 (c := 93) (by decide) c2
          have e3' : m_takes N 93 w2 = some (0, w3) := e3
          rw [e3', b2_some, if_pos rfl, if_neg c2]
          exact ⟨_, w3, rfl, trivial, fA.trans (fr_m rfl fr3), fun z => nof z, fun _ => f3⟩
  · have en : atd tp d p = if fi T6 (gb tp (sk tp p)) 6 0 = -1 then (if (nmb tp 4 false 0 (sk tp p)).1 = -1 then no_ (nmb tp 4 false 0 (sk tp p)).2 else (true, (nmb tp 4 false 0 (sk tp p)).2, [(nmb tp 4 false 0 (sk tp p)).1], fun _ => (nmb tp 4 false 0 (sk tp p)).1)) else (true, sk tp p + 1, [-1 - fi T6 (gb tp (sk tp p)) 6 0], fun L => L (fi T6 (gb tp (sk tp p)) 6 0).toNat) := by
      cases d with
      | zero => exact patm_n (sub := none) c1
      | succ e => exact patm_n (sub := some (psm tp e)) c1
    rw [en]
    by_cases c2 : fi T6 (gb tp (sk tp p)) 6 0 = -1
    · rw [if_pos c2, if_pos c2, if_pos rfl, if_neg (fun q => c1 (i91.mp q)), M_isDigit h1, b2_some]
      cases hdg : isd tp (sk tp p) with
      | false =>
        have e0 : nmb tp 4 false 0 (sk tp p) = (-1, sk tp p) := by rw [nmb_s, hdg]; rfl
        have hx := h1.fr (S := [(49, 11)]) (v := aw_up w1 49 11 (sk tp p : Int)) ((fr_r _ _).up rfl) rfl
        obtain ⟨M, hM⟩ : ∃ M, N = M + 1 := ⟨N - 1, by omega⟩
        have e86 : m_atom_86 ca ct cs N (aw_up w1 49 11 (sk tp p : Int)) = some (0, aw_up w1 49 11 (sk tp p : Int)) := by
          rw [m_atom_86]
          conv => lhs; arg 5; rw [hM]
          rw [m_atom_90, M_isDigit hx, b2_some, hdg, if_pos b2i_f]
          rfl
        rw [if_pos b2i_f, M_fails h1 hf1, b2_some, e86, e0, if_pos rfl]
        exact ⟨_, _, rfl, trivial, (fr_m rfl f1).up rfl, fun z => nof z, fun _ => up_in⟩
      | true =>
        obtain ⟨y, w2, e2, f2, g2, b2⟩ := mdg_l (N := N) (ca := ca) (ct := ct) (cs := cs) 4 N 0 (sk tp p) 0 w1 (by omega) (by omega) (fun _ => hdg) (Int.le_refl _) (by decide) h1 hf1
        have e2' : m_atom_90 ca ct cs N N 0 0 w1 = some (y, w2) := e2
        have g2' : (nmb tp 4 false 0 (sk tp p)).1 ≠ -1 → w2 49 11 = -1 ∧ MP w2 B o tp (nmb tp 4 false 0 (sk tp p)).2 ∧ y = (nmb tp 4 false 0 (sk tp p)).1 := g2
        have b2' : (nmb tp 4 false 0 (sk tp p)).1 = -1 → w2 49 11 = ((nmb tp 4 false 0 (sk tp p)).2 : Int) := b2
        rw [if_neg b2i_t, m_atom_86, e2']
        refine ⟨y, w2, rfl, trivial, (fr_m rfl f1).trans (fr_m rfl f2), fun z => ?_, fun z => ?_⟩
        · by_cases c3 : (nmb tp 4 false 0 (sk tp p)).1 = -1
          · rw [if_pos c3] at z; exact nof z
          · obtain ⟨q1, q2, q3⟩ := g2' c3
            rw [if_neg c3]
            exact ⟨q1, by rw [f2 49 12 rfl]; exact hd1, q2, fun _ _ _ => q3⟩
        · by_cases c3 : (nmb tp 4 false 0 (sk tp p)).1 = -1
          · rw [if_pos c3]; exact b2' c3
          · rw [if_neg c3] at z; exact Bool.noConfusion (show true = false from z)
    · rcases fi_r T6 (gb tp (sk tp p)) 6 0 with q | ⟨k, -, k2, k3, k4⟩
      · exact absurd q c2
      · obtain ⟨t1, t2⟩ := T6_l k (by omega)
        have hkpos : ∀ k : Nat, k < 6 → 1 ≤ T6.getD k 0 := by decide
        have hk1 := hkpos k (by omega)
        have hg : gb tp (sk tp p) = lt6 k := by omega
        have hql : sk tp p < tp.length := gb_lt rfl (by omega)
        have hlk : lk tp (sk tp p) = (gb tp (sk tp p) : Int) := by unfold lk; rw [if_pos hql]
        rw [if_neg c2, if_neg c2, if_neg (by decide), hlk, if_pos ⟨by omega, by omega⟩, h1.2.2.2.1, ww1 (i := sk tp p) (by omega), Int.toNat_natCast]
        refine ⟨_, _, rfl, trivial, (fr_m rfl f1).up rfl, fun _ => ⟨by rw [up_out (Or.inr (by decide))]; exact hf1, by rw [up_out (Or.inr (by decide))]; exact hd1, h1.to (q := sk tp p + 1) (by omega), fun L hL hl => ?_⟩, fun z => Bool.noConfusion (show true = false from z)⟩
        show w1 53 (gb tp (sk tp p)) = L (fi T6 (gb tp (sk tp p)) 6 0).toNat
        rw [k3, Int.toNat_natCast, hg, f1 53 _ rfl]
        exact hl k (by omega)
end MA
