/-! ===== pure: codes mean what the text means ===== -/
def nos (cs : List Int) : Prop := ∀ c, c ∈ cs → -200 ≤ c ∧ c ≤ 9999 ∧ c ≠ -59 ∧ c ≠ -63
def opk (c : Nat) : Prop := 33 < c ∧ c ≤ 200 ∧ c ≠ 59 ∧ c ≠ 63
/-- codes that push a value of the kind V -/
def evv (N : Nat) (V : Int → Prop) (nd : Nat) (R : Rz) : Prop := R.1 = true → evl N R.2.2.1 R.2.2.2 nd ∧ (∀ L, LO L → V (R.2.2.2 L)) ∧ nos R.2.2.1
section ME
variable {N : Nat} {w v : aw_W} {C : List Int} {r : Nat} {L : Nat → Int} {tp : List Nat} {isT isL : Nat → Bool} {pa : Nat → Rz} {V : Int → Prop} {nd : Nat}
theorem nos_app {a b : List Int} (h1 : nos a) (h2 : nos b) : nos (a ++ b) := fun c hc => by
  rw [List.mem_append] at hc
  exact hc.elim (h1 c) (h2 c)
theorem nos_op {c : Nat} (h : opk c) : nos [-(c : Int)] := fun x hx => by
  rw [List.mem_singleton] at hx
  unfold opk at h
  omega
theorem nos_nil : nos [] := fun c hc => absurd hc (by simp)
theorem trr_ev (h1 : ∀ c, isT c = true → opk c) (h2 : ∀ c, isT c = true → ∀ x y, V x → V y → (∀ w, x_Rules_join N (c : Int) x y w = some (opv c x y, w)) ∧ V (opv c x y)) (hn : 1 ≤ nd) (hpa : ∀ p, evv N V nd (pa p)) : ∀ (f p : Nat) (t : Dn), (∀ L, LO L → V (t L)) → (trr tp isT pa f p t).1 = true → evr N (trr tp isT pa f p t).2.2.1 t (trr tp isT pa f p t).2.2.2 nd ∧ (∀ L, LO L → V ((trr tp isT pa f p t).2.2.2 L)) ∧ nos (trr tp isT pa f p t).2.2.1
  | 0, p, t, ht, _ => ⟨evr_nil, ht, nos_nil⟩
  | f + 1, p, t, ht, h => by
    cases hT : isT (gb tp (sk tp p)) with
    | false => rw [trr_n hT]; exact ⟨evr_nil, ht, nos_nil⟩
    | true =>
      cases hA : (pa (sk tp p + 1)).1 with
      | false => rw [trr_f hT hA] at h; exact nof h
      | true =>
        obtain ⟨a1, a2, a3⟩ := hpa (sk tp p + 1) hA
        rw [trr_y hT hA] at h ⊢
        have hv : ∀ L, LO L → V (opd (gb tp (sk tp p)) t (pa (sk tp p + 1)).2.2.2 L) := fun L hL => (h2 _ hT _ _ (ht L hL) (a2 L hL)).2
        obtain ⟨b1, b2, b3⟩ := trr_ev h1 h2 hn hpa f (pa (sk tp p + 1)).2.1 (opd (gb tp (sk tp p)) t (pa (sk tp p + 1)).2.2.2) hv h
        have o := evr_o (t := t) a1 hn (h1 _ hT) (fun L hL w => (h2 _ hT _ _ (ht L hL) (a2 L hL)).1 w)
        have e : (pa (sk tp p + 1)).2.2.1 ++ -(gb tp (sk tp p) : Int) :: (trr tp isT pa f (pa (sk tp p + 1)).2.1 (opd (gb tp (sk tp p)) t (pa (sk tp p + 1)).2.2.2)).2.2.1 = ((pa (sk tp p + 1)).2.2.1 ++ [-(gb tp (sk tp p) : Int)]) ++ (trr tp isT pa f (pa (sk tp p + 1)).2.1 (opd (gb tp (sk tp p)) t (pa (sk tp p + 1)).2.2.2)).2.2.1 := by rw [List.append_assoc, List.singleton_append]
        show evr N ((pa (sk tp p + 1)).2.2.1 ++ -(gb tp (sk tp p) : Int) :: _) t _ nd ∧ _ ∧ nos ((pa (sk tp p + 1)).2.2.1 ++ -(gb tp (sk tp p) : Int) :: _)
        rw [e]
        exact ⟨evr_r o b1 (Nat.le_refl _), b2, nos_app (nos_app a3 (nos_op (h1 _ hT))) b3⟩
theorem srr_ev (h1 : ∀ c, (isT c = true ∨ isL c = true) → opk c) (h2 : ∀ c, (isT c = true ∨ isL c = true) → ∀ x y, V x → V y → (∀ w, x_Rules_join N (c : Int) x y w = some (opv c x y, w)) ∧ V (opv c x y)) (hn : 1 ≤ nd) (hpa : ∀ p, evv N V nd (pa p)) : ∀ (f p : Nat) (s : Dn), (∀ L, LO L → V (s L)) → (srr tp isT isL pa f p s).1 = true → evr N (srr tp isT isL pa f p s).2.2.1 s (srr tp isT isL pa f p s).2.2.2 (nd + 1) ∧ (∀ L, LO L → V ((srr tp isT isL pa f p s).2.2.2 L)) ∧ nos (srr tp isT isL pa f p s).2.2.1
  | 0, p, s, hs, _ => ⟨evr_nil, hs, nos_nil⟩
  | f + 1, p, s, hs, h => by
    cases hL : isL (gb tp (sk tp p)) with
    | false => rw [srr_n hL]; exact ⟨evr_nil, hs, nos_nil⟩
    | true =>
      cases hA : (pa (sk tp p + 1)).1 with
      | false => rw [srr_f hL hA] at h; exact nof h
      | true =>
        obtain ⟨a1, a2, a3⟩ := hpa (sk tp p + 1) hA
        obtain ⟨T, hT⟩ : ∃ T, trr tp isT pa (tp.length + 1) (pa (sk tp p + 1)).2.1 (pa (sk tp p + 1)).2.2.2 = T := ⟨_, rfl⟩
        cases h2' : T.1 with
        | false => rw [srr_g hL rfl hA hT h2'] at h; exact nof h
        | true =>
          have tt := trr_ev (tp := tp) (isT := isT) (pa := pa) (N := N) (V := V) (nd := nd) (fun c z => h1 c (Or.inl z)) (fun c z => h2 c (Or.inl z)) hn hpa (tp.length + 1) (pa (sk tp p + 1)).2.1 (pa (sk tp p + 1)).2.2.2 a2
          rw [hT] at tt
          obtain ⟨b1, b2, b3⟩ := tt h2'
          obtain ⟨U, hU⟩ : ∃ U, srr tp isT isL pa f T.2.1 (opd (gb tp (sk tp p)) s T.2.2.2) = U := ⟨_, rfl⟩
          have hv : ∀ L, LO L → V (opd (gb tp (sk tp p)) s T.2.2.2 L) := fun L hLo => (h2 _ (Or.inr hL) _ _ (hs L hLo) (b2 L hLo)).2
          have uu := srr_ev h1 h2 hn hpa f T.2.1 (opd (gb tp (sk tp p)) s T.2.2.2) hv
          rw [hU] at uu
          rw [srr_y hL rfl hA hT h2' hU] at h ⊢
          obtain ⟨u1, u2, u3⟩ := uu h
          have pT : evl N ((pa (sk tp p + 1)).2.2.1 ++ T.2.2.1) T.2.2.2 (nd + 1) := evl_r (evl_w a1 (by omega)) b1 (Nat.le_refl _)
          have o := evr_o (t := s) pT (by omega) (h1 _ (Or.inr hL)) (fun L hLo w => (h2 _ (Or.inr hL) _ _ (hs L hLo) (b2 L hLo)).1 w)
          have e : (pa (sk tp p + 1)).2.2.1 ++ (T.2.2.1 ++ -(gb tp (sk tp p) : Int) :: U.2.2.1) = (((pa (sk tp p + 1)).2.2.1 ++ T.2.2.1) ++ [-(gb tp (sk tp p) : Int)]) ++ U.2.2.1 := by simp only [List.append_assoc, List.singleton_append]
          show evr N ((pa (sk tp p + 1)).2.2.1 ++ (T.2.2.1 ++ -(gb tp (sk tp p) : Int) :: U.2.2.1)) s U.2.2.2 (nd + 1) ∧ _ ∧ nos ((pa (sk tp p + 1)).2.2.1 ++ (T.2.2.1 ++ -(gb tp (sk tp p) : Int) :: U.2.2.1))
          rw [e]
          exact ⟨evr_r o u1 (Nat.le_refl _), u2, nos_app (nos_app (nos_app a3 b3) (nos_op (h1 _ (Or.inr hL)))) u3⟩
theorem chn_ev (h1 : ∀ c, (isT c = true ∨ isL c = true) → opk c) (h2 : ∀ c, (isT c = true ∨ isL c = true) → ∀ x y, V x → V y → (∀ w, x_Rules_join N (c : Int) x y w = some (opv c x y, w)) ∧ V (opv c x y)) (hn : 1 ≤ nd) (hpa : ∀ p, evv N V nd (pa p)) {A : Rz} (hA : evv N V nd A) : evv N V (nd + 2) (chn tp isT isL pa A) := by
  intro h
  cases h0 : A.1 with
  | false => rw [chn_f h0] at h; exact nof h
  | true =>
    obtain ⟨a1, a2, a3⟩ := hA h0
    obtain ⟨T, hT⟩ : ∃ T, trr tp isT pa (tp.length + 1) A.2.1 A.2.2.2 = T := ⟨_, rfl⟩
    cases h2' : T.1 with
    | false => rw [chn_g h0 hT h2'] at h; exact nof h
    | true =>
      have tt := trr_ev (tp := tp) (isT := isT) (pa := pa) (N := N) (V := V) (nd := nd) (fun c z => h1 c (Or.inl z)) (fun c z => h2 c (Or.inl z)) hn hpa (tp.length + 1) A.2.1 A.2.2.2 a2
      rw [hT] at tt
      obtain ⟨b1, b2, b3⟩ := tt h2'
      obtain ⟨U, hU⟩ : ∃ U, srr tp isT isL pa (tp.length + 1) T.2.1 T.2.2.2 = U := ⟨_, rfl⟩
      have uu := srr_ev (tp := tp) (isT := isT) (isL := isL) (pa := pa) (N := N) (V := V) (nd := nd) h1 h2 hn hpa (tp.length + 1) T.2.1 T.2.2.2 b2
      rw [hU] at uu
      rw [chn_y h0 hT h2' hU] at h ⊢
      obtain ⟨u1, u2, u3⟩ := uu h
      exact ⟨evl_r (evl_w a1 (by omega)) (evr_r (evr_w b1 (by omega)) u1 (Nat.le_refl _)) (by omega), u2, nos_app a3 (nos_app b3 u3)⟩
theorem opk_s : ∀ c, (isM c = true ∨ isA c = true) → opk c := by
  intro c h
  unfold opk
  rcases h with h | h
  · have := of_decide_eq_true h; omega
  · have := of_decide_eq_true h; omega
theorem opk_b : ∀ c, (isN c = true ∨ isO c = true) → opk c := by
  intro c h
  unfold opk
  rcases h with h | h
  · have : c = 38 := of_decide_eq_true h; omega
  · have : c = 124 := of_decide_eq_true h; omega
theorem opk_c {c : Nat} (h : isC c = true) : opk c := by
  unfold opk
  have := of_decide_eq_true h
  omega
theorem jv_s : ∀ c, (isM c = true ∨ isA c = true) → ∀ x y, Vs x → Vs y → (∀ w, x_Rules_join N (c : Int) x y w = some (opv c x y, w)) ∧ Vs (opv c x y) := fun c h x y hx hy => ⟨fun _ => jn_s h hx hy, opv_b c x y⟩
theorem jv_b : ∀ c, (isN c = true ∨ isO c = true) → ∀ x y, Vb x → Vb y → (∀ w, x_Rules_join N (c : Int) x y w = some (opv c x y, w)) ∧ Vb (opv c x y) := by
  intro c h x y hx hy
  refine ⟨fun _ => jn_b h hx hy, ?_⟩
  rcases h with h | h
  · have : c = 38 := of_decide_eq_true h
    subst this
    rw [opv_38]
    split
    · exact Or.inl rfl
    · split
      · exact Or.inl rfl
      · exact Or.inr rfl
  · have : c = 124 := of_decide_eq_true h
    subst this
    rw [opv_124]
    split
    · split
      · exact Or.inl rfl
      · exact Or.inr rfl
    · exact Or.inr rfl
theorem patm_ev {sub : Option (Nat → Rz)} (hn : 1 ≤ nd) (hs : ∀ s, sub = some s → ∀ p, evv N Vs nd (s p)) (p : Nat) : evv N Vs nd (patm tp sub p) := by
  intro h
  have hbd := patm_bd (tp := tp) (sub := sub) (fun s hss q => fun z => (hs s hss q z).2.1) p h
  by_cases c1 : gb tp (sk tp p) = 91
  · cases sub with
    | none => rw [patm_b0 c1] at h; exact nof h
    | some s =>
      rw [patm_b c1 rfl] at h ⊢
      have hb := hs s rfl (sk tp p + 1)
      generalize s (sk tp p + 1) = R at h hb ⊢
      cases hR : R.1 with
      | false => rw [hR, if_pos rfl] at h; exact nof h
      | true =>
        rw [hR, if_neg (by decide)] at h
        rw [if_neg (by decide)]
        by_cases c2 : gb tp (sk tp R.2.1) = 93
        · rw [if_pos c2]; exact hb hR
        · rw [if_neg c2] at h; exact nof h
  · rw [patm_n c1] at h hbd ⊢
    by_cases c2 : fi T6 (gb tp (sk tp p)) 6 0 = -1
    · rw [if_pos c2] at h hbd ⊢
      by_cases c3 : (nmb tp 4 false 0 (sk tp p)).1 = -1
      · rw [if_pos c3] at h; exact nof h
      · rw [if_neg c3] at hbd ⊢
        have hv := nmb_v (tp := tp) 4 0 false 0 (sk tp p) (by decide) (Int.le_refl _) (by decide)
        have h4 : (10 : Int) ^ 4 = 10000 := by decide
        refine ⟨fun C r L top w hL hc ht => ?_, hbd, fun c hc => ?_⟩
        · exact ⟨_, run_1 hc (by omega) (by omega) (by omega) (ap_num (by omega) (by omega) (by omega)), up_in, fun j hj => up_out (Or.inr (by omega)), (fr_r _ _).upA rfl⟩
        · have hc' : c = (nmb tp 4 false 0 (sk tp p)).1 := by simpa using hc
          omega
    · rw [if_neg c2] at hbd ⊢
      rcases fi_r T6 (gb tp (sk tp p)) 6 0 with q | ⟨k, -, k2, k3, k4⟩
      · exact absurd q c2
      · rw [k3] at hbd ⊢
        refine ⟨fun C r L top w hL hc ht => ?_, hbd, fun c hc => ?_⟩
        · refine ⟨_, run_1 hc (by omega) (by omega) (by omega) (ap_let (by omega) (by omega)), ?_, fun j hj => up_out (Or.inr (by omega)), (fr_r _ _).upA rfl⟩
          rw [up_in, hc.2.2.2.2 k (by omega), Int.toNat_natCast]
        · have hc' : c = -1 - (k : Int) := by simpa using hc
          omega
theorem psm_ev : ∀ d, (∀ p, evv N Vs (2 * d + 1) (atd tp d p)) ∧ (∀ p, evv N Vs (2 * d + 3) (psm tp d p))
  | 0 => by
    have ha : ∀ p, evv N Vs (2 * 0 + 1) (atd tp 0 p) := patm_ev (by decide) (fun s h => by cases h)
    exact ⟨ha, fun p => by rw [psm_e]; exact chn_ev opk_s jv_s (by decide) ha (ha p)⟩
  | d + 1 => by
    have ih := psm_ev d
    have ha : ∀ p, evv N Vs (2 * (d + 1) + 1) (atd tp (d + 1) p) := patm_ev (by omega) (fun s h => by cases h; exact ih.2)
    exact ⟨ha, fun p => by rw [psm_e]; exact chn_ev opk_s jv_s (by omega) ha (ha p)⟩
theorem cmp_ev {d : Nat} {A : Rz} (hA : evv N Vs (2 * d + 3) A) : evv N Vb (2 * d + 4) (cmp tp d A) := by
  intro h
  cases h0 : A.1 with
  | false => rw [cmp_f h0] at h; exact nof h
  | true =>
    obtain ⟨a1, a2, a3⟩ := hA h0
    cases hC : isC (gb tp (sk tp A.2.1)) with
    | false => rw [cmp_g h0 hC] at h; exact nof h
    | true =>
      cases hB : (psm tp d (sk tp A.2.1 + 1)).1 with
      | false => rw [cmp_h h0 hC rfl hB] at h; exact nof h
      | true =>
        obtain ⟨b1, b2, b3⟩ := (psm_ev (N := N) (tp := tp) d).2 (sk tp A.2.1 + 1) hB
        rw [cmp_y h0 hC rfl hB]
        have o := evr_o (t := A.2.2.2) b1 (by omega) (opk_c hC) (fun L _ w => jn_c hC)
        refine ⟨evl_r (evl_w a1 (by omega)) o (by omega), fun L hL => ?_, nos_app a3 (nos_app b3 (nos_op (opk_c hC)))⟩
        show Vb (opv (gb tp (sk tp A.2.1)) (A.2.2.2 L) ((psm tp d (sk tp A.2.1 + 1)).2.2.2 L))
        rcases of_decide_eq_true hC with z | z | z
        · rw [z, opv_61]; split; exact Or.inr rfl; exact Or.inl rfl
        · rw [z, opv_60]; split; exact Or.inr rfl; exact Or.inl rfl
        · rw [z, opv_62]; split; exact Or.inr rfl; exact Or.inl rfl
theorem evv_w {R : Rz} {a b : Nat} (h : evv N V a R) (hab : a ≤ b) : evv N V b R := fun z => ⟨evl_w (h z).1 hab, (h z).2⟩
theorem pun_ev : ∀ d, (∀ p, evv N Vb (2 * d + 4) (pun tp d p)) ∧ (∀ p, evv N Vb (2 * d + 6) (pcd tp d p)) := by
  have ch : ∀ d, (∀ p, evv N Vb (2 * d + 4) (pun tp d p)) → ∀ p, evv N Vb (2 * d + 6) (pcd tp d p) := fun d ha p => chn_ev opk_b jv_b (by omega) ha (ha p)
  have cm : ∀ d p, ¬ (gb tp (sk tp p) = 33 ∨ gb tp (sk tp p) = 40) → evv N Vb (2 * d + 4) (pun tp d p) := fun d p hb => by rw [pun_c hb]; exact cmp_ev ((psm_ev d).2 _)
  intro d
  induction d with
  | zero =>
    have ha : ∀ p, evv N Vb (2 * 0 + 4) (pun tp 0 p) := by
      intro p
      by_cases hb : gb tp (sk tp p) = 33 ∨ gb tp (sk tp p) = 40
      · rw [pun_0b hb]; exact fun z => nof z
      · exact cm 0 p hb
    exact ⟨ha, ch 0 ha⟩
  | succ d ih =>
    have ha : ∀ p, evv N Vb (2 * (d + 1) + 4) (pun tp (d + 1) p) := by
      intro p
      by_cases hb : gb tp (sk tp p) = 33 ∨ gb tp (sk tp p) = 40
      · rw [pun_sb hb]
        intro h
        rcases hb with z | z
        · rw [z, popn_33 rfl] at h ⊢
          have q := ih.1 (sk tp p + 1)
          generalize pun tp d (sk tp p + 1) = R at h q ⊢
          cases hR : R.1 with
          | false => rw [hR, if_pos rfl] at h; exact nof h
          | true =>
            obtain ⟨a1, a2, a3⟩ := q hR
            rw [if_neg (by decide)]
            refine ⟨fun C r L top w hL hc ht => ?_, fun L hL => ?_, nos_app a3 (fun c hc => ?_)⟩
            · obtain ⟨w1, r1, v1, s1⟩ := a1 C r L top w hL hc (by omega)
              have hv := a2 L hL
              refine ⟨_, run_app r1 (run_1 (hc.fr s1.2) (by decide) (by decide) (by decide) (ap_not (by omega) (by rw [v1]; exact hv))), ?_, ?_⟩
              · rw [up_in, v1]
              · exact ⟨fun j hj => by rw [up_out (Or.inr (by omega)), s1.1 j hj], s1.2.trans ((fr_r _ _).upA rfl)⟩
            · have hv := a2 L hL
              show Vb (1 - R.2.2.2 L)
              unfold Vb at hv ⊢
              omega
            · have hc' : c = -33 := by simpa using hc
              omega
        · rw [z, popn_40 rfl] at h ⊢
          have q := ih.2 (sk tp p + 1)
          generalize pcd tp d (sk tp p + 1) = R at h q ⊢
          cases hR : R.1 with
          | false => rw [hR, if_pos rfl] at h; exact nof h
          | true =>
            rw [hR, if_neg (by decide)] at h
            rw [if_neg (by decide)]
            by_cases c2 : gb tp (sk tp R.2.1) = 41
            · rw [if_pos c2]; exact (evv_w (b := 2 * (d + 1) + 4) q (by omega)) hR
            · rw [if_neg c2] at h; exact nof h
      · exact cm (d + 1) p hb
    exact ⟨ha, ch (d + 1) ha⟩
/-- a condition whose first sum has been read -/
theorem chn_pre {A A' : Rz} {pre : List Int} (h1 : A'.1 = A.1) (h2 : A'.2.1 = A.2.1) (h3 : A'.2.2.2 = A.2.2.2) (h4 : A.1 = true → A'.2.2.1 = pre ++ A.2.2.1) : (chn tp isT isL pa A').1 = (chn tp isT isL pa A).1 ∧ (chn tp isT isL pa A').2.2.2 = (chn tp isT isL pa A).2.2.2 ∧ ((chn tp isT isL pa A).1 = true → (chn tp isT isL pa A').2.2.1 = pre ++ (chn tp isT isL pa A).2.2.1) := by
  cases h0 : A.1 with
  | false =>
    rw [chn_f h0, chn_f (h1.trans h0)]
    exact ⟨rfl, rfl, fun z => nof z⟩
  | true =>
    obtain ⟨T, hT⟩ : ∃ T, trr tp isT pa (tp.length + 1) A.2.1 A.2.2.2 = T := ⟨_, rfl⟩
    have hT' : trr tp isT pa (tp.length + 1) A'.2.1 A'.2.2.2 = T := by rw [h2, h3]; exact hT
    cases h2' : T.1 with
    | false =>
      rw [chn_g h0 hT h2', chn_g (h1.trans h0) hT' h2']
      exact ⟨rfl, rfl, fun z => nof z⟩
    | true =>
      rw [chn_y h0 hT h2' rfl, chn_y (h1.trans h0) hT' h2' rfl]
      refine ⟨rfl, rfl, fun _ => ?_⟩
      show A'.2.2.1 ++ _ = pre ++ (A.2.2.1 ++ _)
      rw [h4 h0, List.append_assoc]
theorem beg_ev {q : Nat} {S : Rz} (hS : S.1 = true) (he : evv N Vs 15 S) : (chn tp isN isO (pun tp 6) (cmp tp 6 (true, q, [], S.2.2.2))).1 = true → evl N (S.2.2.1 ++ (chn tp isN isO (pun tp 6) (cmp tp 6 (true, q, [], S.2.2.2))).2.2.1) (chn tp isN isO (pun tp 6) (cmp tp 6 (true, q, [], S.2.2.2))).2.2.2 18 := by
  intro h
  have j := cmp_j (tp := tp) (d := 6) (A := (true, q, S.2.2.1, S.2.2.2)) rfl
  have jd := cmp_jd (tp := tp) (d := 6) (A := (true, q, S.2.2.1, S.2.2.2)) rfl
  obtain ⟨p1, p2, p3⟩ := chn_pre (tp := tp) (isT := isN) (isL := isO) (pa := pun tp 6) (A := cmp tp 6 (true, q, [], S.2.2.2)) (A' := cmp tp 6 (true, q, S.2.2.1, S.2.2.2)) (pre := S.2.2.1) j.1 j.2.1 jd (fun z => j.2.2 (j.1.trans z))
  have ev := chn_ev (tp := tp) (N := N) opk_b jv_b (by decide) (pun_ev (tp := tp) 6).1 (cmp_ev (tp := tp) (d := 6) (A := (true, q, S.2.2.1, S.2.2.2)) (fun _ => he hS)) (p1.trans h)
  rw [p3 h, p2] at ev
  exact ev.1
end ME
