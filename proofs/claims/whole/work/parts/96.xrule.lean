/-! ===== pure: units, clauses, rules, in the class ===== -/
def popn (tp : List Nat) (e c q : Nat) : Rz :=
  if c = 40 then
    (if (pcd tp e (q + 1)).1 = false then no_ (pcd tp e (q + 1)).2.1
    else if gb tp (sk tp (pcd tp e (q + 1)).2.1) = 41 then (true, sk tp (pcd tp e (q + 1)).2.1 + 1, (pcd tp e (q + 1)).2.2.1, (pcd tp e (q + 1)).2.2.2)
    else no_ (sk tp (pcd tp e (q + 1)).2.1))
  else (if (pun tp e (q + 1)).1 = false then no_ (pun tp e (q + 1)).2.1 else (true, (pun tp e (q + 1)).2.1, (pun tp e (q + 1)).2.2.1 ++ [-33], fun L => 1 - (pun tp e (q + 1)).2.2.2 L))
abbrev Rc := Bool × Nat × List Int × Dn × Dn
def no5 (p : Nat) : Rc := (false, p, [], dz, dz)
/-- a clause from behind its condition on -/
def clq (tp : List Nat) (pre : List Int) (C : Rz) : Rc :=
  if C.1 = false then no5 C.2.1
  else if gb tp (sk tp C.2.1) ≠ 63 then no5 (sk tp C.2.1)
  else if (psm tp 6 (sk tp C.2.1 + 1)).1 = false then no5 (psm tp 6 (sk tp C.2.1 + 1)).2.1
  else (true, (psm tp 6 (sk tp C.2.1 + 1)).2.1, pre ++ (C.2.2.1 ++ (-63) :: ((psm tp 6 (sk tp C.2.1 + 1)).2.2.1 ++ [-59])), C.2.2.2, (psm tp 6 (sk tp C.2.1 + 1)).2.2.2)
def cla (tp : List Nat) (q : Nat) : Rc :=
  if gb tp q = 33 ∨ gb tp q = 40 then clq tp [] (pcd tp 6 q)
  else if (psm tp 6 q).1 = false then no5 (psm tp 6 q).2.1
  else if isC (gb tp (sk tp (psm tp 6 q).2.1)) = true then clq tp (psm tp 6 q).2.2.1 (chn tp isN isO (pun tp 6) (cmp tp 6 (true, sk tp (psm tp 6 q).2.1, [], (psm tp 6 q).2.2.2)))
  else (true, sk tp (psm tp 6 q).2.1, (psm tp 6 q).2.2.1 ++ [-59], fun _ => 1, (psm tp 6 q).2.2.2)
def pcz (tp : List Nat) (p : Nat) : Rc :=
  if gb tp (sk tp p) ≠ 121 then no5 (sk tp p)
  else if gb tp (sk tp (sk tp p + 1)) ≠ 58 then no5 (sk tp (sk tp p + 1))
  else cla tp (sk tp (sk tp (sk tp p + 1) + 1))
def prl (tp : List Nat) : Nat → Nat → Int × List Int × Dn
  | 0, p => ((p : Int), [], dz)
  | f + 1, p =>
    if (pcz tp p).1 = false then (((pcz tp p).2.1 : Int), [], dz)
    else if gb tp (sk tp (pcz tp p).2.1) = 59 then ((prl tp f (sk tp (pcz tp p).2.1 + 1)).1, (pcz tp p).2.2.1 ++ (prl tp f (sk tp (pcz tp p).2.1 + 1)).2.1, fun L => if (pcz tp p).2.2.2.1 L = 0 then (prl tp f (sk tp (pcz tp p).2.1 + 1)).2.2 L else (pcz tp p).2.2.2.2 L)
    else if gb tp (sk tp (pcz tp p).2.1) = 0 then (-1, (pcz tp p).2.2.1, fun L => if (pcz tp p).2.2.2.1 L = 0 then 0 else (pcz tp p).2.2.2.2 L)
    else ((sk tp (pcz tp p).2.1 : Int), [], dz)
def prlT (tp : List Nat) : Int × List Int × Dn := prl tp (tp.length + 1) 0
section XR
variable {N : Nat} {w v : aw_W} {tp : List Nat} {p : Nat} {S : List (Nat × Nat)} {cs : List Int}
theorem pun_0b (h : gb tp (sk tp p) = 33 ∨ gb tp (sk tp p) = 40) : pun tp 0 p = no_ (sk tp p) := by
  show punit tp 0 none p = _
  unfold punit
  by_cases c : gb tp (sk tp p) = 33
  · rw [if_pos c]
  · rw [if_neg c, if_pos (h.resolve_left c)]
theorem pun_sb {d : Nat} (h : gb tp (sk tp p) = 33 ∨ gb tp (sk tp p) = 40) : pun tp (d + 1) p = popn tp d (gb tp (sk tp p)) (sk tp p) := by
  show punit tp (d + 1) (some (pun tp d, fun q => chn tp isN isO (pun tp d) (pun tp d q))) p = _
  unfold punit popn
  by_cases c : gb tp (sk tp p) = 33
  · rw [if_pos c, if_neg (by omega)]
  · have c2 := h.resolve_left c
    rw [if_neg c, if_pos c2, if_pos c2]
    rfl
theorem pun_c {d : Nat} (h : ¬ (gb tp (sk tp p) = 33 ∨ gb tp (sk tp p) = 40)) : pun tp d p = cmp tp d (psm tp d (sk tp p)) := by
  have h1 : ¬ gb tp (sk tp p) = 33 := fun q => h (Or.inl q)
  have h2 : ¬ gb tp (sk tp p) = 40 := fun q => h (Or.inr q)
  cases d with
  | zero => show punit tp 0 none p = _; unfold punit; rw [if_neg h1, if_neg h2]
  | succ d => show punit tp (d + 1) (some _) p = _; unfold punit; rw [if_neg h1, if_neg h2]
theorem X_opn (hN : 200 ≤ N) {co cu cc : Int → Int → aw_W → Option (Int × aw_W)} {e : Nat} (hcu : ∀ p, p ≤ tp.length → xsp tp (cu ((6 - e : Nat) : Int) 0) p (pun tp e p)) (hcc : ∀ p, p ≤ tp.length → xsp tp (cc ((6 - e : Nat) : Int) 0) p (pcd tp e p)) {q c : Nat} (hg : gb tp q = c) (hc2 : c = 33 ∨ c = 40) : xsp tp (x_Rules_readOpened_b co cu cc N ((6 - e : Nat) : Int) (c : Int)) q (popn tp e c q) := by
  intro w cs h hc hcs
  have h160 := h.1.2.1.1
  have hql : q < tp.length := gb_lt hg (by omega)
  have x2 := h.to (q := q + 1) (by omega)
  have c2 : XC (aw_up w 1 2 ((q + 1 : Nat) : Int)) cs := hc.fr (S := [(1, 2)]) ((fr_r _ _).up rfl) rfl
  have fu : fr_ S_PX w (aw_up w 1 2 ((q + 1 : Nat) : Int)) := (fr_r _ _).up rfl
  unfold popn
  rw [x_Rules_readOpened_b, h.2.1, ww1 (i := q) (by omega)]
  by_cases z : c = 40
  · rw [if_pos (by omega), if_pos z]
    obtain ⟨w3, e3, h3, g3, f3⟩ := hcc (q + 1) (by omega) _ cs x2 c2 (by omega)
    rw [e3, b2_some]
    generalize pcd tp e (q + 1) = R at h3 g3 ⊢
    cases hR : R.1 with
    | false =>
      rw [if_pos b2i_f, if_pos rfl]
      exact ⟨w3, rfl, h3, fun z => nof z, fu.trans f3⟩
    | true =>
      obtain ⟨w4, e4, h4, f4⟩ := X_tk (N := N) hN h3 (c := 41) (by decide)
      have e4' : x_Tape_take N 41 w3 = some (b2i (decide (gb tp (sk tp R.2.1) = 41)), w4) := e4
      rw [if_neg b2i_t, if_neg (by decide), e4', b2_some]
      by_cases y : gb tp (sk tp R.2.1) = 41
      · rw [if_pos y] at h4
        rw [decide_eq_true y, if_neg b2i_t, if_pos y]
        exact ⟨w4, rfl, h4, fun _ => (g3 hR).fr f4 rfl, fu.trans (f3.trans (fr_m rfl f4))⟩
      · rw [if_neg y] at h4
        rw [decide_eq_false y, if_pos b2i_f, if_neg y]
        exact ⟨w4, rfl, h4, fun z => nof z, fu.trans (f3.trans (fr_m rfl f4))⟩
  · rw [if_neg (by omega), if_neg z]
    obtain ⟨w3, e3, h3, g3, f3⟩ := hcu (q + 1) (by omega) _ cs x2 c2 (by omega)
    obtain ⟨⟨b1, b2, b3⟩, b4⟩ := (pun_p (tp := tp) e).1 (q + 1) (by omega)
    rw [e3, b2_some]
    generalize pun tp e (q + 1) = R at h3 g3 b1 b2 b3 b4 ⊢
    cases hR : R.1 with
    | false =>
      rw [if_pos b2i_f, if_pos rfl]
      exact ⟨w3, rfl, h3, fun z => nof z, fu.trans f3⟩
    | true =>
      have b5 := b3 hR
      obtain ⟨w4, e4, c4, f4⟩ := X_rput (N := N) (c := -33) (g3 hR) (by rw [List.length_append]; omega)
      rw [if_neg b2i_t, if_neg (by decide), e4, b1_some]
      exact ⟨w4, rfl, h3.fr f4 rfl, fun _ => by show XC w4 (cs ++ (R.2.2.1 ++ [-33])); rw [← List.append_assoc]; exact c4, fu.trans (f3.trans (fr_m rfl f4))⟩
theorem X_unc (hN : 200 ≤ N) {co cu cc : Int → Int → aw_W → Option (Int × aw_W)} {d : Nat} (hd : d ≤ 6) (hp : p ≤ tp.length) (hb : ¬ (gb tp (sk tp p) = 33 ∨ gb tp (sk tp p) = 40)) : xsp tp (x_Rules_readUnit_b co cu cc N ((6 - d : Nat) : Int) 0) p (pun tp d p) := by
  intro w cs h hc hcs
  have hk := sk_le hp
  obtain ⟨w1, e1, h1, f1⟩ := X_sign (N := N) hN h
  have hc1 := hc.fr f1 rfl
  obtain ⟨w2, e2, h2, g2, f2⟩ := X_rsum (N := N) hN hd (p := sk tp p) hk.2 w1 cs h1 hc1 (by omega)
  obtain ⟨⟨b1, b2, b3⟩, b4⟩ := (psm_at_p (tp := tp) d).2 (sk tp p) hk.2
  rw [pun_c hb, x_Rules_readUnit_b, if_pos rfl, e1, b2_some, if_neg (by omega), if_neg (by omega), e2, b2_some]
  generalize psm tp d (sk tp p) = A at h2 g2 b1 b2 b3 b4 ⊢
  cases hA : A.1 with
  | false =>
    rw [if_pos b2i_f, cmp_f hA]
    exact ⟨w2, rfl, h2, fun z => nof z, (fr_m rfl f1).trans f2⟩
  | true =>
    have b5 := b3 hA
    obtain ⟨r1, r2, r3⟩ := cmp_j (tp := tp) (d := d) hA
    obtain ⟨w3, e3, h3, g3, f3⟩ := X_u60 (N := N) (co := co) (cu := cu) (cc := cc) hN hd b2 (dn := A.2.2.2) w2 (cs ++ A.2.2.1) h2 (g2 hA) (by rw [List.length_append]; omega)
    rw [if_neg b2i_t, r1, r2]
    refine ⟨w3, e3, h3, fun z => ?_, ((fr_m rfl f1).trans f2).trans f3⟩
    rw [r3 (by rw [r1]; exact z), ← List.append_assoc]
    exact g3 z
theorem X_un0 (hN : 200 ≤ N) {co cu cc : Int → Int → aw_W → Option (Int × aw_W)} (hp : p ≤ tp.length) : xsp tp (x_Rules_readUnit_b co cu cc N ((6 - 0 : Nat) : Int) 0) p (pun tp 0 p) := by
  by_cases hb : gb tp (sk tp p) = 33 ∨ gb tp (sk tp p) = 40
  · intro w cs h hc hcs
    obtain ⟨w1, e1, h1, f1⟩ := X_sign (N := N) hN h
    have r24 : ∀ x : Int, x_Rules_readUnit_24 co cu cc N ((6 - 0 : Nat) : Int) x w1 = some (0, w1) := by
      intro x
      rw [x_Rules_readUnit_24, if_pos (by decide)]
      rfl
    rw [pun_0b hb, x_Rules_readUnit_b, if_pos rfl, e1, b2_some, r24]
    rcases hb with z | z
    · rw [if_pos (by omega)]
      exact ⟨w1, rfl, h1, fun z => nof z, fr_m rfl f1⟩
    · rw [if_neg (by omega), if_pos (by omega)]
      exact ⟨w1, rfl, h1, fun z => nof z, fr_m rfl f1⟩
  · exact X_unc hN (by decide) hp hb
theorem X_un1 (hN : 200 ≤ N) {co cu cc : Int → Int → aw_W → Option (Int × aw_W)} {d : Nat} (hd : d < 6) (hco : ∀ q c, gb tp q = c → (c = 33 ∨ c = 40) → xsp tp (co ((6 - d : Nat) : Int) (c : Int)) q (popn tp d c q)) (hp : p ≤ tp.length) : xsp tp (x_Rules_readUnit_b co cu cc N ((6 - (d + 1) : Nat) : Int) 0) p (pun tp (d + 1) p) := by
  by_cases hb : gb tp (sk tp p) = 33 ∨ gb tp (sk tp p) = 40
  · intro w cs h hc hcs
    have hk := sk_le hp
    obtain ⟨w1, e1, h1, f1⟩ := X_sign (N := N) hN h
    have hc1 := hc.fr f1 rfl
    have ew : aw_w (((6 - (d + 1) : Nat) : Int) + 1) = ((6 - d : Nat) : Int) := by rw [ww (by omega) (by omega)]; omega
    obtain ⟨w2, e2, h2, g2, f2⟩ := hco (sk tp p) (gb tp (sk tp p)) rfl hb w1 cs h1 hc1 (by omega)
    have r24 : x_Rules_readUnit_24 co cu cc N ((6 - (d + 1) : Nat) : Int) (gb tp (sk tp p) : Int) w1 = some (b2i (popn tp d (gb tp (sk tp p)) (sk tp p)).1, w2) := by
      rw [x_Rules_readUnit_24, if_neg (by omega), ew, e2, b2_some]
      cases (popn tp d (gb tp (sk tp p)) (sk tp p)).1 with
      | false => rw [if_pos b2i_f]; rfl
      | true => rw [if_neg b2i_t]; rfl
    rw [pun_sb hb, x_Rules_readUnit_b, if_pos rfl, e1, b2_some, r24]
    rcases hb with z | z
    · rw [if_pos (by omega)]
      exact ⟨w2, rfl, h2, g2, (fr_m rfl f1).trans f2⟩
    · rw [if_neg (by omega), if_pos (by omega)]
      exact ⟨w2, rfl, h2, g2, (fr_m rfl f1).trans f2⟩
  · exact X_unc hN (by omega) hp hb
theorem okr_b (hp : p ≤ tp.length) {dn : Dn} : okr_ tp p (true, p, [], dn) := ⟨Nat.le_refl _, hp, fun _ => by show 0 + p ≤ p; omega⟩
theorem X_gu (hN : 200 ≤ N) : ∀ d, d ≤ 6 → (∀ D, 3 * d + 1 ≤ D → ∀ p, p ≤ tp.length → xsp tp ((g_x_Rules_readOpened N D).2.1 ((6 - d : Nat) : Int) 0) p (pun tp d p)) ∧ (∀ D, 3 * d + 2 ≤ D → ∀ p, p ≤ tp.length → xsp tp ((g_x_Rules_readOpened N D).2.2 ((6 - d : Nat) : Int) 0) p (pcd tp d p)) ∧ (∀ D, 3 * d + 3 ≤ D → ∀ q c, gb tp q = c → (c = 33 ∨ c = 40) → xsp tp ((g_x_Rules_readOpened N D).1 ((6 - d : Nat) : Int) (c : Int)) q (popn tp d c q))
  | 0, hd => by
    have ha : ∀ D, 3 * 0 + 1 ≤ D → ∀ p, p ≤ tp.length → xsp tp ((g_x_Rules_readOpened N D).2.1 ((6 - 0 : Nat) : Int) 0) p (pun tp 0 p) := by
      intro D hD p hp
      obtain ⟨D, rfl⟩ : ∃ E, D = E + 1 := ⟨D - 1, by omega⟩
      exact X_un0 hN hp
    have hb : ∀ D, 3 * 0 + 2 ≤ D → ∀ p, p ≤ tp.length → xsp tp ((g_x_Rules_readOpened N D).2.2 ((6 - 0 : Nat) : Int) 0) p (pcd tp 0 p) := by
      intro D hD p hp
      obtain ⟨D, rfl⟩ : ∃ E, D = E + 1 := ⟨D - 1, by omega⟩
      exact X_cdb hN (pun_p 0).1 (fun p hp => ha D (by omega) p hp) hp (ha D (by omega) p hp) ((pun_p 0).1 p hp).1
    refine ⟨ha, hb, fun D hD q c hg hc => ?_⟩
    obtain ⟨D, rfl⟩ : ∃ E, D = E + 1 := ⟨D - 1, by omega⟩
    exact X_opn hN (fun p hp => ha D (by omega) p hp) (fun p hp => hb D (by omega) p hp) hg hc
  | d + 1, hd => by
    have ih := X_gu hN d (by omega)
    have ha : ∀ D, 3 * (d + 1) + 1 ≤ D → ∀ p, p ≤ tp.length → xsp tp ((g_x_Rules_readOpened N D).2.1 ((6 - (d + 1) : Nat) : Int) 0) p (pun tp (d + 1) p) := by
      intro D hD p hp
      obtain ⟨D, rfl⟩ : ∃ E, D = E + 1 := ⟨D - 1, by omega⟩
      exact X_un1 hN (by omega) (fun q c hg hc => ih.2.2 D (by omega) q c hg hc) hp
    have hb : ∀ D, 3 * (d + 1) + 2 ≤ D → ∀ p, p ≤ tp.length → xsp tp ((g_x_Rules_readOpened N D).2.2 ((6 - (d + 1) : Nat) : Int) 0) p (pcd tp (d + 1) p) := by
      intro D hD p hp
      obtain ⟨D, rfl⟩ : ∃ E, D = E + 1 := ⟨D - 1, by omega⟩
      exact X_cdb hN (pun_p (d + 1)).1 (fun p hp => ha D (by omega) p hp) hp (ha D (by omega) p hp) ((pun_p (d + 1)).1 p hp).1
    refine ⟨ha, hb, fun D hD q c hg hc => ?_⟩
    obtain ⟨D, rfl⟩ : ∃ E, D = E + 1 := ⟨D - 1, by omega⟩
    exact X_opn hN (fun p hp => ha D (by omega) p hp) (fun p hp => hb D (by omega) p hp) hg hc
theorem X_cond (hN : 200 ≤ N) (hp : p ≤ tp.length) : xsp tp (x_Rules_readCondition N 0 0) p (pcd tp 6 p) := (X_gu hN 6 (by decide)).2.1 60 (by decide) p hp
theorem X_condb (hN : 200 ≤ N) (hp : p ≤ tp.length) {dn : Dn} : xsp tp (x_Rules_readCondition N 0 1) p (chn tp isN isO (pun tp 6) (cmp tp 6 (true, p, [], dn))) := by
  have hu := (X_gu (tp := tp) hN 6 (by decide)).1 59 (by decide)
  have hb : xsp tp ((g_x_Rules_readOpened N 59).2.1 ((6 - 6 : Nat) : Int) 1) p (cmp tp 6 (true, p, [], dn)) := by
    intro w cs h hc hcs
    obtain ⟨w', a1, a2⟩ := X_u60 (N := N) (co := (g_x_Rules_readOpened N 58).1) (cu := (g_x_Rules_readOpened N 58).2.1) (cc := (g_x_Rules_readOpened N 58).2.2) hN (show 6 ≤ 6 by decide) hp (dn := dn) w cs h hc hcs
    refine ⟨w', ?_, a2⟩
    show x_Rules_readUnit_b (g_x_Rules_readOpened N 58).1 (g_x_Rules_readOpened N 58).2.1 (g_x_Rules_readOpened N 58).2.2 N ((6 - 6 : Nat) : Int) 1 w = _
    rw [x_Rules_readUnit_b, if_neg (by decide)]
    exact a1
  exact X_cdb (co := (g_x_Rules_readOpened N 59).1) (cc := (g_x_Rules_readOpened N 59).2.2) hN (pun_p 6).1 hu hp hb (cmp_p (okr_b hp)).1
end XR
