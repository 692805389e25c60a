/-! ===== pure: waiting, as such: n strivers, T turns, the place pl, worths wt, the fee ===== -/
def pp (n g : Nat) : Int := (ct g.testBit n : Int)
def wm (n T d : Nat) : Nat := (T - (d + 1)) % n
/-- who has it behind the first, d turns before the end, if g have gone -/
def HB (n T : Nat) (pl : Int) (wt : Nat → Int) : Nat → Nat → Int
  | 0, _ => -1
  | d + 1, g => if (!(g.testBit (wm n T d)) && decide ((if HB n T pl wt d g = (wm n T d : Int) then wt (wm n T d) else 0) < (if pp n g = pl - 1 then wt (wm n T d) else 0))) = true then (if pp n g = pl - 1 then (wm n T d : Int) else HB n T pl wt d (g ||| 2 ^ wm n T d)) else HB n T pl wt d g
def GB (n T : Nat) (pl : Int) (wt : Nat → Int) (d g : Nat) : Bool := !(g.testBit (wm n T d)) && decide ((if HB n T pl wt d g = (wm n T d : Int) then wt (wm n T d) else 0) < (if pp n g = pl - 1 then wt (wm n T d) else 0))
theorem HB_s (n T : Nat) (pl : Int) (wt : Nat → Int) (d g : Nat) : HB n T pl wt (d + 1) g = if GB n T pl wt d g = true then (if pp n g = pl - 1 then (wm n T d : Int) else HB n T pl wt d (g ||| 2 ^ wm n T d)) else HB n T pl wt d g := rfl
/-- as long as nobody has gone: who goes first, who has it -/
def FF (n T : Nat) (pl : Int) (wt : Nat → Int) (fee : Int) : Nat → Int × Int
  | 0 => (-1, -1)
  | d + 1 => if (if (FF n T pl wt fee d).2 = (wm n T d : Int) then wt (wm n T d) else 0) - (if (FF n T pl wt fee d).1 = (wm n T d : Int) then fee else 0) < (if pl = 1 then wt (wm n T d) else 0) - fee then ((wm n T d : Int), if pl = 1 then (wm n T d : Int) else HB n T pl wt d (2 ^ wm n T d)) else FF n T pl wt fee d
def GF (n T : Nat) (pl : Int) (wt : Nat → Int) (fee : Int) (d : Nat) : Bool := decide ((if (FF n T pl wt fee d).2 = (wm n T d : Int) then wt (wm n T d) else 0) - (if (FF n T pl wt fee d).1 = (wm n T d : Int) then fee else 0) < (if pl = 1 then wt (wm n T d) else 0) - fee)
theorem FF_s (n T : Nat) (pl : Int) (wt : Nat → Int) (fee : Int) (d : Nat) : FF n T pl wt fee (d + 1) = if GF n T pl wt fee d = true then ((wm n T d : Int), if pl = 1 then (wm n T d : Int) else HB n T pl wt d (2 ^ wm n T d)) else FF n T pl wt fee d := by
  unfold GF
  by_cases c : (if (FF n T pl wt fee d).2 = (wm n T d : Int) then wt (wm n T d) else 0) - (if (FF n T pl wt fee d).1 = (wm n T d : Int) then fee else 0) < (if pl = 1 then wt (wm n T d) else 0) - fee
  · rw [if_pos (decide_eq_true c)]; exact if_pos c
  · rw [if_neg (by simpa using c)]; exact if_neg c
/-- the reference's values -/
def vgo (n T : Nat) (pl : Int) (wt : Nat → Int) (fee : Int) (d g : Nat) : Int := (if pp n g + 1 = pl then wt (wm n T d) else 0) - (if g = 0 then fee else 0)
def VV (n T : Nat) (pl : Int) (wt : Nat → Int) (fee : Int) : Nat → Nat → Nat → Int
  | 0, _, _ => 0
  | d + 1, g, s => if (!(g.testBit (wm n T d)) && decide (VV n T pl wt fee d g (wm n T d) < vgo n T pl wt fee d g)) = true then (if s = wm n T d then vgo n T pl wt fee d g else VV n T pl wt fee d (g ||| 2 ^ wm n T d) s) else VV n T pl wt fee d g s
def VG (n T : Nat) (pl : Int) (wt : Nat → Int) (fee : Int) (d g : Nat) : Bool := !(g.testBit (wm n T d)) && decide (VV n T pl wt fee d g (wm n T d) < vgo n T pl wt fee d g)
theorem VV_s (n T : Nat) (pl : Int) (wt : Nat → Int) (fee : Int) (d g s : Nat) : VV n T pl wt fee (d + 1) g s = if VG n T pl wt fee d g = true then (if s = wm n T d then vgo n T pl wt fee d g else VV n T pl wt fee d (g ||| 2 ^ wm n T d) s) else VV n T pl wt fee d g s := rfl
theorem or_bit (g m k : Nat) : (g ||| 2 ^ m).testBit k = (g.testBit k || k == m) := by
  rw [Nat.testBit_or, Nat.testBit_two_pow]
  congr 1
  rw [Bool.eq_iff_iff, decide_eq_true_eq, beq_iff_eq]
  exact ⟨Eq.symm, Eq.symm⟩
theorem pp_or {n g m : Nat} (hm : m < n) (h : g.testBit m = false) : pp n (g ||| 2 ^ m) = pp n g + 1 := by
  unfold pp
  have : ct (g ||| 2 ^ m).testBit n = ct (fun k => g.testBit k || k == m) n := ct_cong (fun k _ => or_bit g m k)
  rw [this, ct_add hm h]
  rfl
theorem pp_0 (n : Nat) : pp n 0 = 0 := by
  unfold pp
  rw [ct_z (fun k _ => Nat.zero_testBit k)]
  rfl
theorem pp_2 {n m : Nat} (hm : m < n) : pp n (2 ^ m) = 1 := by
  have := pp_or (g := 0) hm (Nat.zero_testBit m)
  rw [Nat.zero_or, pp_0] at this
  exact this
theorem or_0 (g m : Nat) : g ||| 2 ^ m ≠ 0 := by
  intro z
  have := or_bit g m m
  rw [z] at this
  simp at this
section WA
variable {n T : Nat} {pl fee : Int} {wt : Nat → Int}
theorem GB_prize (hw : ∀ s, 0 ≤ wt s) {d g : Nat} (h : GB n T pl wt d g = true) : pp n g = pl - 1 ∧ g.testBit (wm n T d) = false := by
  unfold GB at h
  rw [Bool.and_eq_true, decide_eq_true_eq] at h
  obtain ⟨h1, h2⟩ := h
  refine ⟨?_, by simpa using h1⟩
  have := hw (wm n T d)
  by_cases c : pp n g = pl - 1
  · exact c
  · rw [if_neg c] at h2
    exfalso
    split at h2 <;> omega
/-- who has gone has it not -/
theorem HB_not (hw : ∀ s, 0 ≤ wt s) : ∀ (d g s : Nat), g.testBit s = true → HB n T pl wt d g ≠ (s : Int)
  | 0, g, s, _ => by show (-1 : Int) ≠ s; omega
  | d + 1, g, s, h => by
    rw [HB_s]
    by_cases c : GB n T pl wt d g = true
    · obtain ⟨p1, p2⟩ := GB_prize hw c
      rw [if_pos c, if_pos p1]
      intro z
      have : wm n T d = s := by omega
      rw [this, h] at p2
      cases p2
    · rw [if_neg c]
      exact HB_not hw d g s h
theorem HB_full (hw : ∀ s, 0 ≤ wt s) : ∀ (d g : Nat), pl ≤ pp n g → HB n T pl wt d g = -1
  | 0, g, _ => rfl
  | d + 1, g, h => by
    rw [HB_s]
    by_cases c : GB n T pl wt d g = true
    · have := (GB_prize hw c).1
      omega
    · rw [if_neg c]
      exact HB_full hw d g h
theorem wm_lt (hn : 0 < n) (d : Nat) : wm n T d < n := Nat.mod_lt _ hn
theorem VV_HB (hn : 0 < n) (hw : ∀ s, 0 ≤ wt s) : ∀ (d g s : Nat), g ≠ 0 → VV n T pl wt fee d g s = (if HB n T pl wt d g = (s : Int) then wt s else 0) ∧ VG n T pl wt fee d g = GB n T pl wt d g := by
  intro d
  have grd : ∀ d, (∀ g s : Nat, g ≠ 0 → VV n T pl wt fee d g s = (if HB n T pl wt d g = (s : Int) then wt s else 0)) → ∀ g, g ≠ 0 → VG n T pl wt fee d g = GB n T pl wt d g := by
    intro d ih g hg
    unfold VG GB vgo
    rw [ih g (wm n T d) hg, if_neg hg, Int.sub_zero]
    congr 2
    have : (pp n g + 1 = pl) = (pp n g = pl - 1) := by rw [eq_iff_iff]; omega
    simp only [this]
  have key : ∀ d, ∀ g s : Nat, g ≠ 0 → VV n T pl wt fee d g s = (if HB n T pl wt d g = (s : Int) then wt s else 0) := by
    intro d
    induction d with
    | zero =>
      intro g s hg
      rw [if_neg (by show ¬ (-1 : Int) = s; omega)]
      rfl
    | succ d ih =>
      intro g s hg
      rw [VV_s, HB_s, grd d ih g hg]
      by_cases c : GB n T pl wt d g = true
      · obtain ⟨p1, p2⟩ := GB_prize hw c
        rw [if_pos c, if_pos c, if_pos p1]
        by_cases e : s = wm n T d
        · rw [if_pos e, if_pos (by omega)]
          unfold vgo
          rw [if_pos (by omega), if_neg hg, e, Int.sub_zero]
        · rw [if_neg e, if_neg (by omega), ih _ s (or_0 _ _), HB_full hw _ _ (by rw [pp_or (wm_lt hn d) p2]; omega), if_neg (by omega)]
      · rw [if_neg c, if_neg c]
        exact ih g s hg
  exact fun g s hg => ⟨key d g s hg, grd d (key d) g hg⟩
theorem VV_FF (hn : 0 < n) (hw : ∀ s, 0 ≤ wt s) (hpl : 1 ≤ pl) : ∀ (d s : Nat), VV n T pl wt fee d 0 s = (if (FF n T pl wt fee d).2 = (s : Int) then wt s else 0) - (if (FF n T pl wt fee d).1 = (s : Int) then fee else 0) ∧ VG n T pl wt fee d 0 = GF n T pl wt fee d := by
  intro d
  have grd : ∀ d, (∀ s : Nat, VV n T pl wt fee d 0 s = (if (FF n T pl wt fee d).2 = (s : Int) then wt s else 0) - (if (FF n T pl wt fee d).1 = (s : Int) then fee else 0)) → VG n T pl wt fee d 0 = GF n T pl wt fee d := by
    intro d ih
    unfold VG GF vgo
    rw [ih (wm n T d), if_pos rfl, Nat.zero_testBit, pp_0]
    have : ((0 : Int) + 1 = pl) = (pl = 1) := by rw [eq_iff_iff]; omega
    simp only [this, Bool.not_false, Bool.true_and]
  have key : ∀ d, ∀ s : Nat, VV n T pl wt fee d 0 s = (if (FF n T pl wt fee d).2 = (s : Int) then wt s else 0) - (if (FF n T pl wt fee d).1 = (s : Int) then fee else 0) := by
    intro d
    induction d with
    | zero =>
      intro s
      have e : FF n T pl wt fee 0 = (-1, -1) := rfl
      rw [e, if_neg (by show ¬ (-1 : Int) = s; omega), if_neg (by show ¬ (-1 : Int) = s; omega)]
      rfl
    | succ d ih =>
      intro s
      rw [VV_s, FF_s, grd d ih]
      by_cases c : GF n T pl wt fee d = true
      · rw [if_pos c, if_pos c, Nat.zero_or]
        by_cases e : s = wm n T d
        · rw [if_pos e]
          show _ = (if (if pl = 1 then (wm n T d : Int) else HB n T pl wt d (2 ^ wm n T d)) = (s : Int) then wt s else 0) - (if (wm n T d : Int) = (s : Int) then fee else 0)
          unfold vgo
          rw [pp_0, if_pos rfl, e, if_pos (c := (wm n T d : Int) = (wm n T d : Int)) rfl]
          congr 1
          by_cases p : pl = 1
          · rw [if_pos (by omega), if_pos (by rw [if_pos p])]
          · have hb : (2 ^ wm n T d).testBit (wm n T d) = true := Nat.testBit_two_pow_self
            rw [if_neg (by omega), if_neg (by rw [if_neg p]; exact HB_not hw _ _ _ hb)]
        · rw [if_neg e]
          show _ = (if (if pl = 1 then (wm n T d : Int) else HB n T pl wt d (2 ^ wm n T d)) = (s : Int) then wt s else 0) - (if (wm n T d : Int) = (s : Int) then fee else 0)
          have h2 : 2 ^ wm n T d ≠ 0 := by have := or_0 0 (wm n T d); rw [Nat.zero_or] at this; exact this
          rw [if_neg (c := (wm n T d : Int) = (s : Int)) (by omega), (VV_HB (fee := fee) hn hw d _ s h2).1, Int.sub_zero]
          by_cases p : pl = 1
          · rw [if_pos p, if_neg (c := (wm n T d : Int) = (s : Int)) (by omega), HB_full hw _ _ (by rw [pp_2 (wm_lt hn d)]; omega), if_neg (by omega)]
          · rw [if_neg p]
      · rw [if_neg c, if_neg c]
        exact ih s
  exact fun s => ⟨key d s, grd d (key d)⟩
/-- does the mover go? -/
def GG (n T : Nat) (pl : Int) (wt : Nat → Int) (fee : Int) (d g : Nat) : Bool := if g = 0 then GF n T pl wt fee d else GB n T pl wt d g
theorem VG_GG (hn : 0 < n) (hw : ∀ s, 0 ≤ wt s) (hpl : 1 ≤ pl) (d g : Nat) : VG n T pl wt fee d g = GG n T pl wt fee d g := by
  unfold GG
  by_cases c : g = 0
  · rw [if_pos c, c]; exact (VV_FF hn hw hpl d 0).2
  · rw [if_neg c]; exact (VV_HB hn hw d g 0 c).2
theorem GG_not (hw : ∀ s, 0 ≤ wt s) {d g : Nat} (h : GG n T pl wt fee d g = true) : g.testBit (wm n T d) = false := by
  unfold GG at h
  by_cases c : g = 0
  · rw [c]; exact Nat.zero_testBit _
  · rw [if_neg c] at h
    exact (GB_prize hw h).2
/-- the turn of s, k turns before the end, if g have gone -/
def fw (n T : Nat) (pl : Int) (wt : Nat → Int) (fee : Int) (s : Nat) : Nat → Nat → Int
  | 0, _ => -1
  | k + 1, g => if GG n T pl wt fee k g = true then (if wm n T k = s then ((T - (k + 1) : Nat) : Int) else fw n T pl wt fee s k (g ||| 2 ^ wm n T k)) else fw n T pl wt fee s k g
theorem fw_s (s k g : Nat) : fw n T pl wt fee s (k + 1) g = if GG n T pl wt fee k g = true then (if wm n T k = s then ((T - (k + 1) : Nat) : Int) else fw n T pl wt fee s k (g ||| 2 ^ wm n T k)) else fw n T pl wt fee s k g := rfl
def zf (n T : Nat) (pl : Int) (wt : Nat → Int) (fee : Int) : Nat → Nat → Nat
  | 0, g => g
  | k + 1, g => if GG n T pl wt fee k g = true then zf n T pl wt fee k (g ||| 2 ^ wm n T k) else zf n T pl wt fee k g
theorem zf_s (k g : Nat) : zf n T pl wt fee (k + 1) g = if GG n T pl wt fee k g = true then zf n T pl wt fee k (g ||| 2 ^ wm n T k) else zf n T pl wt fee k g := rfl
theorem zf_has : ∀ (k g s : Nat), g.testBit s = true → (zf n T pl wt fee k g).testBit s = true
  | 0, g, s, h => h
  | k + 1, g, s, h => by
    rw [zf_s]
    split
    · exact zf_has k _ s (by rw [or_bit, h]; rfl)
    · exact zf_has k g s h
theorem fw_zf : ∀ (k g s : Nat), g.testBit s = false → (fw n T pl wt fee s k g ≠ -1 ↔ (zf n T pl wt fee k g).testBit s = true)
  | 0, g, s, h => ⟨fun z => absurd rfl z, fun z => by have z' : g.testBit s = true := z; rw [h] at z'; cases z'⟩
  | k + 1, g, s, h => by
    rw [fw_s, zf_s]
    by_cases c : GG n T pl wt fee k g = true
    · rw [if_pos c, if_pos c]
      by_cases e : wm n T k = s
      · rw [if_pos e]
        refine ⟨fun _ => zf_has k _ s (by rw [or_bit, e]; simp), fun _ => by omega⟩
      · rw [if_neg e]
        exact fw_zf k _ s (by rw [or_bit, h]; simp; exact fun z => e z.symm)
    · rw [if_neg c, if_neg c]
      exact fw_zf k g s h
theorem zf_HB (hn : 0 < n) (hw : ∀ s, 0 ≤ wt s) : ∀ (d g : Nat), g ≠ 0 → (pl ≤ pp n (zf n T pl wt fee d g) ↔ (HB n T pl wt d g ≠ -1 ∨ pl ≤ pp n g))
  | 0, g, _ => ⟨fun z => Or.inr z, fun z => z.elim (fun z => absurd rfl z) id⟩
  | d + 1, g, hg => by
    rw [zf_s, HB_s]
    have eg : GG n T pl wt fee d g = GB n T pl wt d g := by unfold GG; rw [if_neg hg]
    rw [eg]
    by_cases c : GB n T pl wt d g = true
    · obtain ⟨p1, p2⟩ := GB_prize hw c
      rw [if_pos c, if_pos c, if_pos p1, zf_HB hn hw d _ (or_0 _ _)]
      refine ⟨fun _ => Or.inl (by omega), fun _ => Or.inr ?_⟩
      rw [pp_or (wm_lt hn d) p2]
      omega
    · rw [if_neg c, if_neg c]
      exact zf_HB hn hw d g hg
theorem zf_FF (hn : 0 < n) (hw : ∀ s, 0 ≤ wt s) (hpl : 1 ≤ pl) : ∀ (d : Nat), (pl ≤ pp n (zf n T pl wt fee d 0) ↔ (FF n T pl wt fee d).2 ≠ -1)
  | 0 => by
    show pl ≤ pp n 0 ↔ _
    rw [pp_0]
    exact ⟨fun z => by omega, fun z => absurd rfl z⟩
  | d + 1 => by
    rw [zf_s, FF_s]
    have eg : GG n T pl wt fee d 0 = GF n T pl wt fee d := by unfold GG; rw [if_pos rfl]
    rw [eg]
    by_cases c : GF n T pl wt fee d = true
    · have h2 : 2 ^ wm n T d ≠ 0 := by have := or_0 0 (wm n T d); rw [Nat.zero_or] at this; exact this
      rw [if_pos c, if_pos c, Nat.zero_or, zf_HB hn hw d _ h2, pp_2 (wm_lt hn d)]
      show _ ↔ (if pl = 1 then (wm n T d : Int) else HB n T pl wt d (2 ^ wm n T d)) ≠ -1
      by_cases p : pl = 1
      · rw [if_pos p]
        exact ⟨fun _ => by omega, fun _ => Or.inr (by omega)⟩
      · rw [if_neg p]
        exact ⟨fun z => z.elim id (fun z => by omega), fun z => Or.inl z⟩
    · rw [if_neg c, if_neg c]
      exact zf_FF hn hw hpl d
/-- the greatest fee by which somebody has it in the end -/
def spr (n T : Nat) (pl : Int) (wt : Nat → Int) : Nat → Int
  | 0 => -1000000
  | k + 1 => if (FF n T pl wt ((k : Int) - 99) T).2 ≠ -1 then (k : Int) - 99 else spr n T pl wt k
theorem spr_s (k : Nat) : spr n T pl wt (k + 1) = if (FF n T pl wt ((k : Int) - 99) T).2 ≠ -1 then (k : Int) - 99 else spr n T pl wt k := rfl
end WA
