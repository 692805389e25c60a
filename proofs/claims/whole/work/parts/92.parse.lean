/-! ===== pure: a rule as a text: where it ends, its codes, what it means ===== -/
abbrev Dn := (Nat → Int) → Int
abbrev Rz := Bool × Nat × List Int × Dn
def dz : Dn := fun _ => 0
def clm (x : Int) : Int := if x < -1000000 then -1000000 else if 1000000 < x then 1000000 else x
def opv (c : Nat) (x y : Int) : Int :=
  if c = 43 then clm (x + y) else if c = 45 then clm (x - y) else if c = 42 then clm (x * y) else if c = 47 then (if y = 0 then 0 else clm (Int.tdiv x y))
  else if c = 61 then (if x = y then 1 else 0) else if c = 60 then (if x < y then 1 else 0) else if c = 62 then (if y < x then 1 else 0)
  else if c = 38 then (if x = 0 then 0 else if y = 0 then 0 else 1) else (if x = 0 then (if y = 0 then 0 else 1) else 1)
def opd (c : Nat) (s t : Dn) : Dn := fun L => opv c (s L) (t L)
def isM (c : Nat) : Bool := decide (c = 42 ∨ c = 47)
def isA (c : Nat) : Bool := decide (c = 43 ∨ c = 45)
def isN (c : Nat) : Bool := decide (c = 38)
def isO (c : Nat) : Bool := decide (c = 124)
def isC (c : Nat) : Bool := decide (c = 61 ∨ c = 60 ∨ c = 62)
/-- a failure at a place -/
def no_ (p : Nat) : Rz := (false, p, [], dz)
/-- what tight signs join -/
def trr (tp : List Nat) (isT : Nat → Bool) (pa : Nat → Rz) : Nat → Nat → Dn → Rz
  | 0, p, t => (true, sk tp p, [], t)
  | f + 1, p, t =>
    if isT (gb tp (sk tp p)) = true then
      (if (pa (sk tp p + 1)).1 = false then no_ (pa (sk tp p + 1)).2.1
      else ((trr tp isT pa f (pa (sk tp p + 1)).2.1 (opd (gb tp (sk tp p)) t (pa (sk tp p + 1)).2.2.2)).1, (trr tp isT pa f (pa (sk tp p + 1)).2.1 (opd (gb tp (sk tp p)) t (pa (sk tp p + 1)).2.2.2)).2.1, (pa (sk tp p + 1)).2.2.1 ++ (-(gb tp (sk tp p) : Int)) :: (trr tp isT pa f (pa (sk tp p + 1)).2.1 (opd (gb tp (sk tp p)) t (pa (sk tp p + 1)).2.2.2)).2.2.1, (trr tp isT pa f (pa (sk tp p + 1)).2.1 (opd (gb tp (sk tp p)) t (pa (sk tp p + 1)).2.2.2)).2.2.2))
    else (true, sk tp p, [], t)
theorem trr_y {tp : List Nat} {isT : Nat → Bool} {pa : Nat → Rz} {f p : Nat} {t : Dn} (h : isT (gb tp (sk tp p)) = true) (h1 : (pa (sk tp p + 1)).1 = true) : trr tp isT pa (f + 1) p t = ((trr tp isT pa f (pa (sk tp p + 1)).2.1 (opd (gb tp (sk tp p)) t (pa (sk tp p + 1)).2.2.2)).1, (trr tp isT pa f (pa (sk tp p + 1)).2.1 (opd (gb tp (sk tp p)) t (pa (sk tp p + 1)).2.2.2)).2.1, (pa (sk tp p + 1)).2.2.1 ++ (-(gb tp (sk tp p) : Int)) :: (trr tp isT pa f (pa (sk tp p + 1)).2.1 (opd (gb tp (sk tp p)) t (pa (sk tp p + 1)).2.2.2)).2.2.1, (trr tp isT pa f (pa (sk tp p + 1)).2.1 (opd (gb tp (sk tp p)) t (pa (sk tp p + 1)).2.2.2)).2.2.2) := by
  rw [trr, if_pos h, if_neg (by rw [h1]; decide)]
theorem trr_f {tp : List Nat} {isT : Nat → Bool} {pa : Nat → Rz} {f p : Nat} {t : Dn} (h : isT (gb tp (sk tp p)) = true) (h1 : (pa (sk tp p + 1)).1 = false) : trr tp isT pa (f + 1) p t = no_ (pa (sk tp p + 1)).2.1 := by
  rw [trr, if_pos h, if_pos h1]
theorem trr_n {tp : List Nat} {isT : Nat → Bool} {pa : Nat → Rz} {f p : Nat} {t : Dn} (h : isT (gb tp (sk tp p)) = false) : trr tp isT pa f p t = (true, sk tp p, [], t) := by
  cases f with
  | zero => rfl
  | succ f => rw [trr, if_neg (by rw [h]; decide)]
/-- what loose signs join -/
def srr (tp : List Nat) (isT isL : Nat → Bool) (pa : Nat → Rz) : Nat → Nat → Dn → Rz
  | 0, p, s => (true, sk tp p, [], s)
  | f + 1, p, s =>
    if isL (gb tp (sk tp p)) = true then
      (if (pa (sk tp p + 1)).1 = false then no_ (pa (sk tp p + 1)).2.1
      else if (trr tp isT pa (tp.length + 1) (pa (sk tp p + 1)).2.1 (pa (sk tp p + 1)).2.2.2).1 = false then no_ (trr tp isT pa (tp.length + 1) (pa (sk tp p + 1)).2.1 (pa (sk tp p + 1)).2.2.2).2.1
      else ((srr tp isT isL pa f (trr tp isT pa (tp.length + 1) (pa (sk tp p + 1)).2.1 (pa (sk tp p + 1)).2.2.2).2.1 (opd (gb tp (sk tp p)) s (trr tp isT pa (tp.length + 1) (pa (sk tp p + 1)).2.1 (pa (sk tp p + 1)).2.2.2).2.2.2)).1, (srr tp isT isL pa f (trr tp isT pa (tp.length + 1) (pa (sk tp p + 1)).2.1 (pa (sk tp p + 1)).2.2.2).2.1 (opd (gb tp (sk tp p)) s (trr tp isT pa (tp.length + 1) (pa (sk tp p + 1)).2.1 (pa (sk tp p + 1)).2.2.2).2.2.2)).2.1, (pa (sk tp p + 1)).2.2.1 ++ ((trr tp isT pa (tp.length + 1) (pa (sk tp p + 1)).2.1 (pa (sk tp p + 1)).2.2.2).2.2.1 ++ (-(gb tp (sk tp p) : Int)) :: (srr tp isT isL pa f (trr tp isT pa (tp.length + 1) (pa (sk tp p + 1)).2.1 (pa (sk tp p + 1)).2.2.2).2.1 (opd (gb tp (sk tp p)) s (trr tp isT pa (tp.length + 1) (pa (sk tp p + 1)).2.1 (pa (sk tp p + 1)).2.2.2).2.2.2)).2.2.1), (srr tp isT isL pa f (trr tp isT pa (tp.length + 1) (pa (sk tp p + 1)).2.1 (pa (sk tp p + 1)).2.2.2).2.1 (opd (gb tp (sk tp p)) s (trr tp isT pa (tp.length + 1) (pa (sk tp p + 1)).2.1 (pa (sk tp p + 1)).2.2.2).2.2.2)).2.2.2))
    else (true, sk tp p, [], s)
theorem srr_n {tp : List Nat} {isT isL : Nat → Bool} {pa : Nat → Rz} {f p : Nat} {s : Dn} (h : isL (gb tp (sk tp p)) = false) : srr tp isT isL pa f p s = (true, sk tp p, [], s) := by
  cases f with
  | zero => rfl
  | succ f => rw [srr, if_neg (by rw [h]; decide)]
theorem srr_f {tp : List Nat} {isT isL : Nat → Bool} {pa : Nat → Rz} {f p : Nat} {s : Dn} (h : isL (gb tp (sk tp p)) = true) (h1 : (pa (sk tp p + 1)).1 = false) : srr tp isT isL pa (f + 1) p s = no_ (pa (sk tp p + 1)).2.1 := by
  rw [srr, if_pos h, if_pos h1]
theorem srr_g {tp : List Nat} {isT isL : Nat → Bool} {pa : Nat → Rz} {f p : Nat} {s : Dn} (h : isL (gb tp (sk tp p)) = true) {A T : Rz} (hA : pa (sk tp p + 1) = A) (h1 : A.1 = true) (hT : trr tp isT pa (tp.length + 1) A.2.1 A.2.2.2 = T) (h2 : T.1 = false) : srr tp isT isL pa (f + 1) p s = no_ T.2.1 := by
  subst hA
  subst hT
  rw [srr, if_pos h, if_neg (by rw [h1]; decide), if_pos h2]
theorem srr_y {tp : List Nat} {isT isL : Nat → Bool} {pa : Nat → Rz} {f p : Nat} {s : Dn} (h : isL (gb tp (sk tp p)) = true) {A T U : Rz} (hA : pa (sk tp p + 1) = A) (h1 : A.1 = true) (hT : trr tp isT pa (tp.length + 1) A.2.1 A.2.2.2 = T) (h2 : T.1 = true) (hU : srr tp isT isL pa f T.2.1 (opd (gb tp (sk tp p)) s T.2.2.2) = U) : srr tp isT isL pa (f + 1) p s = (U.1, U.2.1, A.2.2.1 ++ (T.2.2.1 ++ (-(gb tp (sk tp p) : Int)) :: U.2.2.1), U.2.2.2) := by
  subst hA
  subst hT
  subst hU
  rw [srr, if_pos h, if_neg (by rw [h1]; decide), if_neg (by rw [h2]; decide)]
/-- a chain, its first link read -/
def chn (tp : List Nat) (isT isL : Nat → Bool) (pa : Nat → Rz) (A : Rz) : Rz :=
  if A.1 = false then no_ A.2.1
  else if (trr tp isT pa (tp.length + 1) A.2.1 A.2.2.2).1 = false then no_ (trr tp isT pa (tp.length + 1) A.2.1 A.2.2.2).2.1
  else ((srr tp isT isL pa (tp.length + 1) (trr tp isT pa (tp.length + 1) A.2.1 A.2.2.2).2.1 (trr tp isT pa (tp.length + 1) A.2.1 A.2.2.2).2.2.2).1, (srr tp isT isL pa (tp.length + 1) (trr tp isT pa (tp.length + 1) A.2.1 A.2.2.2).2.1 (trr tp isT pa (tp.length + 1) A.2.1 A.2.2.2).2.2.2).2.1, A.2.2.1 ++ ((trr tp isT pa (tp.length + 1) A.2.1 A.2.2.2).2.2.1 ++ (srr tp isT isL pa (tp.length + 1) (trr tp isT pa (tp.length + 1) A.2.1 A.2.2.2).2.1 (trr tp isT pa (tp.length + 1) A.2.1 A.2.2.2).2.2.2).2.2.1), (srr tp isT isL pa (tp.length + 1) (trr tp isT pa (tp.length + 1) A.2.1 A.2.2.2).2.1 (trr tp isT pa (tp.length + 1) A.2.1 A.2.2.2).2.2.2).2.2.2)
theorem chn_f {tp : List Nat} {isT isL : Nat → Bool} {pa : Nat → Rz} {A : Rz} (h : A.1 = false) : chn tp isT isL pa A = no_ A.2.1 := by
  unfold chn
  rw [if_pos h]
theorem chn_g {tp : List Nat} {isT isL : Nat → Bool} {pa : Nat → Rz} {A T : Rz} (h : A.1 = true) (hT : trr tp isT pa (tp.length + 1) A.2.1 A.2.2.2 = T) (h2 : T.1 = false) : chn tp isT isL pa A = no_ T.2.1 := by
  subst hT
  unfold chn
  rw [if_neg (by rw [h]; decide), if_pos h2]
theorem chn_y {tp : List Nat} {isT isL : Nat → Bool} {pa : Nat → Rz} {A T U : Rz} (h : A.1 = true) (hT : trr tp isT pa (tp.length + 1) A.2.1 A.2.2.2 = T) (h2 : T.1 = true) (hU : srr tp isT isL pa (tp.length + 1) T.2.1 T.2.2.2 = U) : chn tp isT isL pa A = (U.1, U.2.1, A.2.2.1 ++ (T.2.2.1 ++ U.2.2.1), U.2.2.2) := by
  subst hT
  subst hU
  unfold chn
  rw [if_neg (by rw [h]; decide), if_neg (by rw [h2]; decide)]
/-- an atom; sub: what may stand in brackets -/
def patm (tp : List Nat) (sub : Option (Nat → Rz)) (p : Nat) : Rz :=
  if gb tp (sk tp p) = 91 then
    (match sub with
    | none => no_ (sk tp p)
    | some s => if (s (sk tp p + 1)).1 = false then no_ (s (sk tp p + 1)).2.1
      else if gb tp (sk tp (s (sk tp p + 1)).2.1) = 93 then (true, sk tp (s (sk tp p + 1)).2.1 + 1, (s (sk tp p + 1)).2.2.1, (s (sk tp p + 1)).2.2.2)
      else no_ (sk tp (s (sk tp p + 1)).2.1))
  else if fi T6 (gb tp (sk tp p)) 6 0 = -1 then
    (if (nmb tp 4 false 0 (sk tp p)).1 = -1 then no_ (nmb tp 4 false 0 (sk tp p)).2 else (true, (nmb tp 4 false 0 (sk tp p)).2, [(nmb tp 4 false 0 (sk tp p)).1], fun _ => (nmb tp 4 false 0 (sk tp p)).1))
  else (true, sk tp p + 1, [-1 - fi T6 (gb tp (sk tp p)) 6 0], fun L => L (fi T6 (gb tp (sk tp p)) 6 0).toNat)
/-- a sum, with so many levels of brackets left -/
def psm (tp : List Nat) : Nat → Nat → Rz
  | 0, p => chn tp isM isA (patm tp none) (patm tp none p)
  | d + 1, p => chn tp isM isA (patm tp (some (psm tp d))) (patm tp (some (psm tp d)) p)
def atd (tp : List Nat) : Nat → Nat → Rz
  | 0 => patm tp none
  | d + 1 => patm tp (some (psm tp d))
theorem psm_e (tp : List Nat) (d p : Nat) : psm tp d p = chn tp isM isA (atd tp d) (atd tp d p) := by cases d <;> rfl
/-- a comparison, its first sum read -/
def cmp (tp : List Nat) (d : Nat) (A : Rz) : Rz :=
  if A.1 = false then no_ A.2.1
  else if isC (gb tp (sk tp A.2.1)) = false then no_ (sk tp A.2.1)
  else if (psm tp d (sk tp A.2.1 + 1)).1 = false then no_ (psm tp d (sk tp A.2.1 + 1)).2.1
  else (true, (psm tp d (sk tp A.2.1 + 1)).2.1, A.2.2.1 ++ ((psm tp d (sk tp A.2.1 + 1)).2.2.1 ++ [-(gb tp (sk tp A.2.1) : Int)]), opd (gb tp (sk tp A.2.1)) A.2.2.2 (psm tp d (sk tp A.2.1 + 1)).2.2.2)
def punit (tp : List Nat) (d : Nat) (sub : Option ((Nat → Rz) × (Nat → Rz))) (p : Nat) : Rz :=
  if gb tp (sk tp p) = 33 then
    (match sub with
    | none => no_ (sk tp p)
    | some s => if (s.1 (sk tp p + 1)).1 = false then no_ (s.1 (sk tp p + 1)).2.1 else (true, (s.1 (sk tp p + 1)).2.1, (s.1 (sk tp p + 1)).2.2.1 ++ [-33], fun L => 1 - (s.1 (sk tp p + 1)).2.2.2 L))
  else if gb tp (sk tp p) = 40 then
    (match sub with
    | none => no_ (sk tp p)
    | some s => if (s.2 (sk tp p + 1)).1 = false then no_ (s.2 (sk tp p + 1)).2.1
      else if gb tp (sk tp (s.2 (sk tp p + 1)).2.1) = 41 then (true, sk tp (s.2 (sk tp p + 1)).2.1 + 1, (s.2 (sk tp p + 1)).2.2.1, (s.2 (sk tp p + 1)).2.2.2)
      else no_ (sk tp (s.2 (sk tp p + 1)).2.1))
  else cmp tp d (psm tp d (sk tp p))
def pun (tp : List Nat) : Nat → Nat → Rz
  | 0, p => punit tp 0 none p
  | d + 1, p => punit tp (d + 1) (some (pun tp d, fun q => chn tp isN isO (pun tp d) (pun tp d q))) p
/-- a condition -/
def pcd (tp : List Nat) (d p : Nat) : Rz := chn tp isN isO (pun tp d) (pun tp d p)
/-! places and lengths -/
def okr_ (tp : List Nat) (p : Nat) (R : Rz) : Prop := p ≤ R.2.1 ∧ R.2.1 ≤ tp.length ∧ (R.1 = true → R.2.2.1.length + p ≤ R.2.1)
def okps (tp : List Nat) (pa : Nat → Rz) : Prop := ∀ p, p ≤ tp.length → okr_ tp p (pa p) ∧ ((pa p).1 = true → p < (pa p).2.1)
section PP
variable {tp : List Nat} {isT isL : Nat → Bool} {pa : Nat → Rz}
theorem okr_no {p q : Nat} (h1 : p ≤ q) (h2 : q ≤ tp.length) : okr_ tp p (no_ q) := ⟨h1, h2, fun z => Bool.noConfusion (show false = true from z)⟩
theorem okr_ty {p : Nat} {t : Dn} (hp : p ≤ tp.length) : okr_ tp p (true, sk tp p, [], t) := by
  have := sk_le hp
  exact ⟨this.1, this.2, fun _ => show 0 + p ≤ sk tp p by omega⟩
theorem isT_lt (h0 : isT 0 = false) {q : Nat} (h : isT (gb tp q) = true) : q < tp.length := by
  rcases Nat.lt_or_ge q tp.length with z | z
  · exact z
  · rw [gb_out z, h0] at h
    cases h
theorem trr_p (h0 : isT 0 = false) (hpa : okps tp pa) : ∀ (f p : Nat) (t : Dn), p ≤ tp.length → okr_ tp p (trr tp isT pa f p t)
  | 0, p, t, hp => okr_ty hp
  | f + 1, p, t, hp => by
    have hs := sk_le hp
    cases h : isT (gb tp (sk tp p)) with
    | false => rw [trr_n h]; exact okr_ty hp
    | true =>
      have hl := isT_lt h0 h
      obtain ⟨⟨a1, a2, a3⟩, a4⟩ := hpa (sk tp p + 1) (by omega)
      cases h1 : (pa (sk tp p + 1)).1 with
      | false => rw [trr_f h h1]; exact okr_no (by omega) a2
      | true =>
        have b := trr_p h0 hpa f (pa (sk tp p + 1)).2.1 (opd (gb tp (sk tp p)) t (pa (sk tp p + 1)).2.2.2) a2
        have c3 := a3 h1
        rw [trr_y h h1]
        generalize trr tp isT pa f (pa (sk tp p + 1)).2.1 (opd (gb tp (sk tp p)) t (pa (sk tp p + 1)).2.2.2) = T at b ⊢
        obtain ⟨b1, b2, b3⟩ := b
        refine ⟨show p ≤ T.2.1 by omega, b2, fun z => ?_⟩
        have b4 := b3 z
        show ((pa (sk tp p + 1)).2.2.1 ++ (-(gb tp (sk tp p) : Int)) :: T.2.2.1).length + p ≤ T.2.1
        rw [List.length_append, List.length_cons]
        omega
theorem srr_p (h0 : isT 0 = false) (h0' : isL 0 = false) (hpa : okps tp pa) : ∀ (f p : Nat) (s : Dn), p ≤ tp.length → okr_ tp p (srr tp isT isL pa f p s)
  | 0, p, s, hp => okr_ty hp
  | f + 1, p, s, hp => by
    have hs := sk_le hp
    cases h : isL (gb tp (sk tp p)) with
    | false => rw [srr_n h]; exact okr_ty hp
    | true =>
      have hl := isT_lt h0' h
      obtain ⟨⟨a1, a2, a3⟩, a4⟩ := hpa (sk tp p + 1) (by omega)
      cases h1 : (pa (sk tp p + 1)).1 with
      | false => rw [srr_f h h1]; exact okr_no (by omega) a2
      | true =>
        have c3 := a3 h1
        have b := trr_p h0 hpa (tp.length + 1) (pa (sk tp p + 1)).2.1 (pa (sk tp p + 1)).2.2.2 a2
        obtain ⟨T, hT⟩ : ∃ T, trr tp isT pa (tp.length + 1) (pa (sk tp p + 1)).2.1 (pa (sk tp p + 1)).2.2.2 = T := ⟨_, rfl⟩
        rw [hT] at b
        obtain ⟨b1, b2, b3⟩ := b
        cases h2 : T.1 with
        | false => rw [srr_g h rfl h1 hT h2]; exact okr_no (by omega) b2
        | true =>
          have b4 := b3 h2
          have u := srr_p h0 h0' hpa f T.2.1 (opd (gb tp (sk tp p)) s T.2.2.2) b2
          obtain ⟨U, hU⟩ : ∃ U, srr tp isT isL pa f T.2.1 (opd (gb tp (sk tp p)) s T.2.2.2) = U := ⟨_, rfl⟩
          rw [hU] at u
          obtain ⟨u1, u2, u3⟩ := u
          rw [srr_y h rfl h1 hT h2 hU]
          refine ⟨show p ≤ U.2.1 by omega, u2, fun z => ?_⟩
          have u4 := u3 z
          show ((pa (sk tp p + 1)).2.2.1 ++ (T.2.2.1 ++ (-(gb tp (sk tp p) : Int)) :: U.2.2.1)).length + p ≤ U.2.1
          rw [List.length_append, List.length_append, List.length_cons]
          omega
theorem chn_p (h0 : isT 0 = false) (h0' : isL 0 = false) (hpa : okps tp pa) {A : Rz} {p : Nat} (hA : okr_ tp p A) : okr_ tp p (chn tp isT isL pa A) ∧ ((chn tp isT isL pa A).1 = true → A.1 = true ∧ A.2.1 ≤ (chn tp isT isL pa A).2.1) := by
  obtain ⟨a1, a2, a3⟩ := hA
  cases h1 : A.1 with
  | false =>
    rw [chn_f h1]
    exact ⟨okr_no a1 a2, fun z => Bool.noConfusion (show false = true from z)⟩
  | true =>
    have c3 := a3 h1
    obtain ⟨T, hT⟩ : ∃ T, trr tp isT pa (tp.length + 1) A.2.1 A.2.2.2 = T := ⟨_, rfl⟩
    have b := trr_p h0 hpa (tp.length + 1) A.2.1 A.2.2.2 a2
    rw [hT] at b
    obtain ⟨b1, b2, b3⟩ := b
    cases h2 : T.1 with
    | false =>
      rw [chn_g h1 hT h2]
      exact ⟨okr_no (by omega) b2, fun z => Bool.noConfusion (show false = true from z)⟩
    | true =>
      have b4 := b3 h2
      obtain ⟨U, hU⟩ : ∃ U, srr tp isT isL pa (tp.length + 1) T.2.1 T.2.2.2 = U := ⟨_, rfl⟩
      have u := srr_p h0 h0' hpa (tp.length + 1) T.2.1 T.2.2.2 b2
      rw [hU] at u
      obtain ⟨u1, u2, u3⟩ := u
      rw [chn_y h1 hT h2 hU]
      refine ⟨⟨show p ≤ U.2.1 by omega, u2, fun z => ?_⟩, fun _ => ⟨rfl, show A.2.1 ≤ U.2.1 by omega⟩⟩
      have u4 := u3 z
      show (A.2.2.1 ++ (T.2.2.1 ++ U.2.2.1)).length + p ≤ U.2.1
      rw [List.length_append, List.length_append]
      omega
theorem nmb4_p {q : Nat} (h : (nmb tp 4 false 0 q).1 ≠ -1) : q < (nmb tp 4 false 0 q).2 := by
  by_cases c : isd tp q = true
  · rw [nmb_s, if_pos c]
    have := nmb_p (tp := tp) 3 true (0 * 10 + (gb tp q : Int) - 48) (q + 1) (isd_lt c)
    omega
  · rw [nmb_s, if_neg c] at h
    exact absurd rfl h
theorem patm_p {sub : Option (Nat → Rz)} (hs : ∀ s, sub = some s → okps tp s) : okps tp (patm tp sub) := by
  intro p hp
  have hk := sk_le hp
  unfold patm
  by_cases c1 : gb tp (sk tp p) = 91
  · have hl : sk tp p < tp.length := gb_lt c1 (by decide)
    rw [if_pos c1]
    cases sub with
    | none => exact ⟨okr_no hk.1 hk.2, fun z => Bool.noConfusion (show false = true from z)⟩
    | some s =>
      obtain ⟨⟨a1, a2, a3⟩, a4⟩ := hs s rfl (sk tp p + 1) (by omega)
      show okr_ tp p (if (s (sk tp p + 1)).1 = false then no_ (s (sk tp p + 1)).2.1 else if gb tp (sk tp (s (sk tp p + 1)).2.1) = 93 then (true, sk tp (s (sk tp p + 1)).2.1 + 1, (s (sk tp p + 1)).2.2.1, (s (sk tp p + 1)).2.2.2) else no_ (sk tp (s (sk tp p + 1)).2.1)) ∧ ((if (s (sk tp p + 1)).1 = false then no_ (s (sk tp p + 1)).2.1 else if gb tp (sk tp (s (sk tp p + 1)).2.1) = 93 then (true, sk tp (s (sk tp p + 1)).2.1 + 1, (s (sk tp p + 1)).2.2.1, (s (sk tp p + 1)).2.2.2) else no_ (sk tp (s (sk tp p + 1)).2.1)).1 = true → p < (if (s (sk tp p + 1)).1 = false then no_ (s (sk tp p + 1)).2.1 else if gb tp (sk tp (s (sk tp p + 1)).2.1) = 93 then (true, sk tp (s (sk tp p + 1)).2.1 + 1, (s (sk tp p + 1)).2.2.1, (s (sk tp p + 1)).2.2.2) else no_ (sk tp (s (sk tp p + 1)).2.1)).2.1)
      generalize s (sk tp p + 1) = R at a1 a2 a3 a4 ⊢
      have hk2 := sk_le a2
      cases h1 : R.1 with
      | false =>
        rw [if_pos rfl]
        exact ⟨okr_no (by omega) a2, fun z => Bool.noConfusion (show false = true from z)⟩
      | true =>
        have c3 := a3 h1
        rw [if_neg (by decide)]
        by_cases c2 : gb tp (sk tp R.2.1) = 93
        · have hl2 : sk tp R.2.1 < tp.length := gb_lt c2 (by decide)
          rw [if_pos c2]
          exact ⟨⟨show p ≤ sk tp R.2.1 + 1 by omega, show sk tp R.2.1 + 1 ≤ tp.length by omega, fun _ => show R.2.2.1.length + p ≤ sk tp R.2.1 + 1 by omega⟩, fun _ => show p < sk tp R.2.1 + 1 by omega⟩
        · rw [if_neg c2]
          exact ⟨okr_no (by omega) hk2.2, fun z => Bool.noConfusion (show false = true from z)⟩
  · rw [if_neg c1]
    by_cases c2 : fi T6 (gb tp (sk tp p)) 6 0 = -1
    · rw [if_pos c2]
      have hn := nmb_p (tp := tp) 4 false 0 (sk tp p) hk.2
      by_cases c3 : (nmb tp 4 false 0 (sk tp p)).1 = -1
      · rw [if_pos c3]
        exact ⟨okr_no (by omega) hn.2, fun z => Bool.noConfusion (show false = true from z)⟩
      · have := nmb4_p c3
        rw [if_neg c3]
        exact ⟨⟨show p ≤ (nmb tp 4 false 0 (sk tp p)).2 by omega, hn.2, fun _ => show 1 + p ≤ (nmb tp 4 false 0 (sk tp p)).2 by omega⟩, fun _ => show p < (nmb tp 4 false 0 (sk tp p)).2 by omega⟩
    · rw [if_neg c2]
      rcases fi_r T6 (gb tp (sk tp p)) 6 0 with q | ⟨k, -, k2, k3, k4⟩
      · exact absurd q c2
      · have kpos : ∀ k : Nat, k < 6 → 1 ≤ T6.getD k 0 := by decide
        have hk1 := kpos k (by omega)
        have hql : sk tp p < tp.length := gb_lt rfl (by omega)
        exact ⟨⟨show p ≤ sk tp p + 1 by omega, show sk tp p + 1 ≤ tp.length by omega, fun _ => show 1 + p ≤ sk tp p + 1 by omega⟩, fun _ => show p < sk tp p + 1 by omega⟩
theorem isM0 : isM 0 = false := by decide
theorem isA0 : isA 0 = false := by decide
theorem isN0 : isN 0 = false := by decide
theorem isO0 : isO 0 = false := by decide
theorem isC0 : isC 0 = false := by decide
theorem psm_at_p : ∀ d, okps tp (atd tp d) ∧ okps tp (psm tp d)
  | 0 => by
    have ha : okps tp (atd tp 0) := patm_p (fun s h => by cases h)
    refine ⟨ha, fun p hp => ?_⟩
    rw [psm_e]
    have := chn_p isM0 isA0 ha (ha p hp).1
    exact ⟨this.1, fun z => by have h1 := this.2 z; have h2 := (ha p hp).2 h1.1; omega⟩
  | d + 1 => by
    have ih := psm_at_p d
    have ha : okps tp (atd tp (d + 1)) := patm_p (fun s h => by cases h; exact ih.2)
    refine ⟨ha, fun p hp => ?_⟩
    rw [psm_e]
    have := chn_p isM0 isA0 ha (ha p hp).1
    exact ⟨this.1, fun z => by have h1 := this.2 z; have h2 := (ha p hp).2 h1.1; omega⟩
theorem cmp_p {d p : Nat} {A : Rz} (hA : okr_ tp p A) : okr_ tp p (cmp tp d A) ∧ ((cmp tp d A).1 = true → p < (cmp tp d A).2.1) := by
  obtain ⟨a1, a2, a3⟩ := hA
  have hk := sk_le a2
  unfold cmp
  cases h1 : A.1 with
  | false =>
    rw [if_pos rfl]
    exact ⟨okr_no a1 a2, fun z => Bool.noConfusion (show false = true from z)⟩
  | true =>
    have c3 := a3 h1
    rw [if_neg (by decide)]
    cases h2 : isC (gb tp (sk tp A.2.1)) with
    | false =>
      rw [if_pos rfl]
      exact ⟨okr_no (by omega) hk.2, fun z => Bool.noConfusion (show false = true from z)⟩
    | true =>
      have hl := isT_lt isC0 h2
      obtain ⟨⟨b1, b2, b3⟩, b4⟩ := (psm_at_p (tp := tp) d).2 (sk tp A.2.1 + 1) (by omega)
      rw [if_neg (by decide)]
      generalize psm tp d (sk tp A.2.1 + 1) = B at b1 b2 b3 b4 ⊢
      cases h3 : B.1 with
      | false =>
        rw [if_pos rfl]
        exact ⟨okr_no (by omega) b2, fun z => Bool.noConfusion (show false = true from z)⟩
      | true =>
        have b5 := b3 h3
        rw [if_neg (by decide)]
        refine ⟨⟨show p ≤ B.2.1 by omega, b2, fun _ => ?_⟩, fun _ => show p < B.2.1 by omega⟩
        show (A.2.2.1 ++ (B.2.2.1 ++ [-(gb tp (sk tp A.2.1) : Int)])).length + p ≤ B.2.1
        rw [List.length_append, List.length_append, List.length_singleton]
        omega
theorem punit_p {d : Nat} {sub : Option ((Nat → Rz) × (Nat → Rz))} (hs : ∀ s, sub = some s → okps tp s.1 ∧ okps tp s.2) : okps tp (punit tp d sub) := by
  intro p hp
  have hk := sk_le hp
  unfold punit
  by_cases c1 : gb tp (sk tp p) = 33
  · have hl : sk tp p < tp.length := gb_lt c1 (by decide)
    rw [if_pos c1]
    cases sub with
    | none => exact ⟨okr_no hk.1 hk.2, fun z => Bool.noConfusion (show false = true from z)⟩
    | some s =>
      obtain ⟨⟨a1, a2, a3⟩, a4⟩ := (hs s rfl).1 (sk tp p + 1) (by omega)
      show okr_ tp p (if (s.1 (sk tp p + 1)).1 = false then no_ (s.1 (sk tp p + 1)).2.1 else (true, (s.1 (sk tp p + 1)).2.1, (s.1 (sk tp p + 1)).2.2.1 ++ [-33], fun L => 1 - (s.1 (sk tp p + 1)).2.2.2 L)) ∧ ((if (s.1 (sk tp p + 1)).1 = false then no_ (s.1 (sk tp p + 1)).2.1 else (true, (s.1 (sk tp p + 1)).2.1, (s.1 (sk tp p + 1)).2.2.1 ++ [-33], fun L => 1 - (s.1 (sk tp p + 1)).2.2.2 L)).1 = true → p < (if (s.1 (sk tp p + 1)).1 = false then no_ (s.1 (sk tp p + 1)).2.1 else (true, (s.1 (sk tp p + 1)).2.1, (s.1 (sk tp p + 1)).2.2.1 ++ [-33], fun L => 1 - (s.1 (sk tp p + 1)).2.2.2 L)).2.1)
      generalize s.1 (sk tp p + 1) = R at a1 a2 a3 a4 ⊢
      cases h1 : R.1 with
      | false =>
        rw [if_pos rfl]
        exact ⟨okr_no (by omega) a2, fun z => Bool.noConfusion (show false = true from z)⟩
      | true =>
        have c3 := a3 h1
        rw [if_neg (by decide)]
        refine ⟨⟨show p ≤ R.2.1 by omega, a2, fun _ => ?_⟩, fun _ => show p < R.2.1 by omega⟩
        show (R.2.2.1 ++ [-33]).length + p ≤ R.2.1
        rw [List.length_append, List.length_singleton]
        omega
  · rw [if_neg c1]
    by_cases c2 : gb tp (sk tp p) = 40
    · have hl : sk tp p < tp.length := gb_lt c2 (by decide)
      rw [if_pos c2]
      cases sub with
      | none => exact ⟨okr_no hk.1 hk.2, fun z => Bool.noConfusion (show false = true from z)⟩
      | some s =>
        obtain ⟨⟨a1, a2, a3⟩, a4⟩ := (hs s rfl).2 (sk tp p + 1) (by omega)
        show okr_ tp p (if (s.2 (sk tp p + 1)).1 = false then no_ (s.2 (sk tp p + 1)).2.1 else if gb tp (sk tp (s.2 (sk tp p + 1)).2.1) = 41 then (true, sk tp (s.2 (sk tp p + 1)).2.1 + 1, (s.2 (sk tp p + 1)).2.2.1, (s.2 (sk tp p + 1)).2.2.2) else no_ (sk tp (s.2 (sk tp p + 1)).2.1)) ∧ ((if (s.2 (sk tp p + 1)).1 = false then no_ (s.2 (sk tp p + 1)).2.1 else if gb tp (sk tp (s.2 (sk tp p + 1)).2.1) = 41 then (true, sk tp (s.2 (sk tp p + 1)).2.1 + 1, (s.2 (sk tp p + 1)).2.2.1, (s.2 (sk tp p + 1)).2.2.2) else no_ (sk tp (s.2 (sk tp p + 1)).2.1)).1 = true → p < (if (s.2 (sk tp p + 1)).1 = false then no_ (s.2 (sk tp p + 1)).2.1 else if gb tp (sk tp (s.2 (sk tp p + 1)).2.1) = 41 then (true, sk tp (s.2 (sk tp p + 1)).2.1 + 1, (s.2 (sk tp p + 1)).2.2.1, (s.2 (sk tp p + 1)).2.2.2) else no_ (sk tp (s.2 (sk tp p + 1)).2.1)).2.1)
        generalize s.2 (sk tp p + 1) = R at a1 a2 a3 a4 ⊢
        have hk2 := sk_le a2
        cases h1 : R.1 with
        | false =>
          rw [if_pos rfl]
          exact ⟨okr_no (by omega) a2, fun z => Bool.noConfusion (show false = true from z)⟩
        | true =>
          have c3 := a3 h1
          rw [if_neg (by decide)]
          by_cases c4 : gb tp (sk tp R.2.1) = 41
          · have hl2 : sk tp R.2.1 < tp.length := gb_lt c4 (by decide)
            rw [if_pos c4]
            exact ⟨⟨show p ≤ sk tp R.2.1 + 1 by omega, show sk tp R.2.1 + 1 ≤ tp.length by omega, fun _ => show R.2.2.1.length + p ≤ sk tp R.2.1 + 1 by omega⟩, fun _ => show p < sk tp R.2.1 + 1 by omega⟩
          · rw [if_neg c4]
            exact ⟨okr_no (by omega) hk2.2, fun z => Bool.noConfusion (show false = true from z)⟩
    · rw [if_neg c2]
      obtain ⟨⟨b1, b2, b3⟩, b4⟩ := (psm_at_p (tp := tp) d).2 (sk tp p) hk.2
      exact cmp_p ⟨by omega, b2, fun z => by have := b3 z; omega⟩
theorem pun_p : ∀ d, okps tp (pun tp d) ∧ okps tp (pcd tp d)
  | 0 => by
    have ha : okps tp (pun tp 0) := punit_p (d := 0) (sub := none) (fun s h => by cases h)
    refine ⟨ha, fun p hp => ?_⟩
    have := chn_p isN0 isO0 ha (ha p hp).1
    exact ⟨this.1, fun z => by have h1 := this.2 z; have h2 := (ha p hp).2 h1.1; show p < (chn tp isN isO (pun tp 0) (pun tp 0 p)).2.1; omega⟩
  | d + 1 => by
    have ih := pun_p d
    have ha : okps tp (pun tp (d + 1)) := punit_p (d := d + 1) (sub := some (pun tp d, fun q => chn tp isN isO (pun tp d) (pun tp d q))) (fun s h => by cases h; exact ih)
    refine ⟨ha, fun p hp => ?_⟩
    have := chn_p isN0 isO0 ha (ha p hp).1
    exact ⟨this.1, fun z => by have h1 := this.2 z; have h2 := (ha p hp).2 h1.1; show p < (chn tp isN isO (pun tp (d + 1)) (pun tp (d + 1) p)).2.1; omega⟩
end PP
