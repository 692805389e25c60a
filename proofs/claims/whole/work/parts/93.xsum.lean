/-! ===== pure: sums, in the class ===== -/
def opc (o : Nat) : List Int := if o = 0 then [] else [-(o : Int)]
/-- within a chain, an operator of the loose kind pending -/
def flt (tp : List Nat) (isT isL : Nat → Bool) (pa : Nat → Rz) (f f' o p : Nat) (t s : Dn) : Rz :=
  if (trr tp isT pa f p t).1 = false then no_ (trr tp isT pa f p t).2.1
  else ((srr tp isT isL pa f' (trr tp isT pa f p t).2.1 (if o = 0 then (trr tp isT pa f p t).2.2.2 else opd o s (trr tp isT pa f p t).2.2.2)).1, (srr tp isT isL pa f' (trr tp isT pa f p t).2.1 (if o = 0 then (trr tp isT pa f p t).2.2.2 else opd o s (trr tp isT pa f p t).2.2.2)).2.1, (trr tp isT pa f p t).2.2.1 ++ (opc o ++ (srr tp isT isL pa f' (trr tp isT pa f p t).2.1 (if o = 0 then (trr tp isT pa f p t).2.2.2 else opd o s (trr tp isT pa f p t).2.2.2)).2.2.1), (srr tp isT isL pa f' (trr tp isT pa f p t).2.1 (if o = 0 then (trr tp isT pa f p t).2.2.2 else opd o s (trr tp isT pa f p t).2.2.2)).2.2.2)
section FL
variable {tp : List Nat} {isT isL : Nat → Bool} {pa : Nat → Rz} {f f' o p : Nat} {t s : Dn}
theorem flt_e {T U : Rz} (hT : trr tp isT pa f p t = T) (h : T.1 = true) (hU : srr tp isT isL pa f' T.2.1 (if o = 0 then T.2.2.2 else opd o s T.2.2.2) = U) : flt tp isT isL pa f f' o p t s = (U.1, U.2.1, T.2.2.1 ++ (opc o ++ U.2.2.1), U.2.2.2) := by
  subst hT
  subst hU
  unfold flt
  rw [if_neg (by rw [h]; decide)]
theorem flt_g {T : Rz} (hT : trr tp isT pa f p t = T) (h : T.1 = false) : flt tp isT isL pa f f' o p t s = no_ T.2.1 := by
  subst hT
  unfold flt
  rw [if_pos h]
theorem flt_1f (h : isT (gb tp (sk tp p)) = true) (h1 : (pa (sk tp p + 1)).1 = false) : flt tp isT isL pa (f + 1) f' o p t s = no_ (pa (sk tp p + 1)).2.1 := flt_g (T := no_ (pa (sk tp p + 1)).2.1) (trr_f h h1) rfl
theorem flt_1 (h : isT (gb tp (sk tp p)) = true) {A R : Rz} (hA : pa (sk tp p + 1) = A) (h1 : A.1 = true) (hR : flt tp isT isL pa f f' o A.2.1 (opd (gb tp (sk tp p)) t A.2.2.2) s = R) : (flt tp isT isL pa (f + 1) f' o p t s).1 = R.1 ∧ (flt tp isT isL pa (f + 1) f' o p t s).2.1 = R.2.1 ∧ (R.1 = true → (flt tp isT isL pa (f + 1) f' o p t s).2.2.1 = A.2.2.1 ++ (-(gb tp (sk tp p) : Int)) :: R.2.2.1) := by
  subst hA
  have e := trr_y (f := f) (t := t) h h1
  obtain ⟨T, hT⟩ : ∃ T, trr tp isT pa f (pa (sk tp p + 1)).2.1 (opd (gb tp (sk tp p)) t (pa (sk tp p + 1)).2.2.2) = T := ⟨_, rfl⟩
  rw [hT] at e
  cases h2 : T.1 with
  | false =>
    rw [flt_g hT h2] at hR
    rw [flt_g e h2, ← hR]
    exact ⟨rfl, rfl, fun z => Bool.noConfusion (show false = true from z)⟩
  | true =>
    obtain ⟨U, hU⟩ : ∃ U, srr tp isT isL pa f' T.2.1 (if o = 0 then T.2.2.2 else opd o s T.2.2.2) = U := ⟨_, rfl⟩
    rw [flt_e hT h2 hU] at hR
    rw [flt_e e h2 hU, ← hR]
    refine ⟨rfl, rfl, fun _ => ?_⟩
    show ((pa (sk tp p + 1)).2.2.1 ++ -(gb tp (sk tp p) : Int) :: T.2.2.1) ++ (opc o ++ U.2.2.1) = (pa (sk tp p + 1)).2.2.1 ++ -(gb tp (sk tp p) : Int) :: (T.2.2.1 ++ (opc o ++ U.2.2.1))
    rw [List.append_assoc, List.cons_append]
theorem flt_2f (hp : p ≤ tp.length) (h0 : isT (gb tp (sk tp p)) = false) (h : isL (gb tp (sk tp p)) = true) (h1 : (pa (sk tp p + 1)).1 = false) : (flt tp isT isL pa f (f' + 1) o p t s).1 = false ∧ (flt tp isT isL pa f (f' + 1) o p t s).2.1 = (pa (sk tp p + 1)).2.1 := by
  have e : sk tp (sk tp p) = sk tp p := sk_sk hp
  have hU : srr tp isT isL pa (f' + 1) (sk tp p) (if o = 0 then t else opd o s t) = no_ (pa (sk tp p + 1)).2.1 := by
    have := srr_f (isT := isT) (f := f') (p := sk tp p) (s := if o = 0 then t else opd o s t) (isL := isL) (pa := pa) (tp := tp) (by rw [e]; exact h) (by rw [e]; exact h1)
    rw [e] at this
    exact this
  rw [flt_e (trr_n h0) rfl hU]
  exact ⟨rfl, rfl⟩
theorem flt_2 (hp : p ≤ tp.length) (h0 : isT (gb tp (sk tp p)) = false) (h : isL (gb tp (sk tp p)) = true) (hc : gb tp (sk tp p) ≠ 0) {A R : Rz} (hA : pa (sk tp p + 1) = A) (h1 : A.1 = true) (hR : flt tp isT isL pa (tp.length + 1) f' (gb tp (sk tp p)) A.2.1 A.2.2.2 (if o = 0 then t else opd o s t) = R) : (flt tp isT isL pa f (f' + 1) o p t s).1 = R.1 ∧ (flt tp isT isL pa f (f' + 1) o p t s).2.1 = R.2.1 ∧ (R.1 = true → (flt tp isT isL pa f (f' + 1) o p t s).2.2.1 = opc o ++ (A.2.2.1 ++ R.2.2.1)) := by
  have e : sk tp (sk tp p) = sk tp p := sk_sk hp
  obtain ⟨T, hT⟩ : ∃ T, trr tp isT pa (tp.length + 1) A.2.1 A.2.2.2 = T := ⟨_, rfl⟩
  cases h2 : T.1 with
  | false =>
    rw [flt_g hT h2] at hR
    have hU := srr_g (isT := isT) (f := f') (p := sk tp p) (s := if o = 0 then t else opd o s t) (isL := isL) (pa := pa) (tp := tp) (A := A) (T := T) (by rw [e]; exact h) (by rw [e]; exact hA) h1 hT h2
    rw [flt_e (trr_n h0) rfl hU, ← hR]
    exact ⟨rfl, rfl, fun z => Bool.noConfusion (show false = true from z)⟩
  | true =>
    obtain ⟨U, hU⟩ : ∃ U, srr tp isT isL pa f' T.2.1 (opd (gb tp (sk tp p)) (if o = 0 then t else opd o s t) T.2.2.2) = U := ⟨_, rfl⟩
    have hU' : srr tp isT isL pa f' T.2.1 (if gb tp (sk tp p) = 0 then T.2.2.2 else opd (gb tp (sk tp p)) (if o = 0 then t else opd o s t) T.2.2.2) = U := by rw [if_neg hc]; exact hU
    rw [flt_e hT h2 hU'] at hR
    have hV := srr_y (isT := isT) (f := f') (p := sk tp p) (s := if o = 0 then t else opd o s t) (isL := isL) (pa := pa) (tp := tp) (A := A) (T := T) (U := U) (by rw [e]; exact h) (by rw [e]; exact hA) h1 hT h2 (by rw [e]; exact hU)
    rw [e] at hV
    rw [flt_e (trr_n h0) rfl hV, ← hR]
    refine ⟨rfl, rfl, fun _ => ?_⟩
    show [] ++ (opc o ++ (A.2.2.1 ++ (T.2.2.1 ++ -(gb tp (sk tp p) : Int) :: U.2.2.1))) = opc o ++ (A.2.2.1 ++ (T.2.2.1 ++ (opc (gb tp (sk tp p)) ++ U.2.2.1)))
    unfold opc
    rw [if_neg hc, List.nil_append, List.singleton_append]
theorem flt_3 (hp : p ≤ tp.length) (h0 : isT (gb tp (sk tp p)) = false) (h : isL (gb tp (sk tp p)) = false) : flt tp isT isL pa f f' o p t s = (true, sk tp p, opc o, if o = 0 then t else opd o s t) := by
  have e : sk tp (sk tp p) = sk tp p := sk_sk hp
  have hU : srr tp isT isL pa f' (sk tp p) (if o = 0 then t else opd o s t) = (true, sk tp p, [], if o = 0 then t else opd o s t) := by
    have := srr_n (isT := isT) (f := f') (p := sk tp p) (s := if o = 0 then t else opd o s t) (isL := isL) (pa := pa) (tp := tp) (by rw [e]; exact h)
    rw [e] at this
    exact this
  rw [flt_e (trr_n h0) rfl hU]
  show (true, sk tp p, [] ++ (opc o ++ []), _) = _
  rw [List.nil_append, List.append_nil]
theorem flt_c {A : Rz} (h : A.1 = true) {s : Dn} : (chn tp isT isL pa A).1 = (flt tp isT isL pa (tp.length + 1) (tp.length + 1) 0 A.2.1 A.2.2.2 s).1 ∧ (chn tp isT isL pa A).2.1 = (flt tp isT isL pa (tp.length + 1) (tp.length + 1) 0 A.2.1 A.2.2.2 s).2.1 ∧ ((chn tp isT isL pa A).1 = true → (chn tp isT isL pa A).2.2.1 = A.2.2.1 ++ (flt tp isT isL pa (tp.length + 1) (tp.length + 1) 0 A.2.1 A.2.2.2 s).2.2.1) := by
  obtain ⟨T, hT⟩ : ∃ T, trr tp isT pa (tp.length + 1) A.2.1 A.2.2.2 = T := ⟨_, rfl⟩
  cases h2 : T.1 with
  | false =>
    rw [chn_g h hT h2, flt_g hT h2]
    exact ⟨rfl, rfl, fun z => Bool.noConfusion (show false = true from z)⟩
  | true =>
    obtain ⟨U, hU⟩ : ∃ U, srr tp isT isL pa (tp.length + 1) T.2.1 T.2.2.2 = U := ⟨_, rfl⟩
    rw [chn_y h hT h2 hU, flt_e (o := 0) (s := s) (U := U) hT h2 (by rw [if_pos rfl]; exact hU)]
    refine ⟨rfl, rfl, fun _ => ?_⟩
    show A.2.2.1 ++ (T.2.2.1 ++ U.2.2.1) = A.2.2.1 ++ (T.2.2.1 ++ ([] ++ U.2.2.1))
    rw [List.nil_append]
end FL
/-- the codes so far -/
def XC (w : aw_W) (cs : List Int) : Prop := w 11 5 = (cs.length : Int) ∧ ∀ j, j < cs.length → w 14 j = cs.getD j 0
def P_XC : List (Nat × Nat) := [(11, 5), (14, 1000000)]
def S_PX : List (Nat × Nat) := [(1, 2), (11, 5), (14, 1000000)]
def xsp (tp : List Nat) (F : aw_W → Option (Int × aw_W)) (p : Nat) (R : Rz) : Prop := ∀ w cs, XP w tp p → XC w cs → cs.length ≤ p → ∃ w', F w = some (b2i R.1, w') ∧ XP w' tp R.2.1 ∧ (R.1 = true → XC w' (cs ++ R.2.2.1)) ∧ fr_ S_PX w w'
section XSM
variable {N : Nat} {w v : aw_W} {tp : List Nat} {p : Nat} {S : List (Nat × Nat)} {cs : List Int}
theorem XC.fr (h : XC w cs) (hf : fr_ S w v) (ha : avd S P_XC = true) : XC v cs := ⟨by rw [avd_fr ha hf rfl]; exact h.1, fun j hj => by rw [avd_fr ha hf (fr_inA rfl j)]; exact h.2 j hj⟩
theorem getI_ap {j : Nat} {b : Int} (hj : j < cs.length) : (cs ++ [b]).getD j 0 = cs.getD j 0 := by
  rw [List.getD_eq_getElem?_getD, List.getD_eq_getElem?_getD, List.getElem?_append_left hj]
theorem getI_ae {b : Int} : (cs ++ [b]).getD cs.length 0 = b := by
  rw [List.getD_eq_getElem?_getD, List.getElem?_append_right (Nat.le_refl _), Nat.sub_self]
  rfl
theorem X_rput (h : XC w cs) (hl : cs.length < 160) {c : Int} : ∃ w', x_Rules_put N c w = some w' ∧ XC w' (cs ++ [c]) ∧ fr_ [(11, 5), (14, 1000000)] w w' := by
  rw [x_Rules_put, h.1, if_neg (by omega), if_pos ⟨by omega, by omega⟩, ww1 (by omega), Int.toNat_natCast, x_Rules_put_32]
  refine ⟨_, rfl, ⟨by rw [up_in, List.length_append, List.length_singleton], fun j hj => ?_⟩, ((fr_r _ _).upA rfl).up rfl⟩
  rw [List.length_append, List.length_singleton] at hj
  rw [up_out (Or.inl (by decide))]
  by_cases e : j = cs.length
  · subst e
    rw [up_in, getI_ae]
  · rw [up_out (Or.inr e), getI_ap (by omega)]
    exact h.2 j (by omega)
theorem wneg {o : Nat} (h : o < 1000) : aw_w (-(o : Int)) = -(o : Int) := ww (by omega) (by omega)
theorem opc_len (o : Nat) : (opc o).length ≤ 1 := by unfold opc; split <;> simp
/-- the class's loop over a sum -/
theorem xsl {pa : Nat → Rz} {ca : Int → aw_W → Option (Int × aw_W)} {cc : Int → aw_W → Option (Int × aw_W)} {wi : Int} (hN : 200 ≤ N) (hpa : okps tp pa) (hca : ∀ p, p ≤ tp.length → xsp tp (ca wi) p (pa p)) : ∀ (n p f f' o i F : Nat) (w : aw_W) (cs : List Int) (t s : Dn), tp.length - p < n → p ≤ tp.length → tp.length < p + f → tp.length < p + f' → n < F → 2 * i ≤ p → (o = 0 ∨ o = 43 ∨ o = 45) → XP w tp p → XC w cs → cs.length + (opc o).length ≤ p → ∃ w', x_Rules_readSum_16 ca cc N F wi o i w = some (b2i (flt tp isM isA pa f f' o p t s).1, w') ∧ XP w' tp (flt tp isM isA pa f f' o p t s).2.1 ∧ ((flt tp isM isA pa f f' o p t s).1 = true → XC w' (cs ++ (flt tp isM isA pa f f' o p t s).2.2.1)) ∧ fr_ S_PX w w' := by
  intro n
  induction n with
  | zero => intro p f f' o i F w cs t s hn; omega
  | succ n ih =>
    intro p f f' o i F w cs t s hn hp hf hf' hF hi ho h hc hcs
    obtain ⟨F, rfl⟩ : ∃ g, F = g + 1 := ⟨F - 1, by omega⟩
    obtain ⟨f, rfl⟩ : ∃ g, f = g + 1 := ⟨f - 1, by omega⟩
    obtain ⟨f', rfl⟩ : ∃ g, f' = g + 1 := ⟨f' - 1, by omega⟩
    have h160 := h.1.2.1.1
    have hk := sk_le hp
    obtain ⟨w1, e1, h1, f1⟩ := X_sign (N := N) hN h
    have hc1 := hc.fr f1 rfl
    have ol := opc_len o
    rw [x_Rules_readSum_16, if_neg (by omega), e1, b2_some]
    have h2 : ∀ {q}, sk tp p < tp.length → q = sk tp p + 1 → XP (aw_up w1 1 2 (q : Int)) tp q ∧ XC (aw_up w1 1 2 (q : Int)) cs ∧ fr_ S_PX w (aw_up w1 1 2 (q : Int)) := by
      intro q hq e
      subst e
      exact ⟨h1.to (by omega), hc1.fr (S := [(1, 2)]) ((fr_r _ _).up rfl) rfl, (fr_m rfl f1).up rfl⟩
    cases cM : isM (gb tp (sk tp p)) with
    | true =>
      have cm := of_decide_eq_true cM
      have hq := isT_lt isM0 cM
      obtain ⟨x2, c2, fr2⟩ := h2 hq rfl
      have go : x_Rules_readSum_49 ca cc N (x_Rules_readSum_16 ca cc N F) wi o i (gb tp (sk tp p)) 0 w1 = x_Rules_readSum_101 ca cc N (x_Rules_readSum_16 ca cc N F) wi o i (gb tp (sk tp p)) 0 (aw_up w1 1 2 ((sk tp p + 1 : Nat) : Int)) := by
        rw [x_Rules_readSum_49, if_pos rfl]
        have : x_Rules_readSum_73 ca cc N (x_Rules_readSum_16 ca cc N F) wi o i (gb tp (sk tp p)) 0 w1 = x_Rules_readSum_101 ca cc N (x_Rules_readSum_16 ca cc N F) wi o i (gb tp (sk tp p)) 0 (aw_up w1 1 2 ((sk tp p + 1 : Nat) : Int)) := by
          rw [x_Rules_readSum_73, if_pos rfl, h1.2.1, ww1 (by omega)]
        rcases cm with z | z
        · rw [if_pos (by omega), this]
        · rw [if_neg (by omega), if_pos (by omega), this]
      rw [if_neg (by omega), if_neg (by omega), go, x_Rules_readSum_101]
      obtain ⟨w3, e3, h3, g3, f3⟩ := hca (sk tp p + 1) (by omega) _ cs x2 c2 (by omega)
      obtain ⟨⟨a1, a2, a3⟩, a4⟩ := hpa (sk tp p + 1) (by omega)
      rw [e3, b2_some]
      cases hA : (pa (sk tp p + 1)).1 with
      | false =>
        rw [if_pos b2i_f, flt_1f cM hA]
        exact ⟨w3, rfl, h3, fun z => Bool.noConfusion (show false = true from z), fr2.trans f3⟩
      | true =>
        have a5 := a3 hA
        have a6 := a4 hA
        obtain ⟨r1, r2, r3⟩ := flt_1 (tp := tp) (isT := isM) (isL := isA) (pa := pa) (f := f) (f' := f' + 1) (o := o) (p := p) (t := t) (s := s) cM rfl hA rfl
        have hc3 := g3 hA
        obtain ⟨w4, e4, c4, f4⟩ := X_rput (N := N) (c := -(gb tp (sk tp p) : Int)) hc3 (by rw [List.length_append]; omega)
        rw [if_neg b2i_t, if_pos rfl, wneg (by omega), e4, b1_some, x_Rules_readSum_124, ww1 (by omega), r1, r2]
        obtain ⟨w', b1, b2, b3, b4⟩ := ih (pa (sk tp p + 1)).2.1 f (f' + 1) o (i + 1) F w4 _ (opd (gb tp (sk tp p)) t (pa (sk tp p + 1)).2.2.2) s (by omega) a2 (by omega) (by omega) (by omega) (by omega) ho (h3.fr f4 rfl) c4 (by rw [List.length_append, List.length_append, List.length_singleton]; omega)
        refine ⟨w', b1, b2, fun z => ?_, fr2.trans (f3.trans ((fr_m rfl f4).trans b4))⟩
        have := b3 z
        rw [r3 z]
        simp only [List.append_assoc, List.singleton_append] at this ⊢
        exact this
    | false =>
      have nm : ¬ (gb tp (sk tp p) = 42 ∨ gb tp (sk tp p) = 47) := of_decide_eq_false cM
      cases cA : isA (gb tp (sk tp p)) with
      | true =>
        have ca' : gb tp (sk tp p) = 43 ∨ gb tp (sk tp p) = 45 := of_decide_eq_true cA
        have hq := isT_lt isA0 cA
        obtain ⟨x2, c2, fr2⟩ := h2 hq rfl
        have hc0 : gb tp (sk tp p) ≠ 0 := by omega
        have olc : (opc (gb tp (sk tp p))).length = 1 := by unfold opc; rw [if_neg hc0]; rfl
        -- the pending one is put
        have put : ∃ w3, x_Rules_readSum_73 ca cc N (x_Rules_readSum_16 ca cc N F) wi o i (gb tp (sk tp p)) 1 w1 = x_Rules_readSum_98 ca cc N (x_Rules_readSum_16 ca cc N F) wi i (gb tp (sk tp p)) 1 w3 ∧ XP w3 tp (sk tp p + 1) ∧ XC w3 (cs ++ opc o) ∧ fr_ S_PX w w3 := by
          rw [x_Rules_readSum_73, if_neg (by decide), h1.2.1, ww1 (by omega)]
          by_cases z : o = 0
          · subst z
            rw [if_pos (by rfl)]
            exact ⟨_, rfl, x2, by unfold opc; rw [if_pos rfl, List.append_nil]; exact c2, fr2⟩
          · have olo : opc o = [-(o : Int)] := by unfold opc; rw [if_neg z]
            obtain ⟨w3, e3, c3, f3⟩ := X_rput (N := N) (c := -(o : Int)) c2 (by omega)
            rw [if_neg (by omega), wneg (by omega), e3, b1_some, olo]
            exact ⟨w3, rfl, x2.fr f3 rfl, c3, fr2.trans (fr_m rfl f3)⟩
        obtain ⟨w3, e3, h3, c3, f3⟩ := put
        have go : (if (gb tp (sk tp p) : Int) = 43 then x_Rules_readSum_44 ca cc N (x_Rules_readSum_16 ca cc N F) wi o i (gb tp (sk tp p)) w1 else if (gb tp (sk tp p) : Int) = 45 then x_Rules_readSum_44 ca cc N (x_Rules_readSum_16 ca cc N F) wi o i (gb tp (sk tp p)) w1 else x_Rules_readSum_49 ca cc N (x_Rules_readSum_16 ca cc N F) wi o i (gb tp (sk tp p)) 0 w1) = x_Rules_readSum_101 ca cc N (x_Rules_readSum_16 ca cc N F) wi (gb tp (sk tp p)) i (gb tp (sk tp p)) 1 w3 := by
          have : x_Rules_readSum_44 ca cc N (x_Rules_readSum_16 ca cc N F) wi o i (gb tp (sk tp p)) w1 = x_Rules_readSum_101 ca cc N (x_Rules_readSum_16 ca cc N F) wi (gb tp (sk tp p)) i (gb tp (sk tp p)) 1 w3 := by
            rw [x_Rules_readSum_44, x_Rules_readSum_49, if_neg (by decide), e3, x_Rules_readSum_98]
          rcases ca' with z | z
          · rw [if_pos (by omega), this]
          · rw [if_neg (by omega), if_pos (by omega), this]
        rw [go, x_Rules_readSum_101]
        obtain ⟨w4, e4, h4, g4, f4⟩ := hca (sk tp p + 1) (by omega) _ _ h3 c3 (by rw [List.length_append]; omega)
        obtain ⟨⟨a1, a2, a3⟩, a4⟩ := hpa (sk tp p + 1) (by omega)
        rw [e4, b2_some]
        cases hA : (pa (sk tp p + 1)).1 with
        | false =>
          obtain ⟨r1, r2⟩ := flt_2f (tp := tp) (isT := isM) (isL := isA) (pa := pa) (f := f + 1) (f' := f') (o := o) (p := p) (t := t) (s := s) hp cM cA hA
          rw [if_pos b2i_f, r1, r2]
          exact ⟨w4, rfl, h4, fun z => Bool.noConfusion z, f3.trans f4⟩
        | true =>
          have a5 := a3 hA
          have a6 := a4 hA
          obtain ⟨r1, r2, r3⟩ := flt_2 (tp := tp) (isT := isM) (isL := isA) (pa := pa) (f := f + 1) (f' := f') (o := o) (p := p) (t := t) (s := s) hp cM cA hc0 rfl hA rfl
          have hc4 := g4 hA
          rw [if_neg b2i_t, if_neg (by decide), x_Rules_readSum_124, ww1 (by omega), r1, r2]
          obtain ⟨w', b1, b2, b3, b4⟩ := ih (pa (sk tp p + 1)).2.1 (tp.length + 1) f' (gb tp (sk tp p)) (i + 1) F w4 _ (pa (sk tp p + 1)).2.2.2 (if o = 0 then t else opd o s t) (by omega) a2 (by omega) (by omega) (by omega) (by omega) (Or.inr ca') h4 hc4 (by rw [List.length_append, List.length_append, olc]; omega)
          refine ⟨w', b1, b2, fun z => ?_, f3.trans (f4.trans b4)⟩
          have := b3 z
          rw [r3 z]
          simp only [List.append_assoc] at this ⊢
          exact this
      | false =>
        have na : ¬ (gb tp (sk tp p) = 43 ∨ gb tp (sk tp p) = 45) := of_decide_eq_false cA
        rw [if_neg (by omega), if_neg (by omega), x_Rules_readSum_49, if_pos rfl, if_neg (by omega), if_neg (by omega), x_Rules_readSum_70, x_Rules_readSum_130, flt_3 hp cM cA]
        by_cases z : o = 0
        · subst z
          rw [if_pos (by rfl)]
          exact ⟨w1, rfl, h1, fun _ => by unfold opc; rw [if_pos rfl]; show XC w1 (cs ++ []); rw [List.append_nil]; exact hc1, fr_m rfl f1⟩
        · have olo : opc o = [-(o : Int)] := by unfold opc; rw [if_neg z]
          rw [olo, List.length_singleton] at hcs
          obtain ⟨w3, e3, c3, f3⟩ := X_rput (N := N) (c := -(o : Int)) hc1 (by omega)
          rw [if_neg (by omega), wneg (by omega), e3, b1_some, olo]
          exact ⟨w3, rfl, h1.fr f3 rfl, fun _ => c3, (fr_m rfl f1).trans (fr_m rfl f3)⟩
end XSM
