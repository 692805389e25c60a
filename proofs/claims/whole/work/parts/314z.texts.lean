section AWV2
variable {l : Launch} {K : aw_K} {M : aw_M} {d pc : Nat} {ls ls' : aw_Ls} {st : List aw_V} {w : aw_W} {r : Option aw_V × aw_W}
theorem aw_ldcs0 (hd : decode M.2.1 pc = .ok (.ldc 26, 2)) (kk : aw_AW l K M d (pc + 2) ls (.inr (.inr 220) :: st) w r) (hM : M.1.cls = "SecondHasModel" := by rfl) : aw_AW l K M d pc ls st w r :=
  aw_step kk (fun h => aw_ok1 h trivial) (fun p e s m args below meth c H locs LS Q _ C hP hS hL k => by
    obtain ⟨hx, hb, -, -, -, hown, hts, -, hSt, -⟩ := id C
    rw [hM] at hown
    exact va_ldcS hx hb hown hSt.2.1.2.2.1 hd k)
theorem aw_ldcs1 (hd : decode M.2.1 pc = .ok (.ldc 32, 2)) (kk : aw_AW l K M d (pc + 2) ls (.inr (.inr 221) :: st) w r) (hM : M.1.cls = "SecondHasModel" := by rfl) : aw_AW l K M d pc ls st w r :=
  aw_step kk (fun h => aw_ok1 h trivial) (fun p e s m args below meth c H locs LS Q _ C hP hS hL k => by
    obtain ⟨hx, hb, -, -, -, hown, hts, -, hSt, -⟩ := id C
    rw [hM] at hown
    exact va_ldcS hx hb hown hSt.2.1.2.2.2.1 hd k)
end AWV2
