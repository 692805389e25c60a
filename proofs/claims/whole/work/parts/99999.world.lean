/-! ===== the world behind the constructors is aw_w0's ===== -/
theorem cz_a {K : aw_K} {i t n : Nat} (hy : aw_lay i = .inr (t, n)) (ht : t ≠ 3) (hi : i ≠ 49) : (K.2.2.1 i, aw_cl K aw_w0 i) = ac_a K t n (K.2.2.1 i) := by
  have e : (fun j => Int32.ofInt (aw_w0 i j)) = fun _ => 0 := by
    funext j
    rw [aw_w0z hi]
    rfl
  rw [aw_clA hy ht, e]
theorem cz_l {K : aw_K} {i n : Nat} (hy : aw_lay i = .inr (3, n)) (hi : i ≠ 49) : (K.2.2.1 i, aw_cl K aw_w0 i) = ac_l K n (K.2.2.1 i) := by
  have e : (fun j => Int64.ofInt (aw_w0 i j)) = fun _ => 0 := by
    funext j
    rw [aw_w0z hi]
    rfl
  rw [aw_clL hy, e]
set_option maxRecDepth 20000 in
theorem cz_0 (K : aw_K) : (K.2.2.1 0, aw_cl K aw_w0 0) = (K.2.2.1 0, .inr (11, [.ref (K.2.2.1 1), .ref (K.2.2.1 3), .ref (K.2.2.1 7), .ref (K.2.2.1 11), .ref (K.2.2.1 17), .ref (K.2.2.1 22), .ref (K.2.2.1 23), .ref (K.2.2.1 26), .ref (K.2.2.1 34), .ref (K.2.2.1 39), .ref (K.2.2.1 41), .ref (K.2.2.1 44), .ref (K.2.2.1 47), .ref (K.2.2.1 48), .int 0])) := by
  rw [aw_clO rfl]
  rfl
set_option maxRecDepth 20000 in
theorem cz_1 (K : aw_K) : (K.2.2.1 1, aw_cl K aw_w0 1) = (K.2.2.1 1, .inr (9, [.ref (K.2.2.1 2), .int 0, .int 0])) := by
  rw [aw_clO rfl]
  rfl
set_option maxRecDepth 20000 in
theorem cz_3 (K : aw_K) : (K.2.2.1 3, aw_cl K aw_w0 3) = (K.2.2.1 3, .inr (1, [.ref (K.2.2.1 4), .ref (K.2.2.1 5), .ref (K.2.2.1 6), .int 0, .int 0])) := by
  rw [aw_clO rfl]
  rfl
set_option maxRecDepth 20000 in
theorem cz_7 (K : aw_K) : (K.2.2.1 7, aw_cl K aw_w0 7) = (K.2.2.1 7, .inr (1, [.ref (K.2.2.1 8), .ref (K.2.2.1 9), .ref (K.2.2.1 10), .int 0, .int 0])) := by
  rw [aw_clO rfl]
  rfl
set_option maxRecDepth 20000 in
theorem cz_11 (K : aw_K) : (K.2.2.1 11, aw_cl K aw_w0 11) = (K.2.2.1 11, .inr (7, [.ref (K.2.2.1 12), .ref (K.2.2.1 13), .ref (K.2.2.1 14), .ref (K.2.2.1 15), .ref (K.2.2.1 16), .int 0, .int 0])) := by
  rw [aw_clO rfl]
  rfl
set_option maxRecDepth 20000 in
theorem cz_17 (K : aw_K) : (K.2.2.1 17, aw_cl K aw_w0 17) = (K.2.2.1 17, .inr (8, [.ref (K.2.2.1 3), .ref (K.2.2.1 18), .ref (K.2.2.1 21), .int 0, .int 0, .int 0, .int 0, .int 0])) := by
  rw [aw_clO rfl]
  rfl
set_option maxRecDepth 20000 in
theorem cz_18 (K : aw_K) : (K.2.2.1 18, aw_cl K aw_w0 18) = (K.2.2.1 18, .inr (2, [.ref (K.2.2.1 19), .ref (K.2.2.1 20), .int 0])) := by
  rw [aw_clO rfl]
  rfl
set_option maxRecDepth 20000 in
theorem cz_22 (K : aw_K) : (K.2.2.1 22, aw_cl K aw_w0 22) = (K.2.2.1 22, .inr (4, [.ref (K.2.2.1 3), .ref (K.2.2.1 17), .int 0, .int 0, .int 0, .int 0, .int 0, .int 0, .int 0])) := by
  rw [aw_clO rfl]
  rfl
set_option maxRecDepth 20000 in
theorem cz_23 (K : aw_K) : (K.2.2.1 23, aw_cl K aw_w0 23) = (K.2.2.1 23, .inr (5, [.ref (K.2.2.1 3), .ref (K.2.2.1 17), .ref (K.2.2.1 24), .ref (K.2.2.1 25), .int 0, .int 0, .int 0, .int 0])) := by
  rw [aw_clO rfl]
  rfl
set_option maxRecDepth 20000 in
theorem cz_26 (K : aw_K) : (K.2.2.1 26, aw_cl K aw_w0 26) = (K.2.2.1 26, .inr (3, [.ref (K.2.2.1 3), .ref (K.2.2.1 11), .ref (K.2.2.1 27), .ref (K.2.2.1 30), .ref (K.2.2.1 31), .ref (K.2.2.1 32), .ref (K.2.2.1 33), .int 0, .int 0])) := by
  rw [aw_clO rfl]
  rfl
set_option maxRecDepth 20000 in
theorem cz_27 (K : aw_K) : (K.2.2.1 27, aw_cl K aw_w0 27) = (K.2.2.1 27, .inr (2, [.ref (K.2.2.1 28), .ref (K.2.2.1 29), .int 0])) := by
  rw [aw_clO rfl]
  rfl
set_option maxRecDepth 20000 in
theorem cz_34 (K : aw_K) : (K.2.2.1 34, aw_cl K aw_w0 34) = (K.2.2.1 34, .inr (10, [.ref (K.2.2.1 3), .ref (K.2.2.1 35), .ref (K.2.2.1 36), .ref (K.2.2.1 37), .ref (K.2.2.1 38)])) := by
  rw [aw_clO rfl]
  rfl
set_option maxRecDepth 20000 in
theorem cz_39 (K : aw_K) : (K.2.2.1 39, aw_cl K aw_w0 39) = (K.2.2.1 39, .inr (6, [.ref (K.2.2.1 3), .ref (K.2.2.1 17), .ref (K.2.2.1 40), .int 0, .int 0])) := by
  rw [aw_clO rfl]
  rfl
set_option maxRecDepth 20000 in
theorem cz_41 (K : aw_K) : (K.2.2.1 41, aw_cl K aw_w0 41) = (K.2.2.1 41, .inr (0, [.ref (K.2.2.1 3), .ref (K.2.2.1 17), .ref (K.2.2.1 42), .ref (K.2.2.1 43), .int 0])) := by
  rw [aw_clO rfl]
  rfl
set_option maxRecDepth 20000 in
theorem cz_44 (K : aw_K) : (K.2.2.1 44, aw_cl K aw_w0 44) = (K.2.2.1 44, .inr (0, [.ref (K.2.2.1 3), .ref (K.2.2.1 17), .ref (K.2.2.1 45), .ref (K.2.2.1 46), .int 0])) := by
  rw [aw_clO rfl]
  rfl
set_option maxRecDepth 20000 in
theorem cz_49 (K : aw_K) : (K.2.2.1 49, aw_cl K aw_w0 49) = (K.2.2.1 49, .inr (12, [.int 0, .ref (K.2.2.1 50), .ref (K.2.2.1 51), .ref (K.2.2.1 52), .ref (K.2.2.1 53), .ref (K.2.2.1 50), .int 0, .int 0, .int 0, .int 0, .int 0, .int 0, .int 0, .int 0, .int 0, .ref (K.2.2.1 220), .ref (K.2.2.1 221), .int 0, .ref (K.2.2.1 54), .ref (K.2.2.1 55), .ref (K.2.2.1 56), .ref (K.2.2.1 57), .int 0, .int 0, .int 0, .ref (K.2.2.1 58), .ref (K.2.2.1 59), .ref (K.2.2.1 60), .ref (K.2.2.1 61), .ref (K.2.2.1 62), .ref (K.2.2.1 63), .int 0, .int (-1), .ref (K.2.2.1 64), .int 0, .int 0, .int 0, .int 0, .ref (K.2.2.1 65), .ref (K.2.2.1 66), .ref (K.2.2.1 67), .ref (K.2.2.1 68), .ref (K.2.2.1 69), .int 0, .long 0, .int 0, .int 0, .ref (K.2.2.1 70), .ref (K.2.2.1 71), .ref (K.2.2.1 72), .int 0, .int 0])) := by
  rw [aw_clO rfl]
  rfl
theorem cz_cons {α : Type} {a b : α} {l m : List α} (h1 : a = b) (h2 : l = m) : a :: l = b :: m := by rw [h1, h2]
set_option maxRecDepth 20000 in
theorem cz0 (K : aw_K) : aw_cz K aw_w0 = [(K.2.2.1 0, .inr (11, [.ref (K.2.2.1 1), .ref (K.2.2.1 3), .ref (K.2.2.1 7), .ref (K.2.2.1 11), .ref (K.2.2.1 17), .ref (K.2.2.1 22), .ref (K.2.2.1 23), .ref (K.2.2.1 26), .ref (K.2.2.1 34), .ref (K.2.2.1 39), .ref (K.2.2.1 41), .ref (K.2.2.1 44), .ref (K.2.2.1 47), .ref (K.2.2.1 48), .int 0])), (K.2.2.1 1, .inr (9, [.ref (K.2.2.1 2), .int 0, .int 0])), ac_a K 0 160 (K.2.2.1 2), (K.2.2.1 3, .inr (1, [.ref (K.2.2.1 4), .ref (K.2.2.1 5), .ref (K.2.2.1 6), .int 0, .int 0])), ac_a K 0 24 (K.2.2.1 4), ac_a K 0 5 (K.2.2.1 5), ac_a K 0 6 (K.2.2.1 6), (K.2.2.1 7, .inr (1, [.ref (K.2.2.1 8), .ref (K.2.2.1 9), .ref (K.2.2.1 10), .int 0, .int 0])), ac_a K 0 24 (K.2.2.1 8), ac_a K 0 5 (K.2.2.1 9), ac_a K 0 6 (K.2.2.1 10), (K.2.2.1 11, .inr (7, [.ref (K.2.2.1 12), .ref (K.2.2.1 13), .ref (K.2.2.1 14), .ref (K.2.2.1 15), .ref (K.2.2.1 16), .int 0, .int 0])), ac_a K 0 640 (K.2.2.1 12), ac_a K 0 4 (K.2.2.1 13), ac_a K 0 160 (K.2.2.1 14), ac_a K 0 64 (K.2.2.1 15), ac_a K 0 6 (K.2.2.1 16), (K.2.2.1 17, .inr (8, [.ref (K.2.2.1 3), .ref (K.2.2.1 18), .ref (K.2.2.1 21), .int 0, .int 0, .int 0, .int 0, .int 0])), (K.2.2.1 18, .inr (2, [.ref (K.2.2.1 19), .ref (K.2.2.1 20), .int 0])), ac_a K 0 6 (K.2.2.1 19), ac_a K 0 6 (K.2.2.1 20), ac_a K 0 6 (K.2.2.1 21), (K.2.2.1 22, .inr (4, [.ref (K.2.2.1 3), .ref (K.2.2.1 17), .int 0, .int 0, .int 0, .int 0, .int 0, .int 0, .int 0])), (K.2.2.1 23, .inr (5, [.ref (K.2.2.1 3), .ref (K.2.2.1 17), .ref (K.2.2.1 24), .ref (K.2.2.1 25), .int 0, .int 0, .int 0, .int 0])), ac_l K 157 (K.2.2.1 24), ac_a K 0 10 (K.2.2.1 25), (K.2.2.1 26, .inr (3, [.ref (K.2.2.1 3), .ref (K.2.2.1 11), .ref (K.2.2.1 27), .ref (K.2.2.1 30), .ref (K.2.2.1 31), .ref (K.2.2.1 32), .ref (K.2.2.1 33), .int 0, .int 0])), (K.2.2.1 27, .inr (2, [.ref (K.2.2.1 28), .ref (K.2.2.1 29), .int 0])), ac_a K 0 6 (K.2.2.1 28), ac_a K 0 6 (K.2.2.1 29), ac_a K 0 6 (K.2.2.1 30), ac_a K 0 6 (K.2.2.1 31), ac_a K 0 6 (K.2.2.1 32), ac_a K 0 6 (K.2.2.1 33), (K.2.2.1 34, .inr (10, [.ref (K.2.2.1 3), .ref (K.2.2.1 35), .ref (K.2.2.1 36), .ref (K.2.2.1 37), .ref (K.2.2.1 38)])), ac_a K 0 64 (K.2.2.1 35), ac_l K 60 (K.2.2.1 36), ac_a K 0 60 (K.2.2.1 37), ac_a K 2 60 (K.2.2.1 38), (K.2.2.1 39, .inr (6, [.ref (K.2.2.1 3), .ref (K.2.2.1 17), .ref (K.2.2.1 40), .int 0, .int 0])), ac_a K 0 6 (K.2.2.1 40), (K.2.2.1 41, .inr (0, [.ref (K.2.2.1 3), .ref (K.2.2.1 17), .ref (K.2.2.1 42), .ref (K.2.2.1 43), .int 0])), ac_a K 0 40 (K.2.2.1 42), ac_a K 0 60 (K.2.2.1 43), (K.2.2.1 44, .inr (0, [.ref (K.2.2.1 3), .ref (K.2.2.1 17), .ref (K.2.2.1 45), .ref (K.2.2.1 46), .int 0])), ac_a K 0 40 (K.2.2.1 45), ac_a K 0 60 (K.2.2.1 46), ac_a K 0 5 (K.2.2.1 47), ac_a K 0 6 (K.2.2.1 48), (K.2.2.1 49, .inr (12, [.int 0, .ref (K.2.2.1 50), .ref (K.2.2.1 51), .ref (K.2.2.1 52), .ref (K.2.2.1 53), .ref (K.2.2.1 50), .int 0, .int 0, .int 0, .int 0, .int 0, .int 0, .int 0, .int 0, .int 0, .ref (K.2.2.1 220), .ref (K.2.2.1 221), .int 0, .ref (K.2.2.1 54), .ref (K.2.2.1 55), .ref (K.2.2.1 56), .ref (K.2.2.1 57), .int 0, .int 0, .int 0, .ref (K.2.2.1 58), .ref (K.2.2.1 59), .ref (K.2.2.1 60), .ref (K.2.2.1 61), .ref (K.2.2.1 62), .ref (K.2.2.1 63), .int 0, .int (-1), .ref (K.2.2.1 64), .int 0, .int 0, .int 0, .int 0, .ref (K.2.2.1 65), .ref (K.2.2.1 66), .ref (K.2.2.1 67), .ref (K.2.2.1 68), .ref (K.2.2.1 69), .int 0, .long 0, .int 0, .int 0, .ref (K.2.2.1 70), .ref (K.2.2.1 71), .ref (K.2.2.1 72), .int 0, .int 0])), ac_a K 1 160 (K.2.2.1 50), ac_a K 1 640 (K.2.2.1 51), ac_a K 0 4 (K.2.2.1 52), ac_a K 0 128 (K.2.2.1 53), ac_a K 0 24 (K.2.2.1 54), ac_a K 0 24 (K.2.2.1 55), ac_a K 0 5 (K.2.2.1 56), ac_a K 0 5 (K.2.2.1 57), ac_a K 0 6 (K.2.2.1 58), ac_a K 0 6 (K.2.2.1 59), ac_a K 2 6 (K.2.2.1 60), ac_a K 0 600 (K.2.2.1 61), ac_a K 0 6 (K.2.2.1 62), ac_a K 0 6 (K.2.2.1 63), ac_a K 0 6 (K.2.2.1 64), ac_a K 0 23424 (K.2.2.1 65), ac_a K 2 3904 (K.2.2.1 66), ac_a K 0 6 (K.2.2.1 67), ac_a K 0 6 (K.2.2.1 68), ac_a K 0 40 (K.2.2.1 69), ac_a K 0 40 (K.2.2.1 70), ac_a K 0 6 (K.2.2.1 71), ac_a K 0 5 (K.2.2.1 72), ac_l K 1 (K.2.2.1 73)] := by
  show [(K.2.2.1 0, aw_cl K aw_w0 0), (K.2.2.1 1, aw_cl K aw_w0 1), (K.2.2.1 2, aw_cl K aw_w0 2), (K.2.2.1 3, aw_cl K aw_w0 3), (K.2.2.1 4, aw_cl K aw_w0 4), (K.2.2.1 5, aw_cl K aw_w0 5), (K.2.2.1 6, aw_cl K aw_w0 6), (K.2.2.1 7, aw_cl K aw_w0 7), (K.2.2.1 8, aw_cl K aw_w0 8), (K.2.2.1 9, aw_cl K aw_w0 9), (K.2.2.1 10, aw_cl K aw_w0 10), (K.2.2.1 11, aw_cl K aw_w0 11), (K.2.2.1 12, aw_cl K aw_w0 12), (K.2.2.1 13, aw_cl K aw_w0 13), (K.2.2.1 14, aw_cl K aw_w0 14), (K.2.2.1 15, aw_cl K aw_w0 15), (K.2.2.1 16, aw_cl K aw_w0 16), (K.2.2.1 17, aw_cl K aw_w0 17), (K.2.2.1 18, aw_cl K aw_w0 18), (K.2.2.1 19, aw_cl K aw_w0 19), (K.2.2.1 20, aw_cl K aw_w0 20), (K.2.2.1 21, aw_cl K aw_w0 21), (K.2.2.1 22, aw_cl K aw_w0 22), (K.2.2.1 23, aw_cl K aw_w0 23), (K.2.2.1 24, aw_cl K aw_w0 24), (K.2.2.1 25, aw_cl K aw_w0 25), (K.2.2.1 26, aw_cl K aw_w0 26), (K.2.2.1 27, aw_cl K aw_w0 27), (K.2.2.1 28, aw_cl K aw_w0 28), (K.2.2.1 29, aw_cl K aw_w0 29), (K.2.2.1 30, aw_cl K aw_w0 30), (K.2.2.1 31, aw_cl K aw_w0 31), (K.2.2.1 32, aw_cl K aw_w0 32), (K.2.2.1 33, aw_cl K aw_w0 33), (K.2.2.1 34, aw_cl K aw_w0 34), (K.2.2.1 35, aw_cl K aw_w0 35), (K.2.2.1 36, aw_cl K aw_w0 36), (K.2.2.1 37, aw_cl K aw_w0 37), (K.2.2.1 38, aw_cl K aw_w0 38), (K.2.2.1 39, aw_cl K aw_w0 39), (K.2.2.1 40, aw_cl K aw_w0 40), (K.2.2.1 41, aw_cl K aw_w0 41), (K.2.2.1 42, aw_cl K aw_w0 42), (K.2.2.1 43, aw_cl K aw_w0 43), (K.2.2.1 44, aw_cl K aw_w0 44), (K.2.2.1 45, aw_cl K aw_w0 45), (K.2.2.1 46, aw_cl K aw_w0 46), (K.2.2.1 47, aw_cl K aw_w0 47), (K.2.2.1 48, aw_cl K aw_w0 48), (K.2.2.1 49, aw_cl K aw_w0 49), (K.2.2.1 50, aw_cl K aw_w0 50), (K.2.2.1 51, aw_cl K aw_w0 51), (K.2.2.1 52, aw_cl K aw_w0 52), (K.2.2.1 53, aw_cl K aw_w0 53), (K.2.2.1 54, aw_cl K aw_w0 54), (K.2.2.1 55, aw_cl K aw_w0 55), (K.2.2.1 56, aw_cl K aw_w0 56), (K.2.2.1 57, aw_cl K aw_w0 57), (K.2.2.1 58, aw_cl K aw_w0 58), (K.2.2.1 59, aw_cl K aw_w0 59), (K.2.2.1 60, aw_cl K aw_w0 60), (K.2.2.1 61, aw_cl K aw_w0 61), (K.2.2.1 62, aw_cl K aw_w0 62), (K.2.2.1 63, aw_cl K aw_w0 63), (K.2.2.1 64, aw_cl K aw_w0 64), (K.2.2.1 65, aw_cl K aw_w0 65), (K.2.2.1 66, aw_cl K aw_w0 66), (K.2.2.1 67, aw_cl K aw_w0 67), (K.2.2.1 68, aw_cl K aw_w0 68), (K.2.2.1 69, aw_cl K aw_w0 69), (K.2.2.1 70, aw_cl K aw_w0 70), (K.2.2.1 71, aw_cl K aw_w0 71), (K.2.2.1 72, aw_cl K aw_w0 72), (K.2.2.1 73, aw_cl K aw_w0 73)] = _
  exact cz_cons (cz_0 K) (cz_cons (cz_1 K) (cz_cons (cz_a (i := 2) rfl (by decide) (by decide)) (cz_cons (cz_3 K) (cz_cons (cz_a (i := 4) rfl (by decide) (by decide)) (cz_cons (cz_a (i := 5) rfl (by decide) (by decide)) (cz_cons (cz_a (i := 6) rfl (by decide) (by decide)) (cz_cons (cz_7 K) (cz_cons (cz_a (i := 8) rfl (by decide) (by decide)) (cz_cons (cz_a (i := 9) rfl (by decide) (by decide)) (cz_cons (cz_a (i := 10) rfl (by decide) (by decide)) (cz_cons (cz_11 K) (cz_cons (cz_a (i := 12) rfl (by decide) (by decide)) (cz_cons (cz_a (i := 13) rfl (by decide) (by decide)) (cz_cons (cz_a (i := 14) rfl (by decide) (by decide)) (cz_cons (cz_a (i := 15) rfl (by decide) (by decide)) (cz_cons (cz_a (i := 16) rfl (by decide) (by decide)) (cz_cons (cz_17 K) (cz_cons (cz_18 K) (cz_cons (cz_a (i := 19) rfl (by decide) (by decide)) (cz_cons (cz_a (i := 20) rfl (by decide) (by decide)) (cz_cons (cz_a (i := 21) rfl (by decide) (by decide)) (cz_cons (cz_22 K) (cz_cons (cz_23 K) (cz_cons (cz_l (i := 24) rfl (by decide)) (cz_cons (cz_a (i := 25) rfl (by decide) (by decide)) (cz_cons (cz_26 K) (cz_cons (cz_27 K) (cz_cons (cz_a (i := 28) rfl (by decide) (by decide)) (cz_cons (cz_a (i := 29) rfl (by decide) (by decide)) (cz_cons (cz_a (i := 30) rfl (by decide) (by decide)) (cz_cons (cz_a (i := 31) rfl (by decide) (by decide)) (cz_cons (cz_a (i := 32) rfl (by decide) (by decide)) (cz_cons (cz_a (i := 33) rfl (by decide) (by decide)) (cz_cons (cz_34 K) (cz_cons (cz_a (i := 35) rfl (by decide) (by decide)) (cz_cons (cz_l (i := 36) rfl (by decide)) (cz_cons (cz_a (i := 37) rfl (by decide) (by decide)) (cz_cons (cz_a (i := 38) rfl (by decide) (by decide)) (cz_cons (cz_39 K) (cz_cons (cz_a (i := 40) rfl (by decide) (by decide)) (cz_cons (cz_41 K) (cz_cons (cz_a (i := 42) rfl (by decide) (by decide)) (cz_cons (cz_a (i := 43) rfl (by decide) (by decide)) (cz_cons (cz_44 K) (cz_cons (cz_a (i := 45) rfl (by decide) (by decide)) (cz_cons (cz_a (i := 46) rfl (by decide) (by decide)) (cz_cons (cz_a (i := 47) rfl (by decide) (by decide)) (cz_cons (cz_a (i := 48) rfl (by decide) (by decide)) (cz_cons (cz_49 K) (cz_cons (cz_a (i := 50) rfl (by decide) (by decide)) (cz_cons (cz_a (i := 51) rfl (by decide) (by decide)) (cz_cons (cz_a (i := 52) rfl (by decide) (by decide)) (cz_cons (cz_a (i := 53) rfl (by decide) (by decide)) (cz_cons (cz_a (i := 54) rfl (by decide) (by decide)) (cz_cons (cz_a (i := 55) rfl (by decide) (by decide)) (cz_cons (cz_a (i := 56) rfl (by decide) (by decide)) (cz_cons (cz_a (i := 57) rfl (by decide) (by decide)) (cz_cons (cz_a (i := 58) rfl (by decide) (by decide)) (cz_cons (cz_a (i := 59) rfl (by decide) (by decide)) (cz_cons (cz_a (i := 60) rfl (by decide) (by decide)) (cz_cons (cz_a (i := 61) rfl (by decide) (by decide)) (cz_cons (cz_a (i := 62) rfl (by decide) (by decide)) (cz_cons (cz_a (i := 63) rfl (by decide) (by decide)) (cz_cons (cz_a (i := 64) rfl (by decide) (by decide)) (cz_cons (cz_a (i := 65) rfl (by decide) (by decide)) (cz_cons (cz_a (i := 66) rfl (by decide) (by decide)) (cz_cons (cz_a (i := 67) rfl (by decide) (by decide)) (cz_cons (cz_a (i := 68) rfl (by decide) (by decide)) (cz_cons (cz_a (i := 69) rfl (by decide) (by decide)) (cz_cons (cz_a (i := 70) rfl (by decide) (by decide)) (cz_cons (cz_a (i := 71) rfl (by decide) (by decide)) (cz_cons (cz_a (i := 72) rfl (by decide) (by decide)) (cz_cons (cz_l (i := 73) rfl (by decide)) (rfl))))))))))))))))))))))))))))))))))))))))))))))))))))))))))))))))))))))))))
theorem lw_Kok {K : aw_K} (h : va_D (aw_A K) (aw_cz K aw_w0)) : aw_Kok K :=
  ⟨fun i j hi hj e => h.1 i j _ _ (aw_cz_at hi) (aw_cz_at hj) e, fun i hi => h.2 i _ (aw_cz_at hi)⟩
section ACL
variable {p : Program} {l : Launch} {e : Env} {R : Room} {s : State} {m : MethodId} {args : Array Value} {below : List Frame} {meth : Method} {c : Code} {Q : State → Prop} {K : aw_K} {M : aw_M} {cells slots pc : Nat} {ls ls' : List (Nat × Value)} {st : List Value} {pre tl : va_W}
theorem ac_astore_n {i : Fin 4} {a : Nat} (C : ac_Cx K M p s m args meth c) (hd : decode M.2.1 pc = .ok (.astore_n i, 1)) (hn : (i : Nat) < M.2.2.1) (hl : ((i : Nat), Value.ref a) :: ls.filter (fun q => !(q.1 == (i : Nat)) && !(q.1 + 1 == (i : Nat) && q.2.category == 2)) = ls') (k : ac_AW p l e R s m args below meth c Q K M cells slots (pc + 1) ls' st pre tl) : ac_AW p l e R s m args below meth c Q K M cells slots pc ls (.ref a :: st) pre tl :=
  fun H locs LS hP hD hS hL => lv_astore_n C.1 C.2.1 hd rfl hL hn hl (fun LS' hL' => k H locs LS' hP hD hS hL')
theorem ac_istore {i : Nat} {x : Int32} (C : ac_Cx K M p s m args meth c) (hd : decode M.2.1 pc = .ok (.istore i, 2)) (hn : i < M.2.2.1) (hl : (i, Value.int x) :: ls.filter (fun q => !(q.1 == i) && !(q.1 + 1 == i && q.2.category == 2)) = ls') (k : ac_AW p l e R s m args below meth c Q K M cells slots (pc + 2) ls' st pre tl) : ac_AW p l e R s m args below meth c Q K M cells slots pc ls (.int x :: st) pre tl :=
  fun H locs LS hP hD hS hL => lv_istore C.1 C.2.1 hd hL hn hl (fun LS' hL' => k H locs LS' hP hD hS hL')
end ACL
