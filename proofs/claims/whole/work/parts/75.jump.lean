/-! Jumps, calls, and the way back. -/
theorem pu_goto {x n : Nat} {off : Int32} (hx : x < 32) (hn : n ≤ 32) (h0 : 0 ≤ (x : Int) + 1 + off.toInt) (h1 : (x : Int) + 1 + off.toInt < n) : ∃ y : Nat, y < n ∧ nI x + 1 + off = nI y := by
  refine ⟨((x : Int) + 1 + off.toInt).toNat, by omega, ?_⟩
  rw [nI_1, pu_iEq, Int32.toInt_add, nI_toInt (by omega), nI_toInt (by omega), Int.bmod_def]
  omega
theorem fo_C.p {C : gw_M} {t : Nat} {x : Int32} : fo_C C (gw_sI C (48 + 7 * t) 5 x) t := ⟨fun k h1 h2 => gw_sI_1 k (by omega), fun k h1 h2 => gw_sI_1 k (by omega), pu_r3 (by decide), gw_sI_1 _ (by omega), rfl, rfl⟩
theorem fo_R.p {R : gw_M} {t : Nat} {x : Int32} : fo_R R (gw_sI R 17 (t + 1) x) t := ⟨⟨by rw [gw_sI_1 12 (by decide)], by rw [gw_sI_1 14 (by decide)]⟩, fun j hj => ⟨by rw [gw_sI_1 15 (by decide)], by rw [gw_sI_1 16 (by decide)]⟩, by rw [gw_sI_1 20 (by decide)], fun j hj => by rw [gw_sI_1 19 (by decide)], fun _ _ => rfl, fun _ _ => rfl, fun _ _ => rfl⟩
/-- the frame goes on at place y -/
theorem ff_go {C R : gw_M} {t p n c k y : Nat} {av mv : Nat → Nat} (hB : ff_B C R t p n c k av mv) (hZ : qf_Z C t k av) (hy : y < n) : sk_C C (gw_sI C (48 + 7 * t) 5 (nI y)) t ∧ sk_R R (gw_sI R 17 (t + 1) (nI y)) t ∧ ff_R (gw_sI C (48 + 7 * t) 5 (nI y)) (gw_sI R 17 (t + 1) (nI y)) t 0 :=
  ⟨sk_C.i (by omega), sk_R.i (by omega), p, n, c, y, k, av, mv, fo_B hB fo_C.p fo_R.p, ⟨hy, pu_r2 rfl rfl, pu_r2 rfl rfl⟩, fun _ => fo_Z hZ fo_C.p (gw_sI_1 5 (by omega))⟩
theorem ff_on {C R : gw_M} {t p n c k x : Nat} {av mv : Nat → Nat} (hB : ff_B C R t p n c k av mv) (hZ : qf_Z C t k av) (h5 : C.1 (48 + 7 * t) 5 = nI (x + 1)) (hx : x + 1 < n) : sk_R R (gw_sI R 17 (t + 1) (nI (x + 1))) t ∧ ff_R C (gw_sI R 17 (t + 1) (nI (x + 1))) t 0 :=
  ⟨sk_R.i (by omega), p, n, c, x + 1, k, av, mv, fo_B hB fo_C.rf fo_R.p, ⟨hx, h5, pu_r2 rfl rfl⟩, fun _ => hZ⟩
theorem pu_315 {R : gw_M} {t x : Nat} {v8 : Int32} (ht : t < 4) (h17 : R.1 17 (t + 1) = nI x) : mo_step_b315 R 0 (nI (t + 1)) v8 0 = some (0, gw_sI R 17 (t + 1) (nI (x + 1))) ∧ mo_step_b315 R 0 (nI (t + 1)) v8 1 = some (0, gw_sI R 17 (t + 1) v8) := by
  unfold mo_step_b315 mo_step_b338
  rw [if_pos rfl, if_neg pu_10, pu_gi (show t + 1 < 5 by omega) (by decide), pu_gi (show t + 1 < 5 by omega) (by decide), nI_clamp (show t + 1 < 2 ^ 31 by omega), pu_lt, Nat.zero_add, h17, nI_1, pu_gi (show t + 1 < 5 by omega) (by decide), pu_lt]
  exact ⟨rfl, rfl⟩
theorem qx_jump {C R : gw_M} {t p n c k x kd d s a : Nat} {off nn : Int32} {av mv : Nat → Nat} (ht : t < 4) (hkd : kd = 10 ∨ kd = 11 ∨ kd = 12) (hd : d < 10) (hs : s < 10) (hx : x < n) (hx2 : kd ≠ 10 → x + 1 < n) (hoff : 0 ≤ (x : Int) + 1 + off.toInt ∧ (x : Int) + 1 + off.toInt < n) (ha : a < 96) (e1 : C.1 (22 + 6 * p) x = nI kd) (e2 : C.1 (23 + 6 * p) x = nI d) (e3 : C.1 (24 + 6 * p) x = nI s) (e4 : C.1 (25 + 6 * p) x = off) (e5 : C.1 (26 + 6 * p) x = nn) (g5 : R.1 11 a = nn) (hB : ff_B C R t p n c k av mv) (hZ : qf_Z C t k av) (h5 : C.1 (48 + 7 * t) 5 = nI (x + 1)) (h17 : R.1 17 (t + 1) = nI x) : ∃ (C1 R1 : gw_M), fr_jump_b0 C (48 + 7 * t) (21 + 6 * p) (nI x) = some ((), C1) ∧ mo_step_b211 R 0 (nI (t + 1)) (nI a) (nI kd) (nI (10 * (t + 1) + d)) (nI (10 * (t + 1) + s)) (nI x + 1 + off) = some (0, R1) ∧ sk_C C C1 t ∧ sk_R R R1 t ∧ ff_R C1 R1 t 0 := by
  have hn := hB.1.1.2
  obtain ⟨y, hy, hg⟩ := pu_goto (off := off) (show x < 32 by omega) hn hoff.1 hoff.2
  have hj : fr_jump_b82 C (48 + 7 * t) (21 + 6 * p) (nI x) 1 = some ((), gw_sI C (48 + 7 * t) 5 (nI y)) := by
    unfold fr_jump_b82
    rw [if_neg pu_10, pu_gi (show x < 32 by omega) (by decide), nI_clamp (show x < 2 ^ 31 by omega), show 21 + 6 * p + 4 = 25 + 6 * p by omega, e4, hg, pu_lt]
  have hj0 : fr_jump_b82 C (48 + 7 * t) (21 + 6 * p) (nI x) 0 = some ((), C) := by
    unfold fr_jump_b82
    rw [if_pos rfl]
  have hr1 : 10 ≤ kd → mo_step_b271 R 0 (nI (t + 1)) (nI a) (nI kd) (nI (10 * (t + 1) + d)) (nI (10 * (t + 1) + s)) (nI x + 1 + off) = some (0, gw_sI R 17 (t + 1) (nI y)) := fun h => by
    unfold mo_step_b271 mo_step_b276
    rw [if_pos (show (8 : Int32) ≤ nI kd by rw [pu_lit 8]; exact nI_le (by omega) (by omega)), hg, (pu_315 ht h17).2]
  have hr0 : 10 ≤ kd → mo_step_b275 R 0 (nI (t + 1)) (nI a) (nI kd) (nI (10 * (t + 1) + d)) (nI (10 * (t + 1) + s)) (nI x + 1 + off) = some (0, gw_sI R 17 (t + 1) (nI (x + 1))) := fun h => by
    unfold mo_step_b275 mo_step_b276
    rw [if_pos (show (8 : Int32) ≤ nI kd by rw [pu_lit 8]; exact nI_le (by omega) (by omega)), (pu_315 ht h17).1]
  have go := ff_go hB hZ hy
  unfold fr_jump_b0 fr_jump_b43 fr_jump_b80 mo_step_b211 mo_step_b247
  rw [show 21 + 6 * p + 1 = 22 + 6 * p by omega, show 21 + 6 * p + 2 = 23 + 6 * p by omega, show 21 + 6 * p + 3 = 24 + 6 * p by omega, show 21 + 6 * p + 5 = 26 + 6 * p by omega, show 48 + 7 * t + 4 = 52 + 7 * t by omega]
  simp only [pu_gi (show x < 32 by omega) (by decide), nI_clamp (show x < 2 ^ 31 by omega), pu_lt, e1, e2, e3, e5, pu_gi hd (by decide), nI_clamp (show d < 2 ^ 31 by omega), pu_gi hs (by decide), nI_clamp (show s < 2 ^ 31 by omega), hj, hj0, hr1 (by omega), hr0 (by omega), pu_gi (show 10 * (t + 1) + d < 50 by omega) (by decide), pu_gi (show 10 * (t + 1) + s < 50 by omega) (by decide), pu_gi ha (by decide), nI_clamp (show 10 * (t + 1) + d < 2 ^ 31 by omega), nI_clamp (show 10 * (t + 1) + s < 2 ^ 31 by omega), nI_clamp (show a < 2 ^ 31 by omega), Nat.zero_add, g5, ← hB.2.2.2.1 d hd, ← hB.2.2.2.1 s hs]
  rcases hkd with rfl | rfl | rfl
  · exact ⟨_, _, by rw [if_neg (by decide), if_neg (by decide)], by rw [if_pos (by decide)], go.1, go.2.1, go.2.2⟩
  · have on := ff_on hB hZ h5 (hx2 (by decide))
    by_cases hc : lg_cmp (C.2 (52 + 7 * t) d) nn.toInt64 = 0
    · exact ⟨_, _, by rw [if_pos (by decide), if_pos hc], by rw [if_neg (by decide), if_neg (by decide), if_pos (by decide), if_pos hc], go.1, go.2.1, go.2.2⟩
    · exact ⟨_, _, by rw [if_pos (by decide), if_neg hc], by rw [if_neg (by decide), if_neg (by decide), if_pos (by decide), if_neg hc, if_neg (by decide)], sk_C.rf, on.1, on.2⟩
  · have on := ff_on hB hZ h5 (hx2 (by decide))
    by_cases hc : 0 ≤ lg_cmp (C.2 (52 + 7 * t) d) (C.2 (52 + 7 * t) s)
    · exact ⟨_, _, by rw [if_neg (by decide), if_pos (by decide), if_pos hc], by rw [if_neg (by decide), if_neg (by decide), if_neg (by decide), if_pos (by decide), if_pos hc], sk_C.rf, on.1, on.2⟩
    · exact ⟨_, _, by rw [if_neg (by decide), if_pos (by decide), if_neg hc], by rw [if_neg (by decide), if_neg (by decide), if_neg (by decide), if_pos (by decide), if_neg hc], go.1, go.2.1, go.2.2⟩
