/-! CALL, END inside a program, and how a step begins. -/
theorem pu_id {ρ : Type} {o : Option (ρ × gw_M)} : gw_bd o (fun r M => some (r, M)) = o := by
  cases o with
  | none => rfl
  | some z => rfl
theorem qx_call {C R : gw_M} {t p n c k x d s a : Nat} {off : Int32} {av mv : Nat → Nat} (ht : t < 4) (hx2 : x + 1 < n) (hoff : 0 ≤ (x : Int) + 1 + off.toInt ∧ (x : Int) + 1 + off.toInt < n) (e4 : C.1 (25 + 6 * p) x = off) (hc4 : c < 4) (hB : ff_B C R t p n c k av mv) (hZ : qf_Z C t k av) (h17 : R.1 17 (t + 1) = nI x) : ∃ (C1 R1 : gw_M), fr_call_b0 C (48 + 7 * t) (21 + 6 * p) (nI x) = some (0, C1) ∧ mo_step_b211 (gw_sI (gw_sI R 19 (4 * (t + 1) + c) (nI (x + 1))) 20 (t + 1) (nI (c + 1))) 0 (nI (t + 1)) (nI a) (nI 13) (nI (10 * (t + 1) + d)) (nI (10 * (t + 1) + s)) (nI x + 1 + off) = some (0, R1) ∧ sk_C C C1 t ∧ sk_R R R1 t ∧ ff_R C1 R1 t 0 := by
  obtain ⟨hP, ⟨hc, ⟨hq1, hq2⟩, hq3⟩, hS, hG⟩ := hB
  have hn := hP.1.2
  have hp3 := hP.1.1
  obtain ⟨y, hy, hg⟩ := pu_goto (off := off) (show x < 32 by omega) hn hoff.1 hoff.2
  have hB2 : ff_B (gw_sI (gw_sI C (54 + 7 * t) c (nI (x + 1))) (48 + 7 * t) 4 (nI (c + 1))) (gw_sI (gw_sI R 19 (4 * (t + 1) + c) (nI (x + 1))) 20 (t + 1) (nI (c + 1))) t p n (c + 1) k av mv := by
    refine ⟨?_, ⟨by omega, ⟨pu_r2 rfl rfl, pu_r2 rfl rfl⟩, fun j hj => ?_⟩, ?_, ?_⟩
    · obtain ⟨h1, ⟨h2, h3⟩, h4, h5⟩ := hP
      refine ⟨h1, ⟨?_, ?_⟩, ?_, ?_⟩
      · rw [gw_sI_1 _ (by omega), gw_sI_1 _ (by omega)]
        exact h2
      · rw [gw_sI_1 12 (by decide), gw_sI_1 12 (by decide)]
        exact h3
      · rw [gw_sI_1 _ (by omega), gw_sI_1 _ (by omega)]
        exact h4
      · rw [gw_sI_1 _ (by omega), gw_sI_1 _ (by omega)]
        exact h5
    · rw [gw_sI_1 _ (by omega), gw_sI_1 19 (by decide)]
      by_cases hj2 : j = c
      · subst hj2
        exact ⟨x + 1, hx2, pu_r2 rfl rfl, pu_r2 rfl rfl⟩
      · rw [pu_r3 hj2, pu_r3 (by omega)]
        exact hq3 j (by omega)
    · obtain ⟨h1, h2, h3, h4⟩ := hS
      refine ⟨h1, qs_Cc h2 ?_ ?_ ?_, qs_Rc h3 ?_ ?_ ?_, h4⟩
      · rw [gw_sI_1 _ (by omega), gw_sI_1 _ (by omega)]
      · rw [gw_sI_1 _ (by omega), gw_sI_1 _ (by omega)]
      · rw [gw_sI_1 _ (by omega), gw_sI_1 _ (by omega)]
      · rw [gw_sI_1 14 (by decide), gw_sI_1 14 (by decide)]
      · rw [gw_sI_1 15 (by decide), gw_sI_1 15 (by decide)]
      · rw [gw_sI_1 16 (by decide), gw_sI_1 16 (by decide)]
    · exact hG
  have hZ2 : qf_Z (gw_sI (gw_sI C (54 + 7 * t) c (nI (x + 1))) (48 + 7 * t) 4 (nI (c + 1))) t k av := fun i h1 h2 => by
    rw [gw_sI_1 5 (by omega), gw_sI_1 5 (by omega)]
    exact hZ i h1 h2
  have go := ff_go hB2 hZ2 hy
  refine ⟨_, _, ?_, ?_, ((sk_C.i (by omega)).tr (sk_C.i (by omega))).tr go.1, ((sk_R.i (by omega)).tr (sk_R.i (by omega))).tr go.2.1, go.2.2⟩
  · unfold fr_call_b0
    rw [hq1, if_pos (show nI c < (4 : Int32) by rw [pu_lit 4]; exact nI_lt hc4 (by decide)), pu_gi hc4 (by decide), nI_clamp (show c < 2 ^ 31 by omega), pu_lt, gw_sI_1 _ (by omega), hq1, nI_1, nI_1, pu_lt, pu_gi (show x < 32 by omega) (by decide), nI_clamp (show x < 2 ^ 31 by omega), gw_sI_1 _ (by omega), gw_sI_1 _ (by omega), show 21 + 6 * p + 4 = 25 + 6 * p by omega, e4, ← nI_1, hg, pu_lt, show 48 + 7 * t + 6 = 54 + 7 * t by omega]
  · unfold mo_step_b211 mo_step_b271 mo_step_b276
    rw [if_neg (by decide), if_pos (by decide), if_pos (by decide), hg]
    exact (pu_315 (x := x) ht (by rw [gw_sI_1 17 (by decide), gw_sI_1 17 (by decide)]; exact h17)).2
theorem qx_goBack {C R : gw_M} {t p n c k : Nat} {av mv : Nat → Nat} (ht : t < 4) (hc0 : 0 < c) (hB : ff_B C R t p n c k av mv) (hZ : qf_Z C t k av) : ∃ (C1 R1 : gw_M), fr_goBack_b0 C (48 + 7 * t) = some (1, C1) ∧ mo_end_b0 R 0 (nI (t + 1)) = some (0, R1) ∧ sk_C C C1 t ∧ sk_R R R1 t ∧ ff_R C1 R1 t 0 := by
  obtain ⟨hP, ⟨hc, ⟨hq1, hq2⟩, hq3⟩, hS, hG⟩ := hB
  obtain ⟨b, rfl⟩ : ∃ b, c = b + 1 := ⟨c - 1, by omega⟩
  obtain ⟨y, hy, y1, y2⟩ := hq3 b (by omega)
  have hB2 : ff_B (gw_sI C (48 + 7 * t) 4 (nI b)) (gw_sI R 20 (t + 1) (nI b)) t p n b k av mv := by
    refine ⟨?_, ⟨by omega, ⟨pu_r2 rfl rfl, pu_r2 rfl rfl⟩, fun j hj => ?_⟩, ?_, ?_⟩
    · obtain ⟨h1, ⟨h2, h3⟩, h4, h5⟩ := hP
      refine ⟨h1, ⟨?_, ?_⟩, ?_, ?_⟩
      · rw [gw_sI_1 _ (by omega)]
        exact h2
      · rw [gw_sI_1 12 (by decide)]
        exact h3
      · rw [gw_sI_1 _ (by omega)]
        exact h4
      · rw [gw_sI_1 _ (by omega)]
        exact h5
    · rw [gw_sI_1 _ (by omega), gw_sI_1 19 (by decide)]
      exact hq3 j (by omega)
    · obtain ⟨h1, h2, h3, h4⟩ := hS
      refine ⟨h1, qs_Cc h2 ?_ ?_ ?_, qs_Rc h3 ?_ ?_ ?_, h4⟩
      · rw [gw_sI_1 _ (by omega)]
      · rw [gw_sI_1 _ (by omega)]
      · rw [gw_sI_1 _ (by omega)]
      · rw [gw_sI_1 14 (by decide)]
      · rw [gw_sI_1 15 (by decide)]
      · rw [gw_sI_1 16 (by decide)]
    · exact hG
  have hZ2 : qf_Z (gw_sI C (48 + 7 * t) 4 (nI b)) t k av := fun i h1 h2 => by
    rw [gw_sI_1 5 (by omega)]
    exact hZ i h1 h2
  have go := ff_go hB2 hZ2 hy
  refine ⟨_, _, ?_, ?_, (sk_C.i (by omega)).tr go.1, (sk_R.i (by omega)).tr go.2.1, go.2.2⟩
  · unfold fr_goBack_b0
    rw [hq1, if_neg (nI_ne0 (by omega) (by omega)), nI_pred, pu_lt, pu_r2 rfl rfl, pu_gi (show b < 4 by omega) (by decide), nI_clamp (show b < 2 ^ 31 by omega), gw_sI_1 _ (by omega), show 48 + 7 * t + 6 = 54 + 7 * t by omega, y1, pu_lt]
  · unfold mo_end_b0
    rw [pu_gi (show t + 1 < 5 by omega) (by decide), nI_clamp (show t + 1 < 2 ^ 31 by omega), Nat.zero_add, hq2, if_neg (nI_nle (by omega) (by omega)), pu_gi (show t + 1 < 5 by omega) (by decide), pu_gi (show t + 1 < 5 by omega) (by decide), nI_pred, pu_lt, pu_gi (show t + 1 < 5 by omega) (by decide), pu_r2 rfl rfl, show (4 : Int32) * nI (t + 1) + nI b = nI (4 * (t + 1) + b) by rw [pu_lit 4, pk_mul, nI_add], pu_gi (show 4 * (t + 1) + b < 20 by omega) (by decide), pu_gi (show t + 1 < 5 by omega) (by decide), nI_clamp (show 4 * (t + 1) + b < 2 ^ 31 by omega), Nat.zero_add, Nat.zero_add, gw_sI_1 19 (by decide), y2, pu_lt]
/-- what the reference does once the unit is paid -/
def pm_rt (M : gw_M) (t x a kd d s c : Nat) (off nn : Int32) : Option (Int32 × gw_M) :=
  if kd = 14 then mo_serve_b0 M 0 (nI (t + 1)) nn
  else if kd = 15 then mo_end_b0 M 0 (nI (t + 1))
  else if kd = 8 then mo_access_b0 M 0 (nI (t + 1)) 1 (nI (10 * (t + 1) + d)) (nI (10 * (t + 1) + s)) off.toInt64
  else if kd = 9 then mo_access_b0 M 0 (nI (t + 1)) 0 (nI (10 * (t + 1) + d)) (nI (10 * (t + 1) + s)) off.toInt64
  else if kd = 13 then (if c = 4 then some (4, M) else mo_step_b211 (gw_sI (gw_sI M 19 (4 * (t + 1) + c) (nI (x + 1))) 20 (t + 1) (nI (c + 1))) 0 (nI (t + 1)) (nI a) (nI kd) (nI (10 * (t + 1) + d)) (nI (10 * (t + 1) + s)) (nI x + 1 + off))
  else mo_step_b211 M 0 (nI (t + 1)) (nI a) (nI kd) (nI (10 * (t + 1) + d)) (nI (10 * (t + 1) + s)) (nI x + 1 + off)
def pm_ct (M : gw_M) (t x kd p : Nat) (nn : Int32) : Option (Int32 × gw_M) :=
  if kd = 8 ∨ kd = 9 then fr_reachMemory_b0 M (48 + 7 * t) (21 + 6 * p) (nI x)
  else if kd = 10 ∨ kd = 11 ∨ kd = 12 then gw_bd (fr_jump_b0 M (48 + 7 * t) (21 + 6 * p) (nI x)) (fun _ N => some ((0 : Int32), N))
  else if kd = 13 then fr_call_b0 M (48 + 7 * t) (21 + 6 * p) (nI x)
  else if kd = 14 then am_serve_b0 M 0 (48 + 7 * t) nn
  else if kd = 15 then gw_bd (fr_goBack_b0 M (48 + 7 * t)) (fun r N => if r = (0 : Int32) then am_finish_b0 N 0 (48 + 7 * t) else some ((0 : Int32), N))
  else gw_bd (fr_reckon_b0 M (48 + 7 * t) (21 + 6 * p) (nI x)) (fun _ N => some ((0 : Int32), N))
