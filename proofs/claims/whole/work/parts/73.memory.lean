/-! LOAD and STORE. -/
/-- a register is written, and the frame goes on with the next instruction -/
theorem ff_reg {C R : gw_M} {t p n c k x d : Nat} {av mv : Nat → Nat} {v : Int64} (hB : ff_B C R t p n c k av mv) (hZ : qf_Z C t k av) (h5 : C.1 (48 + 7 * t) 5 = nI (x + 1)) (hx : x + 1 < n) (hd : d < 10) : sk_C C (gw_sL C (52 + 7 * t) d v) t ∧ sk_R R (gw_sI (gw_sL R 18 (10 * (t + 1) + d) v) 17 (t + 1) (nI (x + 1))) t ∧ ff_R (gw_sL C (52 + 7 * t) d v) (gw_sI (gw_sL R 18 (10 * (t + 1) + d) v) 17 (t + 1) (nI (x + 1))) t 0 := by
  obtain ⟨hP, hQ, ⟨hO, hC, hR, hM, hN, hK⟩, hG⟩ := hB
  have hg := sk_reg (v := v) hd hG
  refine ⟨sk_C.l (by omega), (sk_R.l (by omega)).tr (sk_R.i (by omega)), p, n, c, x + 1, k, av, mv, ⟨?_, ?_, ⟨hO, ?_, ?_, fun y hy => ?_, fun i hi => ?_, fun i hi => ?_⟩, ⟨fun r hr => ?_, fun y hy => ?_⟩⟩, ⟨hx, h5, pu_r2 rfl rfl⟩, fun _ i h1 h2 => ?_⟩
  · unfold ff_P
    rw [gw_sI_1 12 (by decide)]
    exact hP
  · unfold ff_Q
    rw [gw_sI_1 20 (by decide), gw_sI_1 19 (by decide)]
    exact hQ
  · exact hC
  · exact qs_Rc hR (by rw [gw_sI_1 14 (by decide), pu_sL1]) (by rw [gw_sI_1 15 (by decide), pu_sL1]) (by rw [gw_sI_1 16 (by decide), pu_sL1])
  · rw [pu_sI2, pu_q1 (by omega), pu_q1 (by decide)]
    exact hM y hy
  · rw [pu_q1 (by omega)]
    exact hN i hi
  · rw [pu_q1 (by omega)]
    exact hK i hi
  · exact hg.1 r hr
  · exact hg.2 y hy
  · rw [pu_sL1, pu_q1 (by omega)]
    exact hZ i h1 h2
/-- a word of the stack is written -/
theorem ff_stk {C R : gw_M} {t p n c k x y : Nat} {av mv : Nat → Nat} {v : Int64} (hB : ff_B C R t p n c k av mv) (hZ : qf_Z C t k av) (h5 : C.1 (48 + 7 * t) 5 = nI (x + 1)) (hx : x + 1 < n) (hy : y < 16) : sk_C C (gw_sL C (53 + 7 * t) y v) t ∧ sk_R R (gw_sI (gw_sL R 21 (16 * (t + 1) + y) v) 17 (t + 1) (nI (x + 1))) t ∧ ff_R (gw_sL C (53 + 7 * t) y v) (gw_sI (gw_sL R 21 (16 * (t + 1) + y) v) 17 (t + 1) (nI (x + 1))) t 0 := by
  obtain ⟨hP, hQ, ⟨hO, hC, hR, hM, hN, hK⟩, hG⟩ := hB
  refine ⟨sk_C.l (by omega), (sk_R.l (by omega)).tr (sk_R.i (by omega)), p, n, c, x + 1, k, av, mv, ⟨?_, ?_, ⟨hO, ?_, ?_, fun y hy => ?_, fun i hi => ?_, fun i hi => ?_⟩, ⟨fun r hr => ?_, fun z hz => ?_⟩⟩, ⟨hx, h5, pu_r2 rfl rfl⟩, fun _ i h1 h2 => ?_⟩
  · unfold ff_P
    rw [gw_sI_1 12 (by decide)]
    exact hP
  · unfold ff_Q
    rw [gw_sI_1 20 (by decide), gw_sI_1 19 (by decide)]
    exact hQ
  · exact hC
  · exact qs_Rc hR (by rw [gw_sI_1 14 (by decide), pu_sL1]) (by rw [gw_sI_1 15 (by decide), pu_sL1]) (by rw [gw_sI_1 16 (by decide), pu_sL1])
  · rw [pu_sI2, pu_q3 (by omega), pu_q1 (by decide)]
    exact hM y hy
  · rw [pu_q3 (by omega)]
    exact hN i hi
  · rw [pu_q3 (by omega)]
    exact hK i hi
  · rw [pu_sI2, pu_q1 (by omega), pu_q1 (by decide)]
    exact hG.1 r hr
  · rw [pu_sI2]
    by_cases h0 : z = y
    · subst h0
      rw [pu_q2 rfl rfl, pu_q2 rfl rfl]
    · rw [pu_q3 h0, pu_q3 (by omega)]
      exact hG.2 z hz
  · obtain ⟨z, hz, g1, g2, g3⟩ := hZ i h1 h2
    refine ⟨z, hz, g1, by rw [pu_q3 (by omega)]; exact g2, fun w hw hzw => by rw [pu_q3 (by omega)]; exact g3 w hw hzw⟩
/-- a word that the program sees is written -/
theorem ff_mem {C R : gw_M} {t p n c k x i w z : Nat} {av mv : Nat → Nat} {v : Int64} (hB : ff_B C R t p n c k av mv) (hZ : qf_Z C t k av) (h5 : C.1 (48 + 7 * t) 5 = nI (x + 1)) (hx : x + 1 < n) (hi : i < k) (hw : w < 10) (hz : z ≤ 4) (hmain : ¬ ∃ m, m < i ∧ av m = av i) (h4 : C.2 (53 + 7 * t) (16 + 10 * i + 4) = (nI z).toInt64) (hms : pm_ms w z = true) : sk_C C (gw_sL C (53 + 7 * t) (16 + (10 * i + w)) v) t ∧ sk_R R (gw_sI (gw_sL R 22 (40 * (t + 1) + (10 * i + w)) v) 17 (t + 1) (nI (x + 1))) t ∧ ff_R (gw_sL C (53 + 7 * t) (16 + (10 * i + w)) v) (gw_sI (gw_sL R 22 (40 * (t + 1) + (10 * i + w)) v) 17 (t + 1) (nI (x + 1))) t 0 := by
  obtain ⟨hP, hQ, ⟨hO, hC, hR, hM, hN, hK⟩, hG⟩ := hB
  have hk := hO.1
  have hms2 : w = 2 ∨ w = 3 ∨ (5 ≤ w ∧ w < 5 + z) := of_decide_eq_true hms
  refine ⟨sk_C.l (by omega), (sk_R.l (by omega)).tr (sk_R.i (by omega)), p, n, c, x + 1, k, av, mv, ⟨?_, ?_, ⟨hO, ?_, ?_, fun y hy => ?_, fun j hj => ?_, fun j hj => ?_⟩, ⟨fun r hr => ?_, fun y hy => ?_⟩⟩, ⟨hx, h5, pu_r2 rfl rfl⟩, fun _ j h1 h2 => ?_⟩
  · unfold ff_P
    rw [gw_sI_1 12 (by decide)]
    exact hP
  · unfold ff_Q
    rw [gw_sI_1 20 (by decide), gw_sI_1 19 (by decide)]
    exact hQ
  · exact hC
  · exact qs_Rc hR (by rw [gw_sI_1 14 (by decide), pu_sL1]) (by rw [gw_sI_1 15 (by decide), pu_sL1]) (by rw [gw_sI_1 16 (by decide), pu_sL1])
  · rw [pu_sI2]
    by_cases h0 : y = 10 * i + w
    · subst h0
      rw [pu_q2 rfl rfl, pu_q2 rfl rfl]
    · rw [pu_q3 (by omega), pu_q3 (by omega)]
      exact hM y hy
  · rw [pu_q3 (by omega)]
    exact hN j hj
  · rw [pu_q3 (by omega)]
    exact hK j hj
  · rw [pu_sI2, pu_q1 (by omega), pu_q1 (by decide)]
    exact hG.1 r hr
  · rw [pu_sI2, pu_q3 (by omega), pu_q1 (by decide)]
    exact hG.2 y hy
  · obtain ⟨z1, hz1, g1, g2, g3⟩ := hZ j h1 h2
    refine ⟨z1, hz1, g1, by rw [pu_q3 (by omega)]; exact g2, fun a ha hza => ?_⟩
    by_cases hji : j = i
    · subst hji
      have hzz : z1 = z := by
        rw [g2, nI_l (by omega), nI_l (by omega)] at h4
        exact (lN_eq (by omega) (by omega)).mp h4
      rw [pu_q3 (by omega)]
      exact g3 a ha hza
    · rw [pu_q3 (by omega)]
      exact g3 a ha hza
theorem pu_n1 {y : Nat} (h : y < 2 ^ 31) : ¬ nI y = (-1 : Int32) := by
  rw [pu_iEq, nI_toInt h, show (-1 : Int32).toInt = -1 by decide]
  omega
theorem pu_ac {R : gw_M} {t x : Nat} (ht : t < 4) (h : R.1 17 (t + 1) = nI x) : mo_access_b160 R 0 (nI (t + 1)) = some (0, gw_sI R 17 (t + 1) (nI (x + 1))) := by
  unfold mo_access_b160
  rw [pu_gi (show t + 1 < 5 by omega) (by decide), pu_gi (show t + 1 < 5 by omega) (by decide), nI_clamp (show t + 1 < 2 ^ 31 by omega), pu_lt, Nat.zero_add, h, nI_1]
theorem qx_load {C R : gw_M} {t p n c k x d s : Nat} {off : Int32} {av mv : Nat → Nat} (ht : t < 4) (hd : d < 10) (hs : s < 10) (hx : x + 1 < n) (e1 : C.1 (22 + 6 * p) x = nI 8) (e2 : C.1 (23 + 6 * p) x = nI d) (e3 : C.1 (24 + 6 * p) x = nI s) (e4 : C.1 (25 + 6 * p) x = off) (hB : ff_B C R t p n c k av mv) (hZ : qf_Z C t k av) (h5 : C.1 (48 + 7 * t) 5 = nI (x + 1)) (h17 : R.1 17 (t + 1) = nI x) : ∃ (w : Nat) (C1 R1 : gw_M), w < 15 ∧ fr_reachMemory_b0 C (48 + 7 * t) (21 + 6 * p) (nI x) = some (nI w, C1) ∧ mo_access_b0 R 0 (nI (t + 1)) 1 (nI (10 * (t + 1) + d)) (nI (10 * (t + 1) + s)) off.toInt64 = some (nI w, R1) ∧ sk_C C C1 t ∧ sk_R R R1 t ∧ (w = 0 → ff_R C1 R1 t 0) := by
  have hn := hB.1.1.2
  have hk := hB.2.2.1.1.1
  have hck : C.1 (48 + 7 * t + 1) 2 = nI k := by rw [show 48 + 7 * t + 1 = 49 + 7 * t by omega]; exact hB.2.2.1.2.1.1
  have hrk : R.1 14 (3 + (t + 1)) = nI k := by rw [show 3 + (t + 1) = 4 + t by omega]; exact hB.2.2.1.2.2.1.1
  have cC : fr_reachMemory_b0 C (48 + 7 * t) (21 + 6 * p) (nI x) = gw_bd (fr_indexOf_b0 C (48 + 7 * t) (C.2 (52 + 7 * t) s + off.toInt64)) (fun r M => if r = (-1 : Int32) then some ((2 : Int32), M) else fr_reachMemory_b85 M (48 + 7 * t) (nI d) (nI s) 0 r) := by
    unfold fr_reachMemory_b0 fr_reachMemory_b31 fr_reachMemory_b49
    rw [show 21 + 6 * p + 1 = 22 + 6 * p by omega, show 21 + 6 * p + 2 = 23 + 6 * p by omega, show 21 + 6 * p + 3 = 24 + 6 * p by omega, show 21 + 6 * p + 4 = 25 + 6 * p by omega, show 48 + 7 * t + 4 = 52 + 7 * t by omega]
    simp only [pu_gi (show x < 32 by omega) (by decide), nI_clamp (show x < 2 ^ 31 by omega), pu_lt, e1, e2, e3, e4, pu_gi hs (by decide), nI_clamp (show s < 2 ^ 31 by omega), if_true]
    rw [if_neg (by decide)]
  have cR : mo_access_b0 R 0 (nI (t + 1)) 1 (nI (10 * (t + 1) + d)) (nI (10 * (t + 1) + s)) off.toInt64 = gw_bd (mo_wordAt_b0 R 0 (nI (t + 1)) (C.2 (52 + 7 * t) s + off.toInt64)) (fun r24 M24 => gw_bd (mo_in_b0 M24 (C.2 (52 + 7 * t) s + off.toInt64) (1000 : Int64) (1015 : Int64)) (fun r37 M37 => if r37 = (0 : Int32) then (if (0 : Int32) ≤ r24 then (mo_access_b54 M37 0 (nI (t + 1)) 1 (nI (10 * (t + 1) + d)) (nI (10 * (t + 1) + s)) (C.2 (52 + 7 * t) s + off.toInt64) r24 r37) else (some ((2 : Int32), M37))) else (mo_access_b54 M37 0 (nI (t + 1)) 1 (nI (10 * (t + 1) + d)) (nI (10 * (t + 1) + s)) (C.2 (52 + 7 * t) s + off.toInt64) r24 r37))) := by
    unfold mo_access_b0 mo_access_b14
    rw [if_neg pu_10, pu_gi (show 10 * (t + 1) + s < 50 by omega) (by decide), nI_clamp (show 10 * (t + 1) + s < 2 ^ 31 by omega), Nat.zero_add, ← hB.2.2.2.1 s hs, pu_lt]
  rw [cC, cR]
  rcases pu_addr (C.2 (52 + 7 * t) s + off.toInt64) k hk with ⟨y, hy, hA⟩ | ⟨i, w, hi, hw, hA⟩ | ⟨hA1, hA2⟩
  · obtain ⟨f1, f2, f3⟩ := ff_reg (v := C.2 (53 + 7 * t) y) hB hZ h5 hx hd
    refine ⟨0, _, _, by decide, ?_, ?_, f1, f2, fun _ => f3⟩
    · rw [hA, pu_idx1 C _ y hy, pu_bd, if_neg (pu_n1 (by omega))]
      unfold fr_reachMemory_b85
      rw [if_pos rfl, pu_gi (show y < 56 by omega) (by decide), pu_gi hd (by decide), nI_clamp (show d < 2 ^ 31 by omega), nI_clamp (show y < 2 ^ 31 by omega), pu_lt, show 48 + 7 * t + 4 = 52 + 7 * t by omega, show 48 + 7 * t + 5 = 53 + 7 * t by omega]
      rfl
    · rw [hA, pu_wd0 (by rw [lN_toInt (by omega)]; omega), pu_bd, pu_moin, pu_bd, pu_L1000, pu_L1015, lN_toInt (by omega), if_pos (show (1000 : Int) ≤ ((1000 + y : Nat) : Int) ∧ ((1000 + y : Nat) : Int) ≤ 1015 by omega), if_neg pu_10]
      unfold mo_access_b54 mo_access_b75 mo_access_b108
      rw [if_neg pu_10, if_neg pu_10, if_neg pu_10, lN_i, show (16 : Int32) * nI (t + 1) + nI (1000 + y) - (1000 : Int32) = nI (16 * (t + 1) + y) by rw [pu_lit 16, pk_mul, nI_add, pu_lit 1000, pk_sub (by omega), show 16 * (t + 1) + (1000 + y) - 1000 = 16 * (t + 1) + y by omega], pu_gi (show 16 * (t + 1) + y < 80 by omega) (by decide), pu_gi (show 10 * (t + 1) + d < 50 by omega) (by decide), nI_clamp (show 16 * (t + 1) + y < 2 ^ 31 by omega), nI_clamp (show 10 * (t + 1) + d < 2 ^ 31 by omega), pu_lt, pu_ac (x := x) ht (by rw [pu_sL1]; exact h17), Nat.zero_add, Nat.zero_add, ← hB.2.2.2.2 y hy]
      rfl
  · obtain ⟨f1, f2, f3⟩ := ff_reg (v := C.2 (53 + 7 * t) (16 + (10 * i + w))) hB hZ h5 hx hd
    refine ⟨0, _, _, by decide, ?_, ?_, f1, f2, fun _ => f3⟩
    · rw [hA, pu_idx2 hk hck (by omega), pu_bd, if_neg (pu_n1 (by omega))]
      unfold fr_reachMemory_b85
      rw [if_pos rfl, pu_gi (show 16 + (10 * i + w) < 56 by omega) (by decide), pu_gi hd (by decide), nI_clamp (show d < 2 ^ 31 by omega), nI_clamp (show 16 + (10 * i + w) < 2 ^ 31 by omega), pu_lt, show 48 + 7 * t + 4 = 52 + 7 * t by omega, show 48 + 7 * t + 5 = 53 + 7 * t by omega]
      rfl
    · rw [hA, pu_wd2 (by omega) hk hrk (by omega), pu_bd, pu_moin, pu_bd, pu_L1000, pu_L1015, lN_toInt (by omega), if_neg (show ¬ ((1000 : Int) ≤ ((2000 + (10 * i + w) : Nat) : Int) ∧ ((2000 + (10 * i + w) : Nat) : Int) ≤ 1015) by omega), if_pos rfl, if_pos (nI_pos' (by omega))]
      unfold mo_access_b54 mo_access_b75 mo_access_b108
      rw [if_pos rfl, if_neg pu_10, if_pos rfl, pu_gi (show 40 * (t + 1) + (10 * i + w) < 200 by omega) (by decide), pu_gi (show 10 * (t + 1) + d < 50 by omega) (by decide), nI_clamp (show 40 * (t + 1) + (10 * i + w) < 2 ^ 31 by omega), nI_clamp (show 10 * (t + 1) + d < 2 ^ 31 by omega), pu_lt, pu_ac (x := x) ht (by rw [pu_sL1]; exact h17), Nat.zero_add, Nat.zero_add, ← hB.2.2.1.2.2.2.1 (10 * i + w) (by omega)]
      rfl
  · refine ⟨2, C, R, by decide, ?_, ?_, sk_C.rf, sk_R.rf, fun q => absurd q (by decide)⟩
    · rw [pu_idx3 hk hck hA1 hA2, pu_bd, if_pos rfl]
      rfl
    · rw [pu_wd3 (by omega) hk hrk hA2, pu_bd, pu_moin, pu_bd, pu_L1000, pu_L1015, if_neg (show ¬ ((1000 : Int) ≤ (C.2 (52 + 7 * t) s + off.toInt64).toInt ∧ (C.2 (52 + 7 * t) s + off.toInt64).toInt ≤ 1015) by omega), if_pos rfl, if_neg (by decide)]
      rfl
