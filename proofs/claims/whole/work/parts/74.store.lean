/-! STORE. -/
theorem qx_store {C R : gw_M} {t p n c k x d s : Nat} {off : Int32} {av mv : Nat → Nat} (ht : t < 4) (hd : d < 10) (hs : s < 10) (hx : x + 1 < n) (e1 : C.1 (22 + 6 * p) x = nI 9) (e2 : C.1 (23 + 6 * p) x = nI d) (e3 : C.1 (24 + 6 * p) x = nI s) (e4 : C.1 (25 + 6 * p) x = off) (hB : ff_B C R t p n c k av mv) (hZ : qf_Z C t k av) (h5 : C.1 (48 + 7 * t) 5 = nI (x + 1)) (h17 : R.1 17 (t + 1) = nI x) : ∃ (w : Nat) (C1 R1 : gw_M), w < 15 ∧ fr_reachMemory_b0 C (48 + 7 * t) (21 + 6 * p) (nI x) = some (nI w, C1) ∧ mo_access_b0 R 0 (nI (t + 1)) 0 (nI (10 * (t + 1) + d)) (nI (10 * (t + 1) + s)) off.toInt64 = some (nI w, R1) ∧ sk_C C C1 t ∧ sk_R R R1 t ∧ (w = 0 → ff_R C1 R1 t 0) := by
  have hn := hB.1.1.2
  have hO := hB.2.2.1.1
  have hk := hO.1
  have hck : C.1 (48 + 7 * t + 1) 2 = nI k := by rw [show 48 + 7 * t + 1 = 49 + 7 * t by omega]; exact hB.2.2.1.2.1.1
  have hrs : qs_R R (3 + (t + 1)) k av mv := by rw [show 3 + (t + 1) = 4 + t by omega]; exact hB.2.2.1.2.2.1
  have hrk := hrs.1
  have cC : fr_reachMemory_b0 C (48 + 7 * t) (21 + 6 * p) (nI x) = gw_bd (fr_indexOf_b0 C (48 + 7 * t) (C.2 (52 + 7 * t) d + off.toInt64)) (fun r M => if r = (-1 : Int32) then some ((2 : Int32), M) else gw_bd (fr_mayStore_b0 M (48 + 7 * t) r) (fun r77 M77 => if r77 = (0 : Int32) then (some ((2 : Int32), M77)) else fr_reachMemory_b85 M77 (48 + 7 * t) (nI d) (nI s) 1 r)) := by
    unfold fr_reachMemory_b0 fr_reachMemory_b31 fr_reachMemory_b49
    rw [show 21 + 6 * p + 1 = 22 + 6 * p by omega, show 21 + 6 * p + 2 = 23 + 6 * p by omega, show 21 + 6 * p + 3 = 24 + 6 * p by omega, show 21 + 6 * p + 4 = 25 + 6 * p by omega, show 48 + 7 * t + 4 = 52 + 7 * t by omega]
    simp only [pu_gi (show x < 32 by omega) (by decide), nI_clamp (show x < 2 ^ 31 by omega), pu_lt, e1, e2, e3, e4, pu_gi hd (by decide), nI_clamp (show d < 2 ^ 31 by omega), if_neg pu_10]
    rw [if_pos (by decide)]
  have cR : mo_access_b0 R 0 (nI (t + 1)) 0 (nI (10 * (t + 1) + d)) (nI (10 * (t + 1) + s)) off.toInt64 = gw_bd (mo_wordAt_b0 R 0 (nI (t + 1)) (C.2 (52 + 7 * t) d + off.toInt64)) (fun r24 M24 => gw_bd (mo_in_b0 M24 (C.2 (52 + 7 * t) d + off.toInt64) (1000 : Int64) (1015 : Int64)) (fun r37 M37 => if r37 = (0 : Int32) then (if (0 : Int32) ≤ r24 then (mo_access_b54 M37 0 (nI (t + 1)) 0 (nI (10 * (t + 1) + d)) (nI (10 * (t + 1) + s)) (C.2 (52 + 7 * t) d + off.toInt64) r24 r37) else (some ((2 : Int32), M37))) else (mo_access_b54 M37 0 (nI (t + 1)) 0 (nI (10 * (t + 1) + d)) (nI (10 * (t + 1) + s)) (C.2 (52 + 7 * t) d + off.toInt64) r24 r37))) := by
    unfold mo_access_b0 mo_access_b14
    rw [if_pos rfl, pu_gi (show 10 * (t + 1) + d < 50 by omega) (by decide), nI_clamp (show 10 * (t + 1) + d < 2 ^ 31 by omega), Nat.zero_add, ← hB.2.2.2.1 d hd, pu_lt]
  rw [cC, cR]
  rcases pu_addr (C.2 (52 + 7 * t) d + off.toInt64) k hk with ⟨y, hy, hA⟩ | ⟨i, w, hi, hw, hA⟩ | ⟨hA1, hA2⟩
  · obtain ⟨f1, f2, f3⟩ := ff_stk (v := C.2 (52 + 7 * t) s) hB hZ h5 hx hy
    refine ⟨0, _, _, by decide, ?_, ?_, f1, f2, fun _ => f3⟩
    · rw [hA, pu_idx1 C _ y hy, pu_bd, if_neg (pu_n1 (by omega))]
      unfold fr_mayStore_b0
      rw [if_neg (show ¬ (16 : Int32) ≤ nI y by rw [pu_lit 16]; exact nI_ge (by omega) (by decide)), pu_bd, if_neg pu_10]
      unfold fr_reachMemory_b85
      rw [if_neg pu_10, pu_gi hs (by decide), pu_gi (show y < 56 by omega) (by decide), nI_clamp (show s < 2 ^ 31 by omega), nI_clamp (show y < 2 ^ 31 by omega), pu_lt, show 48 + 7 * t + 4 = 52 + 7 * t by omega, show 48 + 7 * t + 5 = 53 + 7 * t by omega]
      rfl
    · rw [hA, pu_wd0 (by rw [lN_toInt (by omega)]; omega), pu_bd, pu_moin, pu_bd, pu_L1000, pu_L1015, lN_toInt (by omega), if_pos (show (1000 : Int) ≤ ((1000 + y : Nat) : Int) ∧ ((1000 + y : Nat) : Int) ≤ 1015 by omega), if_neg pu_10]
      unfold mo_access_b54 mo_access_b75
      rw [if_neg pu_10, if_pos rfl, if_neg pu_10, lN_i, show (16 : Int32) * nI (t + 1) + nI (1000 + y) - (1000 : Int32) = nI (16 * (t + 1) + y) by rw [pu_lit 16, pk_mul, nI_add, pu_lit 1000, pk_sub (by omega), show 16 * (t + 1) + (1000 + y) - 1000 = 16 * (t + 1) + y by omega], pu_gi (show 10 * (t + 1) + s < 50 by omega) (by decide), pu_gi (show 16 * (t + 1) + y < 80 by omega) (by decide), nI_clamp (show 16 * (t + 1) + y < 2 ^ 31 by omega), nI_clamp (show 10 * (t + 1) + s < 2 ^ 31 by omega), pu_lt, pu_ac (x := x) ht (by rw [pu_sL1]; exact h17), Nat.zero_add, Nat.zero_add, ← hB.2.2.2.1 s hs]
      rfl
  · have hrW : mo_wordAt_b0 R 0 (nI (t + 1)) (lN (2000 + (10 * i + w))) = some (nI (40 * (t + 1) + (10 * i + w)), R) := pu_wd2 (by omega) hk hrk (by omega)
    obtain ⟨m, hm, hMm⟩ := qs_Mex av i
    by_cases hmi : m = i
    · have hmain : ¬ ∃ a, a < i ∧ av a = av i := fun ⟨a, h1, h2⟩ => hMm.2 a (by omega) h2
      obtain ⟨z, hz, g1, g2, g3⟩ := hZ i hi hmain
      have hz2 : C.2 (48 + 7 * t + 5) (16 + 10 * i + 4) = lN z := by rw [show 48 + 7 * t + 5 = 53 + 7 * t by omega, g2, nI_l (by omega)]
      have hsg : ¬ C.2 (48 + 7 * t + 5) (16 + 10 * i) < 0 := by
        rw [show 48 + 7 * t + 5 = 53 + 7 * t by omega]
        exact fun q => hmain ((hB.2.2.1.2.2.2.2.1 i hi).mp q)
      have hzr : R.2 22 (40 * (t + 1) + 10 * i + 4) = lN z := by
        have := hB.2.2.1.2.2.2.1 (10 * i + 4) (by omega)
        rw [show 40 * (t + 1) + 10 * i + 4 = 40 * (t + 1) + (10 * i + 4) by omega, ← this, show 16 + (10 * i + 4) = 16 + 10 * i + 4 by omega, g2, nI_l (by omega)]
      have hmC := pu_mayC (C := C) (o := 48 + 7 * t) (w := w) (show i < 4 by omega) hw hz hsg hz2
      have hmR := pu_mayR (u := t + 1) (w := w) (z := z) (by omega) hO hrs hi hm hMm hw hz (fun _ => hzr)
      by_cases hms : pm_ms w z = true
      · obtain ⟨f1, f2, f3⟩ := ff_mem (v := C.2 (52 + 7 * t) s) hB hZ h5 hx hi hw hz hmain g2 hms
        refine ⟨0, _, _, by decide, ?_, ?_, f1, f2, fun _ => f3⟩
        · rw [hA, pu_idx2 hk hck (by omega), pu_bd, if_neg (pu_n1 (by omega)), hmC, pu_bd, if_pos hms, if_neg pu_10]
          unfold fr_reachMemory_b85
          rw [if_neg pu_10, pu_gi hs (by decide), pu_gi (show 16 + (10 * i + w) < 56 by omega) (by decide), nI_clamp (show s < 2 ^ 31 by omega), nI_clamp (show 16 + (10 * i + w) < 2 ^ 31 by omega), pu_lt, show 48 + 7 * t + 4 = 52 + 7 * t by omega, show 48 + 7 * t + 5 = 53 + 7 * t by omega]
          rfl
        · rw [hA, hrW, pu_bd, pu_moin, pu_bd, pu_L1000, pu_L1015, lN_toInt (by omega), if_neg (show ¬ ((1000 : Int) ≤ ((2000 + (10 * i + w) : Nat) : Int) ∧ ((2000 + (10 * i + w) : Nat) : Int) ≤ 1015) by omega), if_pos rfl, if_pos (nI_pos' (by omega))]
          unfold mo_access_b54 mo_access_b75
          rw [if_pos rfl, if_pos rfl, if_pos rfl, hmR.trans (by rw [if_pos (show m = i ∧ pm_ms w z = true from ⟨hmi, hms⟩)]), pu_bd, if_neg pu_10, pu_gi (show 10 * (t + 1) + s < 50 by omega) (by decide), pu_gi (show 40 * (t + 1) + (10 * i + w) < 200 by omega) (by decide), nI_clamp (show 40 * (t + 1) + (10 * i + w) < 2 ^ 31 by omega), nI_clamp (show 10 * (t + 1) + s < 2 ^ 31 by omega), pu_lt, pu_ac (x := x) ht (by rw [pu_sL1]; exact h17), Nat.zero_add, Nat.zero_add, ← hB.2.2.2.1 s hs]
          rfl
      · refine ⟨2, C, R, by decide, ?_, ?_, sk_C.rf, sk_R.rf, fun q => absurd q (by decide)⟩
        · rw [hA, pu_idx2 hk hck (by omega), pu_bd, if_neg (pu_n1 (by omega)), hmC, pu_bd, if_neg hms, if_pos rfl]
          rfl
        · rw [hA, hrW, pu_bd, pu_moin, pu_bd, pu_L1000, pu_L1015, lN_toInt (by omega), if_neg (show ¬ ((1000 : Int) ≤ ((2000 + (10 * i + w) : Nat) : Int) ∧ ((2000 + (10 * i + w) : Nat) : Int) ≤ 1015) by omega), if_pos rfl, if_pos (nI_pos' (by omega))]
          unfold mo_access_b54 mo_access_b75
          rw [if_pos rfl, if_pos rfl, if_pos rfl, hmR.trans (by rw [if_neg (show ¬ (m = i ∧ pm_ms w z = true) from fun q => hms q.2)]), pu_bd, if_pos rfl]
          rfl
    · have hmain : ∃ a, a < i ∧ av a = av i := ⟨m, by omega, hMm.1⟩
      have hsg : C.2 (48 + 7 * t + 5) (16 + 10 * i) < 0 := by
        rw [show 48 + 7 * t + 5 = 53 + 7 * t by omega]
        exact (hB.2.2.1.2.2.2.2.1 i hi).mpr hmain
      have hmR := pu_mayR (R := R) (u := t + 1) (w := w) (z := 0) (by omega) hO hrs hi hm hMm hw (by decide) (fun q => absurd q hmi)
      refine ⟨2, C, R, by decide, ?_, ?_, sk_C.rf, sk_R.rf, fun q => absurd q (by decide)⟩
      · rw [hA, pu_idx2 hk hck (by omega), pu_bd, if_neg (pu_n1 (by omega)), pu_may0 (show i < 4 by omega) hw hsg, pu_bd, if_pos rfl]
        rfl
      · rw [hA, hrW, pu_bd, pu_moin, pu_bd, pu_L1000, pu_L1015, lN_toInt (by omega), if_neg (show ¬ ((1000 : Int) ≤ ((2000 + (10 * i + w) : Nat) : Int) ∧ ((2000 + (10 * i + w) : Nat) : Int) ≤ 1015) by omega), if_pos rfl, if_pos (nI_pos' (by omega))]
        unfold mo_access_b54 mo_access_b75
        rw [if_pos rfl, if_pos rfl, if_pos rfl, hmR.trans (by rw [if_neg (show ¬ (m = i ∧ pm_ms w 0 = true) from fun q => hmi q.1)]), pu_bd, if_pos rfl]
        rfl
  · refine ⟨2, C, R, by decide, ?_, ?_, sk_C.rf, sk_R.rf, fun q => absurd q (by decide)⟩
    · rw [pu_idx3 hk hck hA1 hA2, pu_bd, if_pos rfl]
      rfl
    · rw [pu_wd3 (by omega) hk hrk hA2, pu_bd, pu_moin, pu_bd, pu_L1000, pu_L1015, if_neg (show ¬ ((1000 : Int) ≤ (C.2 (52 + 7 * t) d + off.toInt64).toInt ∧ (C.2 (52 + 7 * t) d + off.toInt64).toInt ≤ 1015) by omega), if_pos rfl, if_neg (by decide)]
      rfl
