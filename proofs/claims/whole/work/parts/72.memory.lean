/-! Addresses, and which words a program may store to. -/
theorem pu_addr (A : Int64) (k : Nat) (hk : k ≤ 4) : (∃ y : Nat, y < 16 ∧ A = lN (1000 + y)) ∨ (∃ i w : Nat, i < k ∧ w < 10 ∧ A = lN (2000 + (10 * i + w))) ∨ (¬ (1000 ≤ A.toInt ∧ A.toInt < 1016) ∧ ¬ (2000 ≤ A.toInt ∧ A.toInt < 2000 + 10 * (k : Int))) := by
  by_cases h1 : 1000 ≤ A.toInt ∧ A.toInt < 1016
  · refine Or.inl ⟨(A.toInt - 1000).toNat, by omega, ?_⟩
    rw [pu_lEq, lN_toInt (by omega)]
    omega
  · by_cases h2 : 2000 ≤ A.toInt ∧ A.toInt < 2000 + 10 * (k : Int)
    · refine Or.inr (Or.inl ⟨(A.toInt - 2000).toNat / 10, (A.toInt - 2000).toNat % 10, by omega, by omega, ?_⟩)
      rw [pu_lEq, lN_toInt (by omega)]
      omega
    · exact Or.inr (Or.inr ⟨h1, h2⟩)
theorem pu_idx1 (M : gw_M) (o y : Nat) (hy : y < 16) : fr_indexOf_b0 M o (lN (1000 + y)) = some (nI y, M) := by
  unfold fr_indexOf_b0
  have hT : (lN (1000 + y)).toInt = ((1000 + y : Nat) : Int) := lN_toInt (by omega)
  rw [if_neg (show ¬ lg_cmp (lN (1000 + y)) 1000 < 0 by rw [pu_cl, pu_lLt, hT, pu_L1000]; omega), if_neg (show ¬ 0 ≤ lg_cmp (lN (1000 + y)) 1016 by rw [pu_cge, pu_lLe, hT, pu_L1016]; omega), lN_i, pu_lit 1000, pk_sub (by omega), show 1000 + y - 1000 = y by omega]
theorem pu_idx2 {M : gw_M} {o k y : Nat} (hk : k ≤ 4) (h : M.1 (o + 1) 2 = nI k) (hy : y < 10 * k) : fr_indexOf_b0 M o (lN (2000 + y)) = some (nI (16 + y), M) := by
  unfold fr_indexOf_b0 fr_indexOf_b23
  have hT : (lN (2000 + y)).toInt = ((2000 + y : Nat) : Int) := lN_toInt (by omega)
  rw [if_neg (show ¬ lg_cmp (lN (2000 + y)) 1000 < 0 by rw [pu_cl, pu_lLt, hT, pu_L1000]; omega), if_pos (show 0 ≤ lg_cmp (lN (2000 + y)) 1016 by rw [pu_cge, pu_lLe, hT, pu_L1016]; omega), if_neg (show ¬ lg_cmp (lN (2000 + y)) 2000 < 0 by rw [pu_cl, pu_lLt, hT, pu_L2000]; omega), h, show (2000 : Int32) + nI k * (10 : Int32) = nI (2000 + k * 10) by rw [pu_lit 10, pk_mul, pu_lit 2000, nI_add], nI_l (by omega), if_neg (show ¬ 0 ≤ lg_cmp (lN (2000 + y)) (lN (2000 + k * 10)) by rw [pu_cge, pu_lLe, hT, lN_toInt (by omega)]; omega), show (0 : Int32) = nI 0 from rfl, pu_baseOf M (by decide), pu_bd, lN_i, nI_add, pu_lit 2000, pk_sub (by omega), show 16 + 10 * 0 + (2000 + y) - 2000 = 16 + y by omega]
theorem pu_idx3 {M : gw_M} {o k : Nat} {A : Int64} (hk : k ≤ 4) (h : M.1 (o + 1) 2 = nI k) (h1 : ¬ (1000 ≤ A.toInt ∧ A.toInt < 1016)) (h2 : ¬ (2000 ≤ A.toInt ∧ A.toInt < 2000 + 10 * (k : Int))) : fr_indexOf_b0 M o A = some (-1, M) := by
  have hb : fr_indexOf_b23 M o A = some (-1, M) := by
    unfold fr_indexOf_b23
    by_cases h3 : A.toInt < 2000
    · rw [if_pos (show lg_cmp A 2000 < 0 by rw [pu_cl, pu_lLt, pu_L2000]; omega)]
    · rw [if_neg (show ¬ lg_cmp A 2000 < 0 by rw [pu_cl, pu_lLt, pu_L2000]; omega), h, show (2000 : Int32) + nI k * (10 : Int32) = nI (2000 + k * 10) by rw [pu_lit 10, pk_mul, pu_lit 2000, nI_add], nI_l (by omega), if_pos (show 0 ≤ lg_cmp A (lN (2000 + k * 10)) by rw [pu_cge, pu_lLe, lN_toInt (by omega)]; omega)]
  unfold fr_indexOf_b0
  rw [hb]
  by_cases h3 : A.toInt < 1000
  · rw [if_pos (show lg_cmp A 1000 < 0 by rw [pu_cl, pu_lLt, pu_L1000]; omega)]
  · rw [if_neg (show ¬ lg_cmp A 1000 < 0 by rw [pu_cl, pu_lLt, pu_L1000]; omega), if_pos (show 0 ≤ lg_cmp A 1016 by rw [pu_cge, pu_lLe, pu_L1016]; omega)]
theorem pu_wd0 {R : gw_M} {u : Int32} {A : Int64} (h : ¬ (2000 ≤ A.toInt ∧ A.toInt ≤ 2039)) : mo_wordAt_b0 R 0 u A = some (-1, R) := by
  unfold mo_wordAt_b0
  rw [pu_moin, pu_bd, pu_L2000, pu_L2039, if_neg h, if_pos rfl]
theorem pu_wdA {R : gw_M} {u k y : Nat} (hu : u ≤ 4) (hk : k ≤ 4) (h : R.1 14 (3 + u) = nI k) (hy : y < 40) : mo_wordAt_b0 R 0 (nI u) (lN (2000 + y)) = some (if y < 10 * k then nI (40 * u + y) else -1, R) := by
  unfold mo_wordAt_b0
  have hT : (lN (2000 + y)).toInt = ((2000 + y : Nat) : Int) := lN_toInt (by omega)
  rw [pu_moin, pu_bd, pu_L2000, pu_L2039, hT, if_pos (show (2000 : Int) ≤ ((2000 + y : Nat) : Int) ∧ ((2000 + y : Nat) : Int) ≤ 2039 by omega), if_neg pu_10, lN_i, show nI (2000 + y) - (2000 : Int32) = nI y by rw [pu_lit 2000, pk_sub (by omega), show 2000 + y - 2000 = y by omega], pu_lt, show (3 : Int32) + nI u = nI (3 + u) by rw [pu_lit 3, nI_add], pu_gi (show 3 + u < 9 by omega) (by decide), nI_clamp (show 3 + u < 2 ^ 31 by omega), Nat.zero_add, h, show nI y / (10 : Int32) = nI (y / 10) by rw [pu_lit 10, pk_div (by omega) (by decide) (by decide)], show (40 : Int32) * nI u + nI y = nI (40 * u + y) by rw [pu_lit 40, pk_mul, nI_add]]
  by_cases hk2 : y < 10 * k
  · rw [if_neg (nI_ge (by omega) (by omega)), if_pos hk2]
  · rw [if_pos (nI_le (by omega) (by omega)), if_neg hk2]
theorem pu_wd2 {R : gw_M} {u k y : Nat} (hu : u ≤ 4) (hk : k ≤ 4) (h : R.1 14 (3 + u) = nI k) (hy : y < 10 * k) : mo_wordAt_b0 R 0 (nI u) (lN (2000 + y)) = some (nI (40 * u + y), R) := by
  rw [pu_wdA hu hk h (by omega), if_pos hy]
theorem pu_wd3 {R : gw_M} {u k : Nat} {A : Int64} (hu : u ≤ 4) (hk : k ≤ 4) (h : R.1 14 (3 + u) = nI k) (h2 : ¬ (2000 ≤ A.toInt ∧ A.toInt < 2000 + 10 * (k : Int))) : mo_wordAt_b0 R 0 (nI u) A = some (-1, R) := by
  by_cases h3 : 2000 ≤ A.toInt ∧ A.toInt ≤ 2039
  · obtain ⟨y, hy, rfl⟩ : ∃ y : Nat, y < 40 ∧ A = lN (2000 + y) := ⟨(A.toInt - 2000).toNat, by omega, by
      rw [pu_lEq, lN_toInt (by omega)]
      omega⟩
    rw [lN_toInt (by omega)] at h2
    rw [pu_wdA hu hk h hy, if_neg (by omega)]
  · exact pu_wd0 h3
/-- the words of a main slot that may be stored to -/
def pm_ms (w z : Nat) : Bool := decide (w = 2 ∨ w = 3 ∨ (5 ≤ w ∧ w < 5 + z))
theorem pu_may0 {C : gw_M} {o i w : Nat} (hi : i < 4) (hw : w < 10) (h : C.2 (o + 5) (16 + 10 * i) < 0) : fr_mayStore_b0 C o (nI (16 + (10 * i + w))) = some (0, C) := by
  have hb : ∀ x, fr_mayStore_b48 C o (nI w) (nI (16 + 10 * i)) x = some (0, C) := fun x => by
    unfold fr_mayStore_b48
    rw [pu_isMain hi, pu_bd, if_pos h, if_pos rfl]
  unfold fr_mayStore_b0 fr_mayStore_b47
  rw [if_pos (show (16 : Int32) ≤ nI (16 + (10 * i + w)) by rw [pu_lit 16]; exact nI_le (by omega) (by omega)), show nI (16 + (10 * i + w)) - (16 : Int32) = nI (10 * i + w) by rw [pu_lit 16, pk_sub (by omega), show 16 + (10 * i + w) - 16 = 10 * i + w by omega], pu_lt, show nI (10 * i + w) - nI (10 * i + w) / (10 : Int32) * (10 : Int32) = nI w by rw [pu_lit 10, pk_rem (by omega) (by decide) (by decide), show (10 * i + w) % 10 = w by omega], pu_lt, show nI (16 + (10 * i + w)) - nI w = nI (16 + 10 * i) by rw [pk_sub (by omega), show 16 + (10 * i + w) - w = 16 + 10 * i by omega], hb 0, hb 1, show nI (16 + 10 * i) + (4 : Int32) = nI (16 + 10 * i + 4) by rw [pu_lit 4, nI_add], pu_gi (show 16 + 10 * i + 4 < 56 by omega) (by decide)]
  simp only [ite_self]
theorem pu_mayC {C : gw_M} {o i w z : Nat} (hi : i < 4) (hw : w < 10) (hz : z ≤ 4) (h : ¬ C.2 (o + 5) (16 + 10 * i) < 0) (h4 : C.2 (o + 5) (16 + 10 * i + 4) = lN z) : fr_mayStore_b0 C o (nI (16 + (10 * i + w))) = some (if pm_ms w z = true then 1 else 0, C) := by
  unfold fr_mayStore_b0 fr_mayStore_b47 fr_mayStore_b48 fr_mayStore_b73
  rw [if_pos (show (16 : Int32) ≤ nI (16 + (10 * i + w)) by rw [pu_lit 16]; exact nI_le (by omega) (by omega)), show nI (16 + (10 * i + w)) - (16 : Int32) = nI (10 * i + w) by rw [pu_lit 16, pk_sub (by omega), show 16 + (10 * i + w) - 16 = 10 * i + w by omega], pu_lt, show nI (10 * i + w) - nI (10 * i + w) / (10 : Int32) * (10 : Int32) = nI w by rw [pu_lit 10, pk_rem (by omega) (by decide) (by decide), show (10 * i + w) % 10 = w by omega], pu_lt, show nI (16 + (10 * i + w)) - nI w = nI (16 + 10 * i) by rw [pk_sub (by omega), show 16 + (10 * i + w) - w = 16 + 10 * i by omega], pu_isMain hi, pu_bd, pu_bd, if_neg h, if_neg pu_10, show nI (16 + 10 * i) + (4 : Int32) = nI (16 + 10 * i + 4) by rw [pu_lit 4, nI_add], pu_gi (show 16 + 10 * i + 4 < 56 by omega) (by decide), nI_clamp (show 16 + 10 * i + 4 < 2 ^ 31 by omega), h4, nI_l (show w < 2 ^ 31 by omega), pu_litL 5, lN_add]
  unfold pm_ms
  have hc : w = 0 ∨ w = 1 ∨ w = 2 ∨ w = 3 ∨ w = 4 ∨ w = 5 ∨ w = 6 ∨ w = 7 ∨ w = 8 ∨ w = 9 := by omega
  have hd : z = 0 ∨ z = 1 ∨ z = 2 ∨ z = 3 ∨ z = 4 := by omega
  rcases hc with rfl | rfl | rfl | rfl | rfl | rfl | rfl | rfl | rfl | rfl <;> rcases hd with rfl | rfl | rfl | rfl | rfl <;> rfl
theorem pu_mayR {R : gw_M} {u k i m w z : Nat} {av mv : Nat → Nat} (hu : u ≤ 4) (hB : qs_B k av mv) (h : qs_R R (3 + u) k av mv) (hi : i < k) (hm : m ≤ i) (hM : qs_M av (av i) m) (hw : w < 10) (hz : z ≤ 4) (h4 : m = i → R.2 22 (40 * u + 10 * i + 4) = lN z) : mo_mayStore_b0 R 0 (nI u) (nI (40 * u + (10 * i + w))) = some (if m = i ∧ pm_ms w z = true then 1 else 0, R) := by
  have hk := hB.1
  unfold mo_mayStore_b0 mo_mayStore_b73
  rw [show nI (40 * u + (10 * i + w)) - (40 : Int32) * nI u = nI (10 * i + w) by rw [pu_lit 40, pk_mul, pk_sub (by omega), show 40 * u + (10 * i + w) - 40 * u = 10 * i + w by omega], pu_lt, show nI (10 * i + w) - nI (10 * i + w) / (10 : Int32) * (10 : Int32) = nI w by rw [pu_lit 10, pk_rem (by omega) (by decide) (by decide), show (10 * i + w) % 10 = w by omega], pu_lt, show (3 : Int32) + nI u = nI (3 + u) by rw [pu_lit 3, nI_add], show nI (10 * i + w) / (10 : Int32) = nI i by rw [pu_lit 10, pk_div (by omega) (by decide) (by decide), show (10 * i + w) / 10 = i by omega], pu_rmain (by omega) hB h hi hm hM, pu_bd]
  by_cases hmi : m = i
  · rw [if_pos (by rw [hmi]), show nI (40 * u + (10 * i + w)) - nI w + (4 : Int32) = nI (40 * u + 10 * i + 4) by rw [pk_sub (by omega), pu_lit 4, nI_add, show 40 * u + (10 * i + w) - w + 4 = 40 * u + 10 * i + 4 by omega], pu_gi (show 40 * u + 10 * i + 4 < 200 by omega) (by decide), nI_clamp (show 40 * u + 10 * i + 4 < 2 ^ 31 by omega), Nat.zero_add, h4 hmi, nI_l (show w < 2 ^ 31 by omega), pu_litL 4, lN_add]
    unfold pm_ms
    have hc : w = 0 ∨ w = 1 ∨ w = 2 ∨ w = 3 ∨ w = 4 ∨ w = 5 ∨ w = 6 ∨ w = 7 ∨ w = 8 ∨ w = 9 := by omega
    have hd : z = 0 ∨ z = 1 ∨ z = 2 ∨ z = 3 ∨ z = 4 := by omega
    simp only [hmi, true_and]
    rcases hc with rfl | rfl | rfl | rfl | rfl | rfl | rfl | rfl | rfl | rfl <;> rcases hd with rfl | rfl | rfl | rfl | rfl <;> rfl
  · rw [if_neg (fun q => hmi ((nI_eq (by omega) (by omega)).mp q)), if_neg (fun q => hmi q.1)]
