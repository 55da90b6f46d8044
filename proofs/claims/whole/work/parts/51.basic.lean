/-! The pure part: no machine here. Numbers. -/
theorem pu_lit (n : Nat) : (OfNat.ofNat n : Int32) = nI n := rfl
theorem pu_litL (n : Nat) : (OfNat.ofNat n : Int64) = lN n := rfl
theorem pu_gt {β : Type} {a : Option β} : gw_gu true a = a := rfl
theorem pu_g {β : Type} {g : Bool} {a : Option β} (h : g = true) : gw_gu g a = a := by
  subst h
  rfl
theorem pu_in {j n : Nat} (h : j < n) (hn : n < 2 ^ 31) : gw_in (nI j) n = true := decide_eq_true (nI_in h hn)
theorem pu_gi {β : Type} {a : Option β} {j n : Nat} (h : j < n) (hn : n < 2 ^ 31) : gw_gu (gw_in (nI j) n) a = a := pu_g (pu_in h hn)
theorem pu_bd {ρ β : Type} {r : ρ} {M : gw_M} {f : ρ → gw_M → Option β} : gw_bd (some (r, M)) f = f r M := rfl
theorem pu_lt {α β : Type} {x : α} {f : α → Option β} : gw_lt x f = f x := rfl
theorem pu_of {v : Int32} {n : Nat} (h0 : 0 ≤ v.toInt) (h : v.toInt < n) : ∃ j : Nat, j < n ∧ v = nI j := by
  refine ⟨v.toInt.toNat, by omega, ?_⟩
  apply Int32.toInt_inj.mp
  have h1 := v.toInt_lt
  rw [nI_toInt (by omega)]
  omega
theorem pu_iLt {x y : Int32} : x < y ↔ x.toInt < y.toInt := Int32.lt_iff_toInt_lt
theorem pu_iLe {x y : Int32} : x ≤ y ↔ x.toInt ≤ y.toInt := Int32.le_iff_toInt_le
theorem pu_iEq {x y : Int32} : x = y ↔ x.toInt = y.toInt := Int32.toInt_inj.symm
theorem pu_lLt {x y : Int64} : x < y ↔ x.toInt < y.toInt := Int64.lt_iff_toInt_lt
theorem pu_lLe {x y : Int64} : x ≤ y ↔ x.toInt ≤ y.toInt := Int64.le_iff_toInt_le
theorem pu_lEq {x y : Int64} : x = y ↔ x.toInt = y.toInt := Int64.toInt_inj.symm
theorem pu_il (x : Int32) : x.toInt64.toInt = x.toInt := Int32.toInt_toInt64 x
theorem pu_c0 {x y : Int64} : lg_cmp x y = 0 ↔ x = y := by
  unfold lg_cmp
  by_cases h : x > y
  · rw [if_pos h]
    refine ⟨fun q => absurd q (by decide), fun q => ?_⟩
    subst q
    exact absurd h (Int64.lt_irrefl)
  · rw [if_neg h]
    by_cases h1 : x = y
    · simp [h1]
    · rw [if_neg h1]
      exact ⟨fun q => absurd q (by decide), fun q => absurd q h1⟩
theorem pu_cl {x y : Int64} : lg_cmp x y < 0 ↔ x < y := by
  unfold lg_cmp
  by_cases h : x > y
  · rw [if_pos h]
    refine ⟨fun q => absurd q (by decide), fun q => ?_⟩
    rw [pu_lLt] at q
    have h2 : y < x := h
    rw [pu_lLt] at h2
    omega
  · rw [if_neg h]
    by_cases h1 : x = y
    · subst h1
      rw [if_pos rfl]
      exact ⟨fun q => absurd q (by decide), fun q => absurd q Int64.lt_irrefl⟩
    · rw [if_neg h1]
      refine ⟨fun _ => ?_, fun _ => by decide⟩
      rw [pu_lLt]
      have h2 : ¬ y < x := h
      rw [pu_lLt] at h2
      rw [pu_lEq] at h1
      omega
theorem pu_cg {x y : Int64} : 0 < lg_cmp x y ↔ y < x := by
  unfold lg_cmp
  by_cases h : x > y
  · rw [if_pos h]
    exact ⟨fun _ => h, fun _ => by decide⟩
  · rw [if_neg h]
    by_cases h1 : x = y
    · rw [if_pos h1]
      exact ⟨fun q => absurd q (by decide), fun q => absurd q h⟩
    · rw [if_neg h1]
      exact ⟨fun q => absurd q (by decide), fun q => absurd q h⟩
theorem pu_cge {x y : Int64} : 0 ≤ lg_cmp x y ↔ y ≤ x := by
  have h := @pu_cl x y
  rw [pu_iLt] at h
  rw [pu_iLe, pu_lLe]
  rw [pu_lLt] at h
  constructor
  · intro q
    have : ¬ (x.toInt < y.toInt) := fun z => by
      have := h.mpr z
      omega
    omega
  · intro q
    have : ¬ ((lg_cmp x y).toInt < (0 : Int32).toInt) := fun z => by
      have := h.mp z
      omega
    omega
theorem pu_cle {x y : Int64} : lg_cmp x y ≤ 0 ↔ x ≤ y := by
  have h := @pu_cg x y
  rw [pu_iLt] at h
  rw [pu_iLe, pu_lLe]
  rw [pu_lLt] at h
  constructor
  · intro q
    have : ¬ (y.toInt < x.toInt) := fun z => by
      have := h.mpr z
      omega
    omega
  · intro q
    have : ¬ ((0 : Int32).toInt < (lg_cmp x y).toInt) := fun z => by
      have := h.mp z
      omega
    omega
theorem pu_lNt {n : Nat} (h : n < 2 ^ 31) : (lN n).toInt = (n : Int) := lN_toInt h
theorem pu_t0 : (0 : Int32).toInt = 0 := by decide
theorem pu_tn (n : Nat) (h : n < 2 ^ 31) : (OfNat.ofNat n : Int32).toInt = (n : Int) := nI_toInt h
theorem pu_tL (n : Nat) (h : n < 2 ^ 31) : (OfNat.ofNat n : Int64).toInt = (n : Int) := lN_toInt h
/-- reading a memory that was written -/
theorem pu_sI1 {M : gw_M} {k j a b : Nat} {x : Int32} : (gw_sI M k j x).1 a b = if a = k then (if b = j then x else M.1 k b) else M.1 a b := by
  by_cases h : a = k
  · subst h
    rw [gw_sI_k, if_pos rfl]
    rfl
  · rw [gw_sI_1 a h, if_neg h]
theorem pu_sI2 {M : gw_M} {k j : Nat} {x : Int32} : (gw_sI M k j x).2 = M.2 := rfl
theorem pu_sL1 {M : gw_M} {k j : Nat} {x : Int64} : (gw_sL M k j x).1 = M.1 := rfl
theorem pu_sL2 {M : gw_M} {k j a b : Nat} {x : Int64} : (gw_sL M k j x).2 a b = if a = k then (if b = j then x else M.2 k b) else M.2 a b := by
  by_cases h : a = k
  · subst h
    rw [gw_sL_k, if_pos rfl]
    rfl
  · rw [gw_sL_2 a h, if_neg h]
/-- the small helpers -/
theorem pu_hasCode (M : gw_M) (v : Int32) : am_hasCode_b0 M v = some (if 0 < v.toInt ∧ v.toInt < 4 then 1 else 0, M) := by
  unfold am_hasCode_b0
  simp only [pu_iLe, pu_tn _ (show 0 < 2 ^ 31 by decide), pu_tn _ (show 4 < 2 ^ 31 by decide)]
  split
  · rw [if_neg (by omega)]
  · split
    · rw [if_neg (by omega)]
    · rw [if_pos (by omega)]
theorem pu_isAccount (M : gw_M) (v : Int32) : am_isAccount_b0 M v = some (if 0 ≤ v.toInt ∧ v.toInt < 8 then 1 else 0, M) := by
  unfold am_isAccount_b0
  simp only [pu_iLe, pu_iLt, pu_tn _ (show 0 < 2 ^ 31 by decide), pu_tn _ (show 8 < 2 ^ 31 by decide)]
  split
  · rw [if_neg (by omega)]
  · split
    · rw [if_neg (by omega)]
    · rw [if_pos (by omega)]
theorem pu_moin (M : gw_M) (x a b : Int64) : mo_in_b0 M x a b = some (if a.toInt ≤ x.toInt ∧ x.toInt ≤ b.toInt then 1 else 0, M) := by
  unfold mo_in_b0
  simp only [pu_cl, pu_cg, pu_lLt]
  by_cases h1 : x.toInt < a.toInt
  · rw [if_pos h1, if_neg (by omega)]
  · rw [if_neg h1]
    by_cases h2 : b.toInt < x.toInt
    · rw [if_pos h2, if_neg (by omega)]
    · rw [if_neg h2, if_pos (by omega)]
theorem pu_moinI (M : gw_M) (v : Int32) (a b : Nat) (ha : a < 2 ^ 31) (hb : b < 2 ^ 31) : mo_in_b0 M v.toInt64 (OfNat.ofNat a) (OfNat.ofNat b) = some (if (a : Int) ≤ v.toInt ∧ v.toInt ≤ b then 1 else 0, M) := by
  rw [pu_moin, pu_il, pu_tL a ha, pu_tL b hb]
theorem pu_moin07 (M : gw_M) (v : Int32) : mo_in_b0 M v.toInt64 0 7 = some (if 0 ≤ v.toInt ∧ v.toInt < 8 then 1 else 0, M) := by
  rw [pu_moinI M v 0 7 (by decide) (by decide)]
  by_cases h : 0 ≤ v.toInt ∧ v.toInt < 8
  · rw [if_pos h, if_pos (by omega)]
  · rw [if_neg h, if_neg (by omega)]
theorem pu_moin03 (M : gw_M) (v : Int32) : mo_in_b0 M v.toInt64 0 3 = some (if 0 ≤ v.toInt ∧ v.toInt < 4 then 1 else 0, M) := by
  rw [pu_moinI M v 0 3 (by decide) (by decide)]
  by_cases h : 0 ≤ v.toInt ∧ v.toInt < 4
  · rw [if_pos h, if_pos (by omega)]
  · rw [if_neg h, if_neg (by omega)]
theorem pu_moin13 (M : gw_M) (v : Int32) : mo_in_b0 M v.toInt64 1 3 = some (if 0 < v.toInt ∧ v.toInt < 4 then 1 else 0, M) := by
  rw [pu_moinI M v 1 3 (by decide) (by decide)]
  by_cases h : 0 < v.toInt ∧ v.toInt < 4
  · rw [if_pos h, if_pos (by omega)]
  · rw [if_neg h, if_neg (by omega)]
theorem pu_10 : ¬ (1 : Int32) = 0 := by decide
theorem pu_of8 {v : Int32} (h : 0 ≤ v.toInt ∧ v.toInt < 8) : ∃ j : Nat, j < 8 ∧ v = nI j := pu_of (n := 8) h.1 (by omega)
theorem pu_of4 {v : Int32} (h : 0 ≤ v.toInt ∧ v.toInt < 4) : ∃ j : Nat, j < 4 ∧ v = nI j := pu_of (n := 4) h.1 (by omega)
theorem pu_of13 {v : Int32} (h : 0 < v.toInt ∧ v.toInt < 4) : ∃ j : Nat, j < 3 ∧ v = nI (j + 1) := by
  obtain ⟨j, hj, rfl⟩ := pu_of (v := v) (n := 4) (by omega) (by omega)
  rw [nI_toInt (by omega)] at h
  exact ⟨j - 1, by omega, by rw [show j - 1 + 1 = j by omega]⟩
theorem pu_r2 {M : gw_M} {k j a b : Nat} {x : Int32} (h1 : a = k) (h2 : b = j) : (gw_sI M k j x).1 a b = x := by
  rw [pu_sI1, if_pos h1, if_pos h2]
theorem pu_r3 {M : gw_M} {k j a b : Nat} {x : Int32} (h : b ≠ j) : (gw_sI M k j x).1 a b = M.1 a b := by
  rw [pu_sI1]
  by_cases h1 : a = k
  · rw [if_pos h1, if_neg h, h1]
  · rw [if_neg h1]
theorem pu_q1 {M : gw_M} {k j a : Nat} {x : Int64} (h : a ≠ k) : (gw_sL M k j x).2 a = M.2 a := gw_sL_2 a h
theorem pu_q2 {M : gw_M} {k j a b : Nat} {x : Int64} (h1 : a = k) (h2 : b = j) : (gw_sL M k j x).2 a b = x := by
  rw [pu_sL2, if_pos h1, if_pos h2]
theorem pu_q3 {M : gw_M} {k j a b : Nat} {x : Int64} (h : b ≠ j) : (gw_sL M k j x).2 a b = M.2 a b := by
  rw [pu_sL2]
  by_cases h1 : a = k
  · rw [if_pos h1, if_neg h, h1]
  · rw [if_neg h1]
theorem pu_T0 : (0 : Int32).toInt = 0 := by decide
theorem pu_T1 : (1 : Int32).toInt = 1 := by decide
theorem pu_T2 : (2 : Int32).toInt = 2 := by decide
theorem pu_T3 : (3 : Int32).toInt = 3 := by decide
theorem pu_T4 : (4 : Int32).toInt = 4 := by decide
theorem pu_T5 : (5 : Int32).toInt = 5 := by decide
theorem pu_T6 : (6 : Int32).toInt = 6 := by decide
theorem pu_T7 : (7 : Int32).toInt = 7 := by decide
theorem pu_T8 : (8 : Int32).toInt = 8 := by decide
theorem pu_T9 : (9 : Int32).toInt = 9 := by decide
theorem pu_T10 : (10 : Int32).toInt = 10 := by decide
theorem pu_T11 : (11 : Int32).toInt = 11 := by decide
theorem pu_T12 : (12 : Int32).toInt = 12 := by decide
theorem pu_T13 : (13 : Int32).toInt = 13 := by decide
theorem pu_T14 : (14 : Int32).toInt = 14 := by decide
theorem pu_T15 : (15 : Int32).toInt = 15 := by decide
theorem pu_T16 : (16 : Int32).toInt = 16 := by decide
theorem pu_T30 : (30 : Int32).toInt = 30 := by decide
theorem pu_T32 : (32 : Int32).toInt = 32 := by decide
theorem pu_T56 : (56 : Int32).toInt = 56 := by decide
theorem pu_T63 : (63 : Int32).toInt = 63 := by decide
theorem pu_T100 : (100 : Int32).toInt = 100 := by decide
theorem pu_T255 : (255 : Int32).toInt = 255 := by decide
theorem pu_T1000 : (1000 : Int32).toInt = 1000 := by decide
theorem pu_T2000 : (2000 : Int32).toInt = 2000 := by decide
theorem pu_L0 : (0 : Int64).toInt = 0 := by decide
theorem pu_L1 : (1 : Int64).toInt = 1 := by decide
theorem pu_L2 : (2 : Int64).toInt = 2 := by decide
theorem pu_L3 : (3 : Int64).toInt = 3 := by decide
theorem pu_L4 : (4 : Int64).toInt = 4 := by decide
theorem pu_L5 : (5 : Int64).toInt = 5 := by decide
theorem pu_L7 : (7 : Int64).toInt = 7 := by decide
theorem pu_L8 : (8 : Int64).toInt = 8 := by decide
theorem pu_L9 : (9 : Int64).toInt = 9 := by decide
theorem pu_L10 : (10 : Int64).toInt = 10 := by decide
theorem pu_L13 : (13 : Int64).toInt = 13 := by decide
theorem pu_L15 : (15 : Int64).toInt = 15 := by decide
theorem pu_L16 : (16 : Int64).toInt = 16 := by decide
theorem pu_L63 : (63 : Int64).toInt = 63 := by decide
theorem pu_L1000 : (1000 : Int64).toInt = 1000 := by decide
theorem pu_L1015 : (1015 : Int64).toInt = 1015 := by decide
theorem pu_L1016 : (1016 : Int64).toInt = 1016 := by decide
theorem pu_L2000 : (2000 : Int64).toInt = 2000 := by decide
theorem pu_L2039 : (2039 : Int64).toInt = 2039 := by decide
theorem pu_L1000000 : (1000000 : Int64).toInt = 1000000 := by decide
