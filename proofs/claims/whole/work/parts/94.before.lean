theorem pu_cpI {M : gw_M} {k0 k1 n j : Nat} (h : j < n) : (gw_cp M k0 k1 0 0 n).1 k1 j = M.1 k0 j := by
  show (if k1 = k1 then va_cpy (M.1 k0) (M.1 k1) 0 0 n else M.1 k1) j = _
  rw [if_pos rfl]
  show (if 0 ≤ j ∧ j < 0 + n then M.1 k0 (0 + (j - 0)) else M.1 k1 j) = _
  rw [if_pos ⟨Nat.zero_le _, by omega⟩, Nat.zero_add, Nat.sub_zero]
theorem pu_cpO {M : gw_M} {k0 k1 n a : Nat} (h : a ≠ k1) : (gw_cp M k0 k1 0 0 n).1 a = M.1 a := by
  show (if a = k1 then va_cpy (M.1 k0) (M.1 k1) 0 0 n else M.1 a) = _
  rw [if_neg h]
theorem pu_copyA {C : gw_M} {d s : Nat} (hd : s + 4 < d + 1 ∨ d + 4 < s + 1) : ∃ C1 : gw_M, le_copyFrom_b0 C d s = some ((), C1) ∧ C1.2 = C.2 ∧ (∀ a, (a < d + 1 ∨ d + 4 < a) → C1.1 a = C.1 a) ∧ (∀ j, j < 8 → C1.1 (d + 1) j = C.1 (s + 1) j ∧ C1.1 (d + 2) j = C.1 (s + 2) j ∧ C1.1 (d + 3) j = C.1 (s + 3) j) ∧ ∀ j, j < 32 → C1.1 (d + 4) j = C.1 (s + 4) j := by
  refine ⟨gw_cp (gw_cp (gw_cp (gw_cp C (s + 1) (d + 1) 0 0 8) (s + 2) (d + 2) 0 0 8) (s + 3) (d + 3) 0 0 8) (s + 4) (d + 4) 0 0 32, by unfold le_copyFrom_b0; rw [pu_lt, pu_lt, pu_lt, pu_lt], rfl, fun a ha => ?_, fun j hj => ⟨?_, ?_, ?_⟩, fun j hj => ?_⟩
  · rw [pu_cpO (by omega), pu_cpO (by omega), pu_cpO (by omega), pu_cpO (by omega)]
  · rw [pu_cpO (by omega), pu_cpO (by omega), pu_cpO (by omega), pu_cpI hj]
  · rw [pu_cpO (by omega), pu_cpO (by omega), pu_cpI hj, pu_cpO (by omega)]
  · rw [pu_cpO (by omega), pu_cpI hj, pu_cpO (by omega), pu_cpO (by omega)]
  · rw [pu_cpI hj, pu_cpO (by omega), pu_cpO (by omega), pu_cpO (by omega)]
/-- of the accounts at s so many are at d too, so many words -/
def cp_R (R R1 : gw_M) (s d i u : Nat) : Prop := (∀ a, a ≠ 1 → a ≠ 2 → a ≠ 3 → a ≠ 4 → R1.1 a = R.1 a) ∧ R1.2 = R.2 ∧ ((∀ k j, 1 ≤ k → k < 4 → j < i → R1.1 k (d + j) = R.1 k (s + j)) ∧ ∀ k j, 1 ≤ k → k < 4 → (j < d ∨ d + i ≤ j) → R1.1 k j = R.1 k j) ∧ (∀ j, j < u → R1.1 4 (4 * d + j) = R.1 4 (4 * s + j)) ∧ ∀ j, (j < 4 * d ∨ 4 * d + u ≤ j) → R1.1 4 j = R.1 4 j
theorem cp_w {R R1 : gw_M} {s d i u : Nat} (hs : (s = 0 ∧ d = 8) ∨ (s = 8 ∧ d = 0)) (hu : u < 32) (h : cp_R R R1 s d i u) : cp_R R (gw_sI R1 4 (4 * d + u) (R1.1 4 (4 * s + u))) s d i (u + 1) := by
  obtain ⟨h1, h2, ⟨h3, h4⟩, h5, h6⟩ := h
  refine ⟨fun a a1 a2 a3 a4 => (gw_sI_1 _ a4).trans (h1 a a1 a2 a3 a4), h2, ⟨fun k j k1 k2 hj => ?_, fun k j k1 k2 hj => ?_⟩, fun j hj => ?_, fun j hj => ?_⟩
  · rw [pu_sIn (fun z => absurd z (by omega))]; exact h3 k j k1 k2 hj
  · rw [pu_sIn (fun z => absurd z (by omega))]; exact h4 k j k1 k2 hj
  · by_cases he : j = u
    · subst he
      rw [pu_r2 rfl rfl]
      exact h6 _ (by omega)
    · rw [pu_sIn (fun _ => by omega)]; exact h5 j (by omega)
  · rw [pu_sIn (fun _ => by omega)]; exact h6 j (by omega)
theorem cp_a {R R1 : gw_M} {s d i u : Nat} (hs : (s = 0 ∧ d = 8) ∨ (s = 8 ∧ d = 0)) (hi : i < 8) (h : cp_R R R1 s d i u) : cp_R R (gw_sI (gw_sI (gw_sI R1 1 (d + i) (R1.1 1 (s + i))) 2 (d + i) (R1.1 2 (s + i))) 3 (d + i) (R1.1 3 (s + i))) s d (i + 1) u := by
  obtain ⟨h1, h2, ⟨h3, h4⟩, h5, h6⟩ := h
  refine ⟨fun a a1 a2 a3 a4 => (gw_sI_1 _ a3).trans ((gw_sI_1 _ a2).trans ((gw_sI_1 _ a1).trans (h1 a a1 a2 a3 a4))), h2, ⟨fun k j k1 k2 hj => ?_, fun k j k1 k2 hj => ?_⟩, fun j hj => ?_, fun j hj => ?_⟩
  · by_cases he : j = i
    · subst he
      obtain rfl | rfl | rfl : k = 1 ∨ k = 2 ∨ k = 3 := by omega
      · rw [pu_sIn (fun z => absurd z (by decide)), pu_sIn (fun z => absurd z (by decide)), pu_r2 rfl rfl]
        exact h4 1 _ (by decide) (by decide) (by omega)
      · rw [pu_sIn (fun z => absurd z (by decide)), pu_r2 rfl rfl]
        exact h4 2 _ (by decide) (by decide) (by omega)
      · rw [pu_r2 rfl rfl]
        exact h4 3 _ (by decide) (by decide) (by omega)
    · rw [pu_sIn (fun _ => by omega), pu_sIn (fun _ => by omega), pu_sIn (fun _ => by omega)]
      exact h3 k j k1 k2 (by omega)
  · rw [pu_sIn (fun _ => by omega), pu_sIn (fun _ => by omega), pu_sIn (fun _ => by omega)]
    exact h4 k j k1 k2 (by omega)
  · rw [pu_sIn (fun z => absurd z (by decide)), pu_sIn (fun z => absurd z (by decide)), pu_sIn (fun z => absurd z (by decide))]
    exact h5 j hj
  · rw [pu_sIn (fun z => absurd z (by decide)), pu_sIn (fun z => absurd z (by decide)), pu_sIn (fun z => absurd z (by decide))]
    exact h6 j hj
theorem pu_l59 {R : gw_M} {s d i : Nat} (hs : (s = 0 ∧ d = 8) ∨ (s = 8 ∧ d = 0)) (hi : i < 8) (K2 : gw_M → Nat → Int32 → Int32 → Int32 → Option (Unit × gw_M)) : ∀ (e w f : Nat) (R1 : gw_M), w + e = 4 → e < f → cp_R R R1 s d (i + 1) (4 * i + w) → ∃ R2 : gw_M, mo_copyAccounts_l59 K2 f R1 0 (nI s) (nI d) (nI i) (nI w) = K2 R2 0 (nI s) (nI d) (nI (i + 1)) ∧ cp_R R R2 s d (i + 1) (4 * (i + 1)) := by
  intro e
  induction e with
  | zero =>
    intro w f R1 hw hf h
    obtain ⟨f, rfl⟩ : ∃ g, f = g + 1 := ⟨f - 1, by omega⟩
    obtain rfl : w = 4 := by omega
    refine ⟨R1, ?_, h⟩
    show mo_copyAccounts_b59 K2 (mo_copyAccounts_l59 K2 f) R1 0 (nI s) (nI d) (nI i) (nI 4) = _
    unfold mo_copyAccounts_b59
    rw [if_pos (by decide), nI_1]
  | succ e ih =>
    intro w f R1 hw hf h
    obtain ⟨f, rfl⟩ : ∃ g, f = g + 1 := ⟨f - 1, by omega⟩
    have h2 := cp_w hs (show 4 * i + w < 32 by omega) h
    obtain ⟨R2, a1, a2⟩ := ih (w + 1) f _ (by omega) (by omega) h2
    refine ⟨R2, ?_, a2⟩
    rw [← a1]
    show mo_copyAccounts_b59 K2 (mo_copyAccounts_l59 K2 f) R1 0 (nI s) (nI d) (nI i) (nI w) = _
    unfold mo_copyAccounts_b59
    rw [if_neg (show ¬ (4 : Int32) ≤ nI w by rw [pu_lit 4]; exact nI_ge (by omega) (by decide)), show (4 : Int32) * (nI s + nI i) + nI w = nI (4 * s + (4 * i + w)) by rw [nI_add, pu_lit 4, pk_mul, nI_add]; congr 1; omega, show (4 : Int32) * (nI d + nI i) + nI w = nI (4 * d + (4 * i + w)) by rw [nI_add, pu_lit 4, pk_mul, nI_add]; congr 1; omega, pu_gi (show 4 * s + (4 * i + w) < 64 by omega) (by decide), pu_gi (show 4 * d + (4 * i + w) < 64 by omega) (by decide), nI_clamp (show 4 * s + (4 * i + w) < 2 ^ 31 by omega), nI_clamp (show 4 * d + (4 * i + w) < 2 ^ 31 by omega), pu_lt, nI_1]
theorem pu_l2c {R : gw_M} {s d : Nat} (hs : (s = 0 ∧ d = 8) ∨ (s = 8 ∧ d = 0)) : ∀ (e i f : Nat) (R1 : gw_M), i + e = 8 → e < f → cp_R R R1 s d i (4 * i) → ∃ R2 : gw_M, mo_copyAccounts_l2 f R1 0 (nI s) (nI d) (nI i) = some ((), R2) ∧ cp_R R R2 s d 8 32 := by
  intro e
  induction e with
  | zero =>
    intro i f R1 hi hf h
    obtain ⟨f, rfl⟩ : ∃ g, f = g + 1 := ⟨f - 1, by omega⟩
    obtain rfl : i = 8 := by omega
    refine ⟨R1, ?_, h⟩
    show mo_copyAccounts_b2 (mo_copyAccounts_l2 f) R1 0 (nI s) (nI d) (nI 8) = _
    unfold mo_copyAccounts_b2
    rw [if_pos (by decide)]
  | succ e ih =>
    intro i f R1 hi hf h
    obtain ⟨f, rfl⟩ : ∃ g, f = g + 1 := ⟨f - 1, by omega⟩
    have h2 := cp_a hs (show i < 8 by omega) h
    obtain ⟨R2, a1, a2⟩ := pu_l59 hs (show i < 8 by omega) (mo_copyAccounts_l2 f) 4 0 2100 _ rfl (by decide) h2
    obtain ⟨R3, b1, b2⟩ := ih (i + 1) f R2 (by omega) (by omega) a2
    refine ⟨R3, ?_, b2⟩
    rw [← b1, ← a1]
    show mo_copyAccounts_b2 (mo_copyAccounts_l2 f) R1 0 (nI s) (nI d) (nI i) = _
    unfold mo_copyAccounts_b2
    rw [if_neg (show ¬ (8 : Int32) ≤ nI i by rw [pu_lit 8]; exact nI_ge (by omega) (by decide)), nI_add, nI_add]
    simp only [pu_gi (show s + i < 16 by omega) (by decide), pu_gi (show d + i < 16 by omega) (by decide), nI_clamp (show s + i < 2 ^ 31 by omega), nI_clamp (show d + i < 2 ^ 31 by omega), pu_lt, Nat.zero_add]
    rfl
theorem pu_copyR {R : gw_M} {s d : Nat} (hs : (s = 0 ∧ d = 8) ∨ (s = 8 ∧ d = 0)) : ∃ R1 : gw_M, mo_copyAccounts_b0 R 0 (nI s) (nI d) = some ((), R1) ∧ cp_R R R1 s d 8 32 := by
  obtain ⟨R1, a1, a2⟩ := pu_l2c (R := R) hs 8 0 2100 R rfl (by decide) ⟨fun _ _ _ _ _ => rfl, rfl, ⟨fun _ _ _ _ hj => absurd hj (by omega), fun _ _ _ _ _ => rfl⟩, fun _ hj => absurd hj (by omega), fun _ _ => rfl⟩
  exact ⟨R1, a1, a2⟩
