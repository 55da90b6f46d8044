/-! The relation between the two memories, and the calls that look or write little. -/
/-- the accounts -/
def qa_R (C R : gw_M) : Prop := ∀ a, a < 8 → ∃ b o z : Nat, (b ≤ 1000000 ∧ o < 4 ∧ z ≤ 4) ∧ (C.1 3 a = nI b ∧ R.1 1 a = nI b) ∧ (C.1 4 a = nI o ∧ R.1 2 a = nI o) ∧ (C.1 5 a = nI z ∧ R.1 3 a = nI z) ∧ ∀ w, w < 4 → C.1 6 (4 * a + w) = R.1 4 (4 * a + w) ∧ (z ≤ w → C.1 6 (4 * a + w) = 0)
/-- an instruction of program p + 1 at place i (of n) is one that load takes -/
def qv_R (C : gw_M) (p n i : Nat) : Prop := ∃ k d s : Nat, (k < 16 ∧ d < 10 ∧ s < 10) ∧ (C.1 (22 + 6 * p) i = nI k ∧ C.1 (23 + 6 * p) i = nI d ∧ C.1 (24 + 6 * p) i = nI s) ∧ (k ≠ 10 → k ≠ 15 → i + 1 < n) ∧ (10 ≤ k → k ≤ 13 → 0 ≤ (i : Int) + 1 + (C.1 (25 + 6 * p) i).toInt ∧ (i : Int) + 1 + (C.1 (25 + 6 * p) i).toInt < n) ∧ (k = 6 → ¬ C.1 (26 + 6 * p) i = 0) ∧ (k = 7 → 0 ≤ (C.1 (26 + 6 * p) i).toInt ∧ (C.1 (26 + 6 * p) i).toInt ≤ 63) ∧ (k = 14 → 0 ≤ (C.1 (26 + 6 * p) i).toInt ∧ (C.1 (26 + 6 * p) i).toInt ≤ 3)
/-- a program: p + 1 of the system, p of the reference -/
def qp_R1 (C R : gw_M) (p : Nat) : Prop := ∃ n : Nat, n ≤ 32 ∧ (C.1 (21 + 6 * p) 5 = nI n ∧ R.1 5 p = nI n) ∧ ((C.1 (21 + 6 * p) 6 = 0 ∧ R.1 6 p = 0) ∨ (C.1 (21 + 6 * p) 6 = 1 ∧ R.1 6 p = 1 ∧ 0 < n ∧ ∀ i, i < n → qv_R C p n i)) ∧ ∀ i, i < n → C.1 (22 + 6 * p) i = R.1 7 (32 * p + i) ∧ C.1 (23 + 6 * p) i = R.1 8 (32 * p + i) ∧ C.1 (24 + 6 * p) i = R.1 9 (32 * p + i) ∧ C.1 (25 + 6 * p) i = R.1 10 (32 * p + i) ∧ C.1 (26 + 6 * p) i = R.1 11 (32 * p + i)
def qp_R (C R : gw_M) : Prop := ∀ p, p < 3 → qp_R1 C R p
/-- an order: the object co with its arrays co + 1, co + 2; the reference's q -/
def qo_R1 (C R : gw_M) (co q : Nat) : Prop := (∃ p : Nat, p < 4 ∧ C.1 co 0 = nI p ∧ R.1 12 q = nI p) ∧ C.1 co 1 = R.1 13 q ∧ ∃ k : Nat, k ≤ 4 ∧ C.1 co 2 = nI k ∧ R.1 14 q = nI k ∧ ∀ j, j < k → ∃ a m : Nat, (a < 8 ∧ m < 4) ∧ (C.1 (co + 1) j = nI a ∧ R.1 15 (4 * q + j) = nI a) ∧ C.1 (co + 2) j = nI m ∧ R.1 16 (4 * q + j) = nI m
def qo_R (C R : gw_M) : Prop := ∃ n : Nat, n ≤ 3 ∧ C.1 0 4 = nI n ∧ R.1 0 11 = nI n ∧ ∀ i, i < n → qo_R1 C R (39 + 3 * i) i
/-- meter, log, what was given -/
def qm_R (C R : gw_M) : Prop := (∃ m : Nat, m ≤ 2000 ∧ C.1 0 7 = nI m ∧ R.1 0 24 = nI m) ∧ C.2 0 10 = R.2 0 25 ∧ ∃ n : Nat, n ≤ 30 ∧ C.1 0 9 = nI n ∧ R.1 0 27 = nI n ∧ ∀ i, i < n → C.2 14 i = R.2 23 i
def qq_R (C R : gw_M) : Prop := qa_R C R ∧ qp_R C R ∧ qo_R C R ∧ qm_R C R
/-- what each piece looks at -/
theorem qa_cong {C R C1 R1 : gw_M} (h : qa_R C R) (h3 : C1.1 3 = C.1 3) (h4 : C1.1 4 = C.1 4) (h5 : C1.1 5 = C.1 5) (h6 : C1.1 6 = C.1 6) (g1 : R1.1 1 = R.1 1) (g2 : R1.1 2 = R.1 2) (g3 : R1.1 3 = R.1 3) (g4 : R1.1 4 = R.1 4) : qa_R C1 R1 := by
  unfold qa_R
  rw [h3, h4, h5, h6, g1, g2, g3, g4]
  exact h
theorem qm_cong {C R C1 R1 : gw_M} (h : qm_R C R) (h1 : C1.1 0 7 = C.1 0 7) (h2 : C1.2 0 10 = C.2 0 10) (h3 : C1.1 0 9 = C.1 0 9) (h4 : C1.2 14 = C.2 14) (g1 : R1.1 0 24 = R.1 0 24) (g2 : R1.2 0 25 = R.2 0 25) (g3 : R1.1 0 27 = R.1 0 27) (g4 : R1.2 23 = R.2 23) : qm_R C1 R1 := by
  unfold qm_R
  rw [h1, h2, h3, h4, g1, g2, g3, g4]
  exact h
theorem qp_cong1 {C R C1 R1 : gw_M} {p : Nat} (h : qp_R1 C R p) (hC : ∀ k, 21 + 6 * p ≤ k → k < 27 + 6 * p → C1.1 k = C.1 k) (g5 : R1.1 5 p = R.1 5 p) (g6 : R1.1 6 p = R.1 6 p) (hR : ∀ k i, 7 ≤ k → k < 12 → 32 * p ≤ i → i < 32 * p + 32 → R1.1 k i = R.1 k i) : qp_R1 C1 R1 p := by
  obtain ⟨n, hn, h1, h2, h3⟩ := h
  have e0 := hC (21 + 6 * p) (by omega) (by omega)
  have e1 := hC (22 + 6 * p) (by omega) (by omega)
  have e2 := hC (23 + 6 * p) (by omega) (by omega)
  have e3 := hC (24 + 6 * p) (by omega) (by omega)
  have e4 := hC (25 + 6 * p) (by omega) (by omega)
  have e5 := hC (26 + 6 * p) (by omega) (by omega)
  refine ⟨n, hn, ?_, ?_, fun i hi => ?_⟩
  · rw [e0, g5]; exact h1
  · rw [e0, g6]
    unfold qv_R
    rw [e1, e2, e3, e4, e5]
    exact h2
  · rw [e1, e2, e3, e4, e5, hR 7 _ (by omega) (by omega) (by omega) (by omega), hR 8 _ (by omega) (by omega) (by omega) (by omega), hR 9 _ (by omega) (by omega) (by omega) (by omega), hR 10 _ (by omega) (by omega) (by omega) (by omega), hR 11 _ (by omega) (by omega) (by omega) (by omega)]
    exact h3 i hi
theorem qp_cong {C R C1 R1 : gw_M} (h : qp_R C R) (hC : ∀ k, 21 ≤ k → k < 39 → C1.1 k = C.1 k) (hR : ∀ k, 5 ≤ k → k < 12 → R1.1 k = R.1 k) : qp_R C1 R1 := fun p hp =>
  qp_cong1 (h p hp) (fun k h1 h2 => hC k (by omega) (by omega)) (by rw [hR 5 (by omega) (by omega)]) (by rw [hR 6 (by omega) (by omega)]) (fun k i h1 h2 _ _ => by rw [hR k (by omega) (by omega)])
theorem qo_cong1 {C R C1 R1 : gw_M} {co q : Nat} (h : qo_R1 C R co q) (h0 : C1.1 co = C.1 co) (h1 : C1.1 (co + 1) = C.1 (co + 1)) (h2 : C1.1 (co + 2) = C.1 (co + 2)) (g12 : R1.1 12 q = R.1 12 q) (g13 : R1.1 13 q = R.1 13 q) (g14 : R1.1 14 q = R.1 14 q) (g15 : ∀ j, j < 4 → R1.1 15 (4 * q + j) = R.1 15 (4 * q + j)) (g16 : ∀ j, j < 4 → R1.1 16 (4 * q + j) = R.1 16 (4 * q + j)) : qo_R1 C1 R1 co q := by
  obtain ⟨h3, h4, k, hk, h5, h6, h7⟩ := h
  refine ⟨by rw [h0, g12]; exact h3, by rw [h0, g13]; exact h4, k, hk, by rw [h0]; exact h5, by rw [g14]; exact h6, fun j hj => ?_⟩
  rw [h1, h2, g15 j (by omega), g16 j (by omega)]
  exact h7 j hj
theorem qo_cong {C R C1 R1 : gw_M} (h : qo_R C R) (h0 : C1.1 0 4 = C.1 0 4) (hC : ∀ k, 39 ≤ k → k < 48 → C1.1 k = C.1 k) (g0 : R1.1 0 11 = R.1 0 11) (h12 : ∀ q, q < 3 → R1.1 12 q = R.1 12 q ∧ R1.1 13 q = R.1 13 q ∧ R1.1 14 q = R.1 14 q) (h15 : ∀ q, q < 12 → R1.1 15 q = R.1 15 q ∧ R1.1 16 q = R.1 16 q) : qo_R C1 R1 := by
  obtain ⟨n, hn, e1, e2, e3⟩ := h
  refine ⟨n, hn, by rw [h0]; exact e1, by rw [g0]; exact e2, fun i hi => ?_⟩
  exact qo_cong1 (e3 i hi) (hC _ (by omega) (by omega)) (hC _ (by omega) (by omega)) (hC _ (by omega) (by omega)) (h12 i (by omega)).1 (h12 i (by omega)).2.1 (h12 i (by omega)).2.2 (fun j hj => (h15 _ (by omega)).1) (fun j hj => (h15 _ (by omega)).2)
/-- the calls that only look -/
theorem qu_units (C R : gw_M) (h : qq_R C R) : ∃ (r : Int32) (C1 R1 : gw_M), am_units_b0 C 0 = some (r, C1) ∧ mo_units_b0 R 0 = some (r, R1) ∧ qq_R C1 R1 := by
  obtain ⟨m, hm, e1, e2⟩ := h.2.2.2.1
  refine ⟨nI m, C, R, ?_, ?_, h⟩
  · rw [← e1]; rfl
  · rw [← e2]; rfl
theorem qu_result (C R : gw_M) (h : qq_R C R) : ∃ (r : Int64) (C1 R1 : gw_M), am_result_b0 C 0 = some (r, C1) ∧ mo_result_b0 R 0 = some (r, R1) ∧ qq_R C1 R1 := by
  refine ⟨C.2 0 10, C, R, rfl, ?_, h⟩
  rw [h.2.2.2.2.1]; rfl
theorem qu_logged (C R : gw_M) (h : qq_R C R) : ∃ (r : Int32) (C1 R1 : gw_M), am_logged_b0 C 0 = some (r, C1) ∧ mo_logged_b0 R 0 = some (r, R1) ∧ qq_R C1 R1 := by
  obtain ⟨n, hn, e1, e2, _⟩ := h.2.2.2.2.2
  refine ⟨nI n, C, R, ?_, ?_, h⟩
  · rw [← e1]; rfl
  · rw [← e2]; rfl
