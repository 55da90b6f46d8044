theorem qa_pt {C R C1 R1 : gw_M} (h : qa_R C R) (hC : ∀ a, a < 8 → C1.1 3 a = C.1 3 a ∧ C1.1 4 a = C.1 4 a ∧ C1.1 5 a = C.1 5 a) (hw : ∀ j, j < 32 → C1.1 6 j = C.1 6 j) (hR : ∀ a, a < 8 → R1.1 1 a = R.1 1 a ∧ R1.1 2 a = R.1 2 a ∧ R1.1 3 a = R.1 3 a) (gw : ∀ j, j < 32 → R1.1 4 j = R.1 4 j) : qa_R C1 R1 := by
  intro a ha
  obtain ⟨b, o, z, h0, h1, h2, h3, h4⟩ := h a ha
  obtain ⟨c1, c2, c3⟩ := hC a ha
  obtain ⟨r1, r2, r3⟩ := hR a ha
  refine ⟨b, o, z, h0, by rw [c1, r1]; exact h1, by rw [c2, r2]; exact h2, by rw [c3, r3]; exact h3, fun w hw4 => ?_⟩
  rw [hw _ (by omega), gw _ (by omega)]
  exact h4 w hw4
/-- the accounts as they stood before -/
def pm_sc (C : gw_M) : gw_M := (fun k => C.1 (k + 5), C.2)
def pm_sr (R : gw_M) : gw_M := (fun k j => if k = 4 then R.1 4 (32 + j) else R.1 k (8 + j), R.2)
def qb_R (C R : gw_M) : Prop := qa_R (pm_sc C) (pm_sr R)
theorem qb_cg {C R C1 R1 : gw_M} (h : qb_R C R) (hC : ∀ a, 8 ≤ a → a < 12 → C1.1 a = C.1 a) (hR : ∀ k i, 1 ≤ k → k < 4 → 8 ≤ i → R1.1 k i = R.1 k i) (h4 : ∀ i, 32 ≤ i → R1.1 4 i = R.1 4 i) : qb_R C1 R1 := by
  refine qa_pt h (fun a ha => ⟨congrFun (hC 8 (by decide) (by decide)) a, congrFun (hC 9 (by decide) (by decide)) a, congrFun (hC 10 (by decide) (by decide)) a⟩) (fun j hj => congrFun (hC 11 (by decide) (by decide)) j) (fun a ha => ⟨?_, ?_, ?_⟩) (fun j hj => ?_)
  · exact hR 1 (8 + a) (by decide) (by decide) (by omega)
  · exact hR 2 (8 + a) (by decide) (by decide) (by omega)
  · exact hR 3 (8 + a) (by decide) (by decide) (by omega)
  · exact h4 (32 + j) (by omega)
theorem qb_fk {C R C1 R1 : gw_M} (h : qb_R C R) (hC : fk_C C C1 0) (hR : fk_R R R1 0) : qb_R C1 R1 := qb_cg h (fun a h1 h2 => (hC.1 a h1 (by omega)).1) hR.2.2.1.1 hR.2.2.1.2
theorem qb_of {C R C1 R1 : gw_M} (h : qa_R C R) (hC : ∀ j, j < 8 → C1.1 8 j = C.1 3 j ∧ C1.1 9 j = C.1 4 j ∧ C1.1 10 j = C.1 5 j) (hw : ∀ j, j < 32 → C1.1 11 j = C.1 6 j) (hR : cp_R R R1 0 8 8 32) : qb_R C1 R1 := by
  obtain ⟨-, -, ⟨h3, -⟩, h5, -⟩ := hR
  refine qa_pt h hC hw (fun a ha => ⟨?_, ?_, ?_⟩) (fun j hj => ?_)
  · exact (h3 1 a (by decide) (by decide) ha).trans (by rw [Nat.zero_add])
  · exact (h3 2 a (by decide) (by decide) ha).trans (by rw [Nat.zero_add])
  · exact (h3 3 a (by decide) (by decide) ha).trans (by rw [Nat.zero_add])
  · exact (h5 j hj).trans (by rw [Nat.mul_zero, Nat.zero_add])
theorem qb_to {C R C1 R1 : gw_M} (h : qb_R C R) (hC : ∀ j, j < 8 → C1.1 3 j = C.1 8 j ∧ C1.1 4 j = C.1 9 j ∧ C1.1 5 j = C.1 10 j) (hw : ∀ j, j < 32 → C1.1 6 j = C.1 11 j) (hR : cp_R R R1 8 0 8 32) : qa_R C1 R1 := by
  obtain ⟨-, -, ⟨h3, -⟩, h5, -⟩ := hR
  refine qa_pt h hC hw (fun a ha => ⟨?_, ?_, ?_⟩) (fun j hj => ?_)
  · have := h3 1 a (by decide) (by decide) ha
    rw [Nat.zero_add] at this
    exact this
  · have := h3 2 a (by decide) (by decide) ha
    rw [Nat.zero_add] at this
    exact this
  · have := h3 3 a (by decide) (by decide) ha
    rw [Nat.zero_add] at this
    exact this
  · have := h5 j hj
    rw [Nat.mul_zero, Nat.zero_add] at this
    exact this
/-- the last of run: no order stands any more -/
theorem qq_end {C R : gw_M} (ha : qa_R C R) (hp : qp_R C R) (hm : qm_R C R) : qq_R (gw_sI C 0 4 0) (gw_sI R 0 11 0) := by
  refine ⟨qa_cong ha (gw_sI_1 _ (by decide)) (gw_sI_1 _ (by decide)) (gw_sI_1 _ (by decide)) (gw_sI_1 _ (by decide)) (gw_sI_1 _ (by decide)) (gw_sI_1 _ (by decide)) (gw_sI_1 _ (by decide)) (gw_sI_1 _ (by decide)), qp_cong hp (fun k h1 h2 => gw_sI_1 _ (by omega)) (fun k h1 h2 => gw_sI_1 _ (by omega)), ⟨0, by decide, pu_r2 rfl rfl, pu_r2 rfl rfl, fun i hi => absurd hi (by omega)⟩, qm_cong hm (pu_r3 (by decide)) rfl (pu_r3 (by decide)) rfl (pu_r3 (by decide)) rfl (pu_r3 (by decide)) rfl⟩
theorem qx_undo {C R : gw_M} {v : Int32} (hv : ¬ v = 0) (hb : qb_R C R) (hp : qp_R C R) (hm : qm_R C R) : ∃ C1 R1 : gw_M, am_run_b105 C 0 v = some (v, C1) ∧ mo_run_b104 R 0 v = some (v, R1) ∧ qq_R C1 R1 := by
  obtain ⟨C1, a1, a2, a3, a4, a5⟩ := pu_copyA (C := C) (d := 2) (s := 7) (by omega)
  obtain ⟨R1, b1, b2⟩ := pu_copyR (R := R) (s := 8) (d := 0) (Or.inr ⟨rfl, rfl⟩)
  refine ⟨gw_sI C1 0 4 0, gw_sI R1 0 11 0, ?_, ?_, qq_end (qb_to hb a4 a5 b2) ?_ ?_⟩
  · unfold am_run_b105 am_run_b120
    rw [if_neg hv, show le_copyFrom_b0 C (0 + 2) (0 + 7) = some ((), C1) from a1, pu_bd, pu_lt]
  · unfold mo_run_b104 mo_run_b115
    rw [if_neg hv, show mo_copyAccounts_b0 R 0 8 0 = some ((), R1) from b1, pu_bd, pu_lt]
  · exact qp_cong hp (fun k h1 h2 => a3 k (by omega)) (fun k h1 h2 => b2.1 k (by omega) (by omega) (by omega) (by omega))
  · exact qm_cong hm (by rw [a3 0 (by omega)]) (by rw [a2]) (by rw [a3 0 (by omega)]) (by rw [a2]) (by rw [b2.1 0 (by decide) (by decide) (by decide) (by decide)]) (by rw [b2.2.1]) (by rw [b2.1 0 (by decide) (by decide) (by decide) (by decide)]) (by rw [b2.2.1])
theorem pu_l50 {C : gw_M} {f : Nat} {v x : Int32} (hv : ¬ v = 0) : am_run_l50 (f + 1) C 0 v x = am_run_b105 C 0 v := by
  show am_run_b50 (am_run_l50 f) C 0 v x = _
  unfold am_run_b50 am_run_b90
  rw [if_neg hv, if_neg hv]
  by_cases h : C.1 0 4 ≤ x
  · rw [if_pos h]
  · rw [if_neg h]
theorem pu_l47 {R : gw_M} {f : Nat} {v x : Int32} (hv : ¬ v = 0) : mo_run_l47 (f + 1) R 0 v x = mo_run_b104 R 0 v := by
  show mo_run_b47 (mo_run_l47 f) R 0 v x = _
  unfold mo_run_b47 mo_run_b89
  rw [if_neg hv, if_neg hv]
  by_cases h : R.1 0 11 ≤ x
  · rw [if_pos h]
  · rw [if_neg h]
theorem qx_runL {n : Nat} (hn : n ≤ 3) : ∀ (d i f1 f2 : Nat) (C R : gw_M), i + d = n → d + 1 < f1 → d + 1 < f2 → C.1 0 4 = nI n → qq_R C R → qb_R C R → ∃ (r : Int32) (C1 R1 : gw_M), am_run_l50 f1 C 0 0 (nI i) = some (r, C1) ∧ mo_run_l47 f2 R 0 0 (nI i) = some (r, R1) ∧ qq_R C1 R1 := by
  intro d
  induction d with
  | zero =>
    intro i f1 f2 C R hi hf1 hf2 h4 ⟨ha, hp, ho, hm⟩ hb
    obtain ⟨f1, rfl⟩ : ∃ g, f1 = g + 1 := ⟨f1 - 1, by omega⟩
    obtain ⟨f2, rfl⟩ : ∃ g, f2 = g + 1 := ⟨f2 - 1, by omega⟩
    obtain ⟨b, o1, o2⟩ := qx_owes ha ho
    obtain ⟨n', hn', c4, c11, -⟩ := ho
    obtain rfl : n' = n := (nI_eq (by omega) (by omega)).mp (c4.symm.trans h4)
    show ∃ (r : Int32) (C1 R1 : gw_M), am_run_b50 (am_run_l50 f1) C 0 0 (nI i) = some (r, C1) ∧ mo_run_b47 (mo_run_l47 f2) R 0 0 (nI i) = some (r, R1) ∧ qq_R C1 R1
    unfold am_run_b50 mo_run_b47 am_run_b90 mo_run_b89
    rw [c4, c11, if_pos (nI_le (by omega) (by omega)), if_pos (nI_le (by omega) (by omega)), if_pos rfl, if_pos rfl, o1, o2, pu_bd, pu_bd]
    cases b with
    | false =>
      rw [if_pos (show pm_b false = 0 from rfl), if_pos (show pm_b false = 0 from rfl)]
      unfold am_run_b105 mo_run_b104 am_run_b120 mo_run_b115
      rw [if_pos rfl, if_pos rfl, pu_lt, pu_lt]
      exact ⟨0, _, _, rfl, rfl, qq_end ha hp hm⟩
    | true =>
      rw [if_neg (show ¬ pm_b true = 0 by decide), if_neg (show ¬ pm_b true = 0 by decide)]
      obtain ⟨C1, R1, a1, a2, a3⟩ := qx_undo (v := 314) (by decide) hb hp hm
      exact ⟨314, C1, R1, a1, a2, a3⟩
  | succ d ih =>
    intro i f1 f2 C R hi hf1 hf2 h4 ⟨ha, hp, ho, hm⟩ hb
    obtain ⟨f1, rfl⟩ : ∃ g, f1 = g + 2 := ⟨f1 - 2, by omega⟩
    obtain ⟨f2, rfl⟩ : ∃ g, f2 = g + 2 := ⟨f2 - 2, by omega⟩
    have ho' := ho
    obtain ⟨n', hn', c4, c11, hO⟩ := ho'
    obtain rfl : n' = n := (nI_eq (by omega) (by omega)).mp (c4.symm.trans h4)
    obtain ⟨w, C1, R1, a1, a2, hw, ⟨fC, fR⟩, hm1, ha1⟩ := qx_carry (show i < 3 by omega) ha hp (hO i (by omega)) hm
    have hp1 := fk_p hp fC fR
    have ho1 := fk_o ho fC fR
    have hb1 := qb_fk hb fC fR
    show ∃ (r : Int32) (C1 R1 : gw_M), am_run_b50 (am_run_l50 (f1 + 1)) C 0 0 (nI i) = some (r, C1) ∧ mo_run_b47 (mo_run_l47 (f2 + 1)) R 0 0 (nI i) = some (r, R1) ∧ qq_R C1 R1
    unfold am_run_b50 mo_run_b47 am_run_b84 mo_run_b82
    rw [c4, c11, if_neg (nI_ge (by omega) (by omega)), if_neg (nI_ge (by omega) (by omega)), if_pos rfl, if_pos rfl, pu_gi (show i < 3 by omega) (by decide), nI_clamp (show i < 2 ^ 31 by omega), show 0 + 12 + 27 + 3 * i = 39 + 3 * i by omega, a1, a2, pu_bd, pu_bd, nI_1]
    by_cases hz : w = 0
    · subst hz
      rw [if_pos (show nI 0 = (0 : Int32) from rfl), if_pos (show nI 0 ≤ (0 : Int32) by decide)]
      exact ih (i + 1) (f1 + 1) (f2 + 1) C1 R1 (by omega) (by omega) (by omega) (fC.2.trans h4) ⟨ha1 rfl, hp1, ho1, hm1⟩ hb1
    · rw [if_neg (show ¬ nI w = (0 : Int32) from nI_ne0 (by omega) (by omega)), if_neg (show ¬ nI w ≤ (0 : Int32) by rw [pu_lit 0]; exact nI_ge (by omega) (by omega)), show nI w + (100 : Int32) * nI i = nI (w + 100 * i) by rw [pu_lit 100, pk_mul, nI_add], pu_lt]
      have hv : ¬ nI (w + 100 * i) = (0 : Int32) := nI_ne0 (by omega) (by omega)
      rw [pu_l50 hv, pu_l47 hv]
      obtain ⟨C2, R2, b1, b2, b3⟩ := qx_undo hv hb1 hp1 hm1
      exact ⟨_, C2, R2, b1, b2, b3⟩
theorem qu_run (x1 : Int32) (C R : gw_M) (h : qq_R C R) : ∃ (r : Int32) (C1 R1 : gw_M), am_run_b0 C 0 x1 = some (r, C1) ∧ mo_run_b0 R 0 x1 = some (r, R1) ∧ qq_R C1 R1 := by
  have hh := h
  obtain ⟨ha, hp, ho, hm⟩ := hh
  have ho' := ho
  obtain ⟨n, hn, c4, c11, hO⟩ := ho'
  unfold am_run_b0 mo_run_b0
  rw [c4, c11, pu_moinI R x1 0 2000 (by decide) (by decide), pu_bd]
  by_cases h0 : n = 0
  · subst h0
    rw [if_pos (show nI 0 = (0 : Int32) from rfl), if_pos (show nI 0 = (0 : Int32) from rfl)]
    exact ⟨_, C, R, rfl, rfl, h⟩
  · rw [if_neg (show ¬ nI n = (0 : Int32) from nI_ne0 (by omega) (by omega)), if_neg (show ¬ nI n = (0 : Int32) from nI_ne0 (by omega) (by omega))]
    by_cases hx : 0 ≤ x1.toInt ∧ x1.toInt ≤ 2000
    · rw [if_neg (show ¬ x1 < 0 by rw [pu_iLt, pu_T0]; omega), if_pos (show x1 ≤ 2000 by rw [pu_iLe, pu_T2000]; omega), if_pos (show ((0 : Nat) : Int) ≤ x1.toInt ∧ x1.toInt ≤ ((2000 : Nat) : Int) from hx), if_neg pu_10, pu_lt, pu_lt, pu_lt]
      obtain ⟨m, hm2, rfl⟩ := pu_of (v := x1) (n := 2001) hx.1 (by omega)
      obtain ⟨C1, a1, a2, a3, a4, a5⟩ := pu_copyA (C := gw_sL (gw_sI (gw_sI C 0 7 (nI m)) 0 9 0) 0 10 0) (d := 7) (s := 2) (by omega)
      obtain ⟨R1, b1, b2⟩ := pu_copyR (R := R) (s := 0) (d := 8) (Or.inl ⟨rfl, rfl⟩)
      rw [show le_copyFrom_b0 (gw_sL (gw_sI (gw_sI C 0 7 (nI m)) 0 9 0) 0 10 0) (0 + 7) (0 + 2) = some ((), C1) from a1, show mo_copyAccounts_b0 R 0 0 8 = some ((), R1) from b1, pu_bd, pu_bd, pu_lt, pu_lt, pu_lt]
      have iC : ∀ a, a ≠ 0 → (gw_sL (gw_sI (gw_sI C 0 7 (nI m)) 0 9 0) 0 10 0).1 a = C.1 a := fun a ha0 => (gw_sI_1 _ ha0).trans (gw_sI_1 _ ha0)
      have iR : ∀ a, a ≠ 0 → (gw_sL (gw_sI (gw_sI R1 0 24 (nI m)) 0 27 0) 0 25 0).1 a = R1.1 a := fun a ha0 => (gw_sI_1 _ ha0).trans (gw_sI_1 _ ha0)
      have jC : ∀ a, a ≠ 0 → (a < 8 ∨ 11 < a) → C1.1 a = C.1 a := fun a h1 h2 => (a3 a (by omega)).trans (iC a h1)
      have jR : ∀ a, a ≠ 0 → a ≠ 1 → a ≠ 2 → a ≠ 3 → a ≠ 4 → (gw_sL (gw_sI (gw_sI R1 0 24 (nI m)) 0 27 0) 0 25 0).1 a = R.1 a := fun a h0 h1 h2 h3 h4 => (iR a h0).trans (b2.1 a h1 h2 h3 h4)
      have C0 : C1.1 0 = (gw_sI (gw_sI C 0 7 (nI m)) 0 9 0).1 0 := a3 0 (by omega)
      have R0 : R1.1 0 = R.1 0 := b2.1 0 (by decide) (by decide) (by decide) (by decide)
      have d4 : C1.1 0 4 = nI n := by rw [C0, pu_r3 (by decide), pu_r3 (by decide)]; exact c4
      have e11 : (gw_sL (gw_sI (gw_sI R1 0 24 (nI m)) 0 27 0) 0 25 0).1 0 11 = nI n := by
        show (gw_sI (gw_sI R1 0 24 (nI m)) 0 27 0).1 0 11 = nI n
        rw [pu_r3 (by decide), pu_r3 (by decide), R0]; exact c11
      have ha2 : qa_R C1 (gw_sL (gw_sI (gw_sI R1 0 24 (nI m)) 0 27 0) 0 25 0) := by
        refine qa_pt ha (fun a ha8 => ⟨?_, ?_, ?_⟩) (fun j hj => ?_) (fun a ha8 => ⟨?_, ?_, ?_⟩) (fun j hj => ?_)
        · rw [jC 3 (by decide) (by decide)]
        · rw [jC 4 (by decide) (by decide)]
        · rw [jC 5 (by decide) (by decide)]
        · rw [jC 6 (by decide) (by decide)]
        · rw [iR 1 (by decide)]; exact b2.2.2.1.2 1 a (by decide) (by decide) (Or.inl ha8)
        · rw [iR 2 (by decide)]; exact b2.2.2.1.2 2 a (by decide) (by decide) (Or.inl ha8)
        · rw [iR 3 (by decide)]; exact b2.2.2.1.2 3 a (by decide) (by decide) (Or.inl ha8)
        · rw [iR 4 (by decide)]; exact b2.2.2.2.2 j (Or.inl hj)
      have hp2 : qp_R C1 (gw_sL (gw_sI (gw_sI R1 0 24 (nI m)) 0 27 0) 0 25 0) := qp_cong hp (fun k h1 h2 => jC k (by omega) (by omega)) (fun k h1 h2 => jR k (by omega) (by omega) (by omega) (by omega) (by omega))
      have ho2 : qo_R C1 (gw_sL (gw_sI (gw_sI R1 0 24 (nI m)) 0 27 0) 0 25 0) := qo_cong ho (d4.trans c4.symm) (fun k h1 h2 => jC k (by omega) (by omega)) (e11.trans c11.symm) (fun q hq => ⟨by rw [jR 12 (by decide) (by decide) (by decide) (by decide) (by decide)], by rw [jR 13 (by decide) (by decide) (by decide) (by decide) (by decide)], by rw [jR 14 (by decide) (by decide) (by decide) (by decide) (by decide)]⟩) (fun q hq => ⟨by rw [jR 15 (by decide) (by decide) (by decide) (by decide) (by decide)], by rw [jR 16 (by decide) (by decide) (by decide) (by decide) (by decide)]⟩)
      have hm3 : qm_R C1 (gw_sL (gw_sI (gw_sI R1 0 24 (nI m)) 0 27 0) 0 25 0) := by
        refine ⟨⟨m, by omega, ?_, ?_⟩, ?_, 0, by decide, ?_, (show (gw_sI (gw_sI R1 0 24 (nI m)) 0 27 0).1 0 27 = nI 0 from pu_r2 rfl rfl), fun i hi => absurd hi (by omega)⟩
        · rw [C0, pu_r3 (by decide), pu_r2 rfl rfl]
        · show (gw_sI (gw_sI R1 0 24 (nI m)) 0 27 0).1 0 24 = nI m
          rw [pu_r3 (by decide), pu_r2 rfl rfl]
        · rw [a2]
          exact (pu_q2 rfl rfl).trans (pu_q2 rfl rfl).symm
        · rw [C0]; exact pu_r2 rfl rfl
      have hb2 : qb_R C1 (gw_sL (gw_sI (gw_sI R1 0 24 (nI m)) 0 27 0) 0 25 0) := qb_cg (C := C1) (R := R1) (qb_of ha (fun j hj => ⟨(a4 j hj).1.trans (congrFun (iC 3 (by decide)) j), (a4 j hj).2.1.trans (congrFun (iC 4 (by decide)) j), (a4 j hj).2.2.trans (congrFun (iC 5 (by decide)) j)⟩) (fun j hj => (a5 j hj).trans (congrFun (iC 6 (by decide)) j)) b2) (fun _ _ _ => rfl) (fun k i h1 h2 _ => by rw [iR k (by omega)]) (fun i _ => by rw [iR 4 (by decide)])
      exact qx_runL hn n 0 2100 2100 C1 _ (Nat.zero_add _) (by omega) (by omega) d4 ⟨ha2, hp2, ho2, hm3⟩ hb2
    · rw [if_neg (show ¬ (((0 : Nat) : Int) ≤ x1.toInt ∧ x1.toInt ≤ ((2000 : Nat) : Int)) from hx), if_pos rfl]
      by_cases h1 : x1 < 0
      · rw [if_pos h1]
        exact ⟨_, C, R, rfl, rfl, h⟩
      · rw [if_neg h1, if_neg (show ¬ x1 ≤ 2000 by rw [pu_iLe, pu_T2000]; rw [pu_iLt, pu_T0] at h1; omega)]
        exact ⟨_, C, R, rfl, rfl, h⟩
