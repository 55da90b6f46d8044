/-! slot -/
theorem pu_addSlot {M : gw_M} {o k : Nat} {a m : Int32} (hk : k ≤ 4) (h : M.1 o 2 = nI k) : od_addSlot_b0 M o a m = if k < 4 then some (1, gw_sI (gw_sI (gw_sI M (o + 1) k a) (o + 2) k m) o 2 (nI (k + 1))) else some (0, M) := by
  unfold od_addSlot_b0
  by_cases hlt : k < 4
  · rw [if_pos hlt, h, if_pos (show nI k < 4 from nI_lt hlt (by decide))]
    simp (disch := omega) only [pu_lt, gw_sI_1, h, pu_gi (show k < 4 from hlt) (by decide), nI_clamp (show k < 2 ^ 31 by omega)]
    rw [pu_lit 1, nI_add]
  · rw [if_neg hlt, h, if_neg]
    exact nI_nlt (b := 4) (by omega) (by omega)
theorem pu_add {M : gw_M} {q k : Nat} {a m : Int32} (hq : q < 9) (hk : k < 4) (h : M.1 14 q = nI k) : mo_add_b0 M 0 (nI q) a m = some ((), gw_sI (gw_sI (gw_sI M 15 (4 * q + k) a) 16 (4 * q + k) m) 14 q (nI (k + 1))) := by
  unfold mo_add_b0
  simp (disch := omega) only [pu_lt, gw_sI_1, h, pu_gi (show q < 9 from hq) (by decide), nI_clamp (show q < 2 ^ 31 by omega), Nat.zero_add, pu_lit 4, pk_mul, nI_add, pu_gi (show 4 * q + k < 36 by omega) (by decide), nI_clamp (show 4 * q + k < 2 ^ 31 by omega)]
  rw [pu_lit 1, nI_add]
theorem qu_slot (x1 x2 : Int32) (C R : gw_M) (h : qq_R C R) : ∃ (r : Int32) (C1 R1 : gw_M), am_slot_b0 C 0 x1 x2 = some (r, C1) ∧ mo_slot_b0 R 0 x1 x2 = some (r, R1) ∧ qq_R C1 R1 := by
  obtain ⟨n, hn, e1, e2, e3⟩ := h.2.2.1
  unfold am_slot_b0 mo_slot_b0
  rw [e1, e2]
  by_cases hn0 : n = 0
  · subst hn0
    exact ⟨0, C, R, if_pos rfl, if_pos rfl, h⟩
  have hne : ¬ nI n = 0 := nI_ne0 (by omega) (by omega)
  rw [if_neg hne, if_neg hne, pu_isAccount, pu_moin07, pu_bd, pu_bd]
  by_cases hx : 0 ≤ x1.toInt ∧ x1.toInt < 8
  · simp only [if_pos hx, if_neg pu_10]
    rw [pu_moin03, pu_bd]
    by_cases hy : 0 ≤ x2.toInt ∧ x2.toInt < 4
    · have h1 : ¬ x2 < 0 := by rw [pu_iLt, pu_t0]; omega
      have h2 : x2 ≤ 3 := by rw [pu_iLe, pu_lit 3, nI_toInt (by decide)]; omega
      obtain ⟨i, rfl⟩ : ∃ i, n = i + 1 := ⟨n - 1, by omega⟩
      obtain ⟨a, ha, rfl⟩ := pu_of8 hx
      obtain ⟨m, hm, rfl⟩ := pu_of4 hy
      obtain ⟨hp, harg, k, hk, f1, f2, f3⟩ := e3 i (by omega)
      have eo : 0 + 12 + 27 + 3 * i = 39 + 3 * i := by omega
      rw [if_neg h1, if_pos h2, if_pos hy, if_neg pu_10]
      simp only [nI_pred, e1, e2, pu_gi (show i < 3 by omega) (by decide), pu_gi (show i < 9 by omega) (by decide), nI_clamp (show i < 2 ^ 31 by omega), eo, Nat.zero_add, f2]
      rw [pu_addSlot hk f1]
      by_cases hlt : k < 4
      · have h4 : ¬ nI k = 4 := fun q => by
          rw [pu_lit 4, nI_eq (by omega) (by decide)] at q
          omega
        rw [if_pos hlt, pu_bd, if_neg h4, pu_add (by omega) hlt f2, pu_bd]
        refine ⟨1, _, _, rfl, rfl, ?_, ?_, ?_, ?_⟩
        · exact qa_cong h.1 (by simp (disch := omega) only [gw_sI_1]) (by simp (disch := omega) only [gw_sI_1]) (by simp (disch := omega) only [gw_sI_1]) (by simp (disch := omega) only [gw_sI_1]) (by simp (disch := omega) only [gw_sI_1]) (by simp (disch := omega) only [gw_sI_1]) (by simp (disch := omega) only [gw_sI_1]) (by simp (disch := omega) only [gw_sI_1])
        · exact qp_cong h.2.1 (fun k h1 h2 => by simp (disch := omega) only [gw_sI_1]) (fun k h1 h2 => by simp (disch := omega) only [gw_sI_1])
        · refine ⟨i + 1, hn, ?_, ?_, fun q hq => ?_⟩
          · simp (disch := omega) only [gw_sI_1, e1]
          · simp (disch := omega) only [gw_sI_1, e2]
          · by_cases hqi : q = i
            · subst hqi
              obtain ⟨p, hp1, hp2, hp3⟩ := hp
              refine ⟨⟨p, hp1, ?_, ?_⟩, ?_, k + 1, by omega, ?_, ?_, fun j hj => ?_⟩
              · simp (disch := omega) only [gw_sI_1, pu_r2, pu_r3, hp2]
              · simp (disch := omega) only [gw_sI_1, pu_r2, pu_r3, hp3]
              · simp (disch := omega) only [gw_sI_1, pu_r2, pu_r3, harg]
              · simp (disch := omega) only [gw_sI_1, pu_r2, pu_r3]
              · simp (disch := omega) only [gw_sI_1, pu_r2, pu_r3]
              · by_cases hjk : j = k
                · subst hjk
                  refine ⟨a, m, ⟨ha, hm⟩, ⟨?_, ?_⟩, ?_, ?_⟩
                  · simp (disch := omega) only [gw_sI_1, pu_r2, pu_r3]
                  · simp (disch := omega) only [gw_sI_1, pu_r2, pu_r3]
                  · simp (disch := omega) only [gw_sI_1, pu_r2, pu_r3]
                  · simp (disch := omega) only [gw_sI_1, pu_r2, pu_r3]
                · obtain ⟨a', m', g1, ⟨g2, g3⟩, g4, g5⟩ := f3 j (by omega)
                  refine ⟨a', m', g1, ⟨?_, ?_⟩, ?_, ?_⟩
                  · simp (disch := omega) only [gw_sI_1, pu_r2, pu_r3, g2]
                  · simp (disch := omega) only [gw_sI_1, pu_r2, pu_r3, g3]
                  · simp (disch := omega) only [gw_sI_1, pu_r2, pu_r3, g4]
                  · simp (disch := omega) only [gw_sI_1, pu_r2, pu_r3, g5]
            · refine qo_cong1 (e3 q (by omega)) ?_ ?_ ?_ ?_ ?_ ?_ (fun j hj => ?_) (fun j hj => ?_)
              · simp (disch := omega) only [gw_sI_1]
              · simp (disch := omega) only [gw_sI_1]
              · simp (disch := omega) only [gw_sI_1]
              · simp (disch := omega) only [gw_sI_1]
              · simp (disch := omega) only [gw_sI_1]
              · simp (disch := omega) only [gw_sI_1, pu_r3]
              · simp (disch := omega) only [gw_sI_1, pu_r3]
              · simp (disch := omega) only [gw_sI_1, pu_r3]
        · exact qm_cong h.2.2.2 (by simp (disch := omega) only [gw_sI_1]) rfl (by simp (disch := omega) only [gw_sI_1]) rfl (by simp (disch := omega) only [gw_sI_1]) rfl (by simp (disch := omega) only [gw_sI_1]) rfl
      · have hk4 : k = 4 := by omega
        subst hk4
        rw [if_neg hlt, pu_bd]
        exact ⟨0, C, R, rfl, if_pos rfl, h⟩
    · rw [if_neg hy, if_pos rfl]
      refine ⟨0, C, R, ?_, rfl, h⟩
      by_cases h1 : x2 < 0
      · rw [if_pos h1]
      · rw [if_neg h1, if_neg]
        rw [pu_iLt, pu_t0] at h1
        rw [pu_iLe, pu_lit 3, nI_toInt (by decide)]
        omega
  · simp only [if_neg hx, if_pos]
    exact ⟨0, C, R, rfl, rfl, h⟩
