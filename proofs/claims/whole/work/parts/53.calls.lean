/-! log, account, data, code, wipe, order, slot. -/
theorem qu_log (x : Int32) (C R : gw_M) (h : qq_R C R) : ∃ (r : Int64) (C1 R1 : gw_M), am_log_b0 C 0 x = some (r, C1) ∧ mo_log_b0 R 0 x = some (r, R1) ∧ qq_R C1 R1 := by
  obtain ⟨n, hn, e1, e2, e3⟩ := h.2.2.2.2.2
  have et : ((nI n - 1).toInt64).toInt = (n : Int) - 1 := by
    rw [pu_il]
    exact pk_sub_toInt (b := 1) (by omega) (by decide)
  by_cases hx : 0 ≤ x.toInt ∧ x.toInt < n
  · obtain ⟨j, hj, rfl⟩ := pu_of hx.1 hx.2
    refine ⟨C.2 14 j, C, R, ?_, ?_, h⟩
    · unfold am_log_b0
      rw [e1, if_neg (nI_pos (by omega)), if_neg (nI_ge hj (by omega)), pu_gi (by omega) (by decide), nI_clamp (by omega)]
    · unfold mo_log_b0
      rw [e2, pu_moin, pu_il, et, pu_tL 0 (by decide), if_pos (by omega), pu_bd, if_neg (by decide), pu_gi (by omega) (by decide), nI_clamp (by omega), e3 j hj]
  · refine ⟨0, C, R, ?_, ?_, h⟩
    · unfold am_log_b0
      rw [e1]
      by_cases h1 : x < 0
      · rw [if_pos h1]
      · rw [if_neg h1, if_pos]
        rw [pu_iLt, pu_t0] at h1
        rw [pu_iLe, nI_toInt (by omega)]
        omega
    · unfold mo_log_b0
      rw [e2, pu_moin, pu_il, et, pu_tL 0 (by decide), if_neg (by omega), pu_bd, if_pos rfl]
theorem qu_account (x y : Int32) (C R : gw_M) (h : qq_R C R) : ∃ (r : Int32) (C1 R1 : gw_M), am_account_b0 C 0 x y = some (r, C1) ∧ mo_account_b0 R 0 x y = some (r, R1) ∧ qq_R C1 R1 := by
  unfold am_account_b0 mo_account_b0
  rw [pu_isAccount, pu_moin07, pu_bd, pu_bd]
  by_cases hx : 0 ≤ x.toInt ∧ x.toInt < 8
  · simp only [if_pos hx, if_neg pu_10]
    obtain ⟨a, ha, rfl⟩ := pu_of8 hx
    obtain ⟨b, o, z, hb, ⟨h1, h2⟩, ⟨h3, h4⟩, ⟨h5, h6⟩, _⟩ := h.1 a ha
    simp only [pu_gi (show a < 8 from ha) (by decide), pu_gi (show a < 16 by omega) (by decide), nI_clamp (show a < 2 ^ 31 by omega)]
    by_cases q0 : y = 0
    · rw [if_pos q0, if_pos q0]
      exact ⟨nI b, C, R, by rw [← h1], by rw [← h2], h⟩
    · rw [if_neg q0, if_neg q0]
      by_cases q1 : y = 1
      · rw [if_pos q1, if_pos q1]
        exact ⟨nI o, C, R, by rw [← h3], by rw [← h4], h⟩
      · rw [if_neg q1, if_neg q1]
        by_cases q2 : y = 2
        · rw [if_pos q2, if_pos q2]
          exact ⟨nI z, C, R, by rw [← h5], by rw [← h6], h⟩
        · rw [if_neg q2, if_neg q2]
          exact ⟨-1, C, R, rfl, rfl, h⟩
  · simp only [if_neg hx, if_pos]
    exact ⟨-1, C, R, rfl, rfl, h⟩
theorem qu_data (x y : Int32) (C R : gw_M) (h : qq_R C R) : ∃ (r : Int32) (C1 R1 : gw_M), am_data_b0 C 0 x y = some (r, C1) ∧ mo_data_b0 R 0 x y = some (r, R1) ∧ qq_R C1 R1 := by
  unfold am_data_b0 mo_data_b0
  rw [pu_isAccount, pu_moin07, pu_bd, pu_bd]
  by_cases hx : 0 ≤ x.toInt ∧ x.toInt < 8
  · simp only [if_pos hx, if_neg pu_10]
    by_cases hy : y < 0
    · rw [if_pos hy, if_pos hy]
      exact ⟨0, C, R, rfl, rfl, h⟩
    · rw [if_neg hy, if_neg hy, pu_moin07, pu_bd, if_pos hx, if_neg pu_10]
      unfold mo_data_b38
      obtain ⟨a, ha, rfl⟩ := pu_of8 hx
      obtain ⟨b, o, z, hb, ⟨h1, h2⟩, ⟨h3, h4⟩, ⟨h5, h6⟩, h7⟩ := h.1 a ha
      simp only [pu_gi (show a < 8 from ha) (by decide), pu_gi (show a < 16 by omega) (by decide), nI_clamp (show a < 2 ^ 31 by omega), Nat.zero_add]
      rw [show C.1 (2 + 3) a = nI z from h5, h6]
      by_cases q : nI z ≤ y
      · rw [if_pos q, if_pos q]
        exact ⟨0, C, R, rfl, rfl, h⟩
      · rw [if_neg q, if_neg q]
        rw [pu_iLt, pu_t0] at hy
        rw [pu_iLe, nI_toInt (by omega)] at q
        obtain ⟨w, hw, rfl⟩ := pu_of (v := y) (n := 4) (by omega) (by omega)
        rw [pu_lit 4, pk_mul, nI_add, pk_mul, nI_add, pu_gi (by omega) (by decide), pu_gi (by omega) (by decide), nI_clamp (by omega), nI_clamp (by omega)]
        refine ⟨C.1 6 (4 * a + w), C, R, ?_, ?_, h⟩
        · rw [Nat.mul_comm a 4]
        · rw [(h7 w hw).1]
  · simp only [if_neg hx, if_pos]
    exact ⟨0, C, R, rfl, rfl, h⟩
/-- code -/
def pm_append (M : gw_M) (o n : Nat) (k d s f x : Int32) : gw_M := gw_sI (gw_sI (gw_sI (gw_sI (gw_sI (gw_sI (gw_sI M (o + 1) n k) (o + 2) n d) (o + 3) n s) (o + 4) n f) (o + 5) n x) o 6 0) o 5 (nI (n + 1))
theorem pu_append {M : gw_M} {o n : Nat} {k d s f x : Int32} (hn : n < 32) (h : M.1 o 5 = nI n) : pr_append_b0 M o k d s f x = some (nI n, pm_append M o n k d s f x) := by
  unfold pr_append_b0 pm_append
  simp (disch := omega) only [pu_lt, gw_sI_1, h, pu_gi (show n < 32 from hn) (by decide), nI_clamp (show n < 2 ^ 31 by omega)]
  rw [pu_sI1, if_pos rfl, if_neg (by decide)]
  simp (disch := omega) only [gw_sI_1, h]
  rw [pu_lit 1, nI_add]
def pm_code (M : gw_M) (p n : Nat) (k d s f x : Int32) : gw_M := gw_sI (gw_sI (gw_sI (gw_sI (gw_sI (gw_sI (gw_sI M 7 (32 * p + n) k) 8 (32 * p + n) d) 9 (32 * p + n) s) 10 (32 * p + n) f) 11 (32 * p + n) x) 5 p (nI (n + 1))) 6 p 0
theorem pu_code {M : gw_M} {p n : Nat} {k d s f x : Int32} (hp : p < 3) (hn : n < 32) (h : M.1 5 p = nI n) : mo_code_b0 M 0 (nI (p + 1)) k d s f x = some (nI n, pm_code M p n k d s f x) := by
  unfold mo_code_b0 pm_code
  rw [pu_moin13, nI_toInt (by omega), if_pos (by omega), pu_bd, if_neg pu_10]
  simp only [nI_pred, pu_gi (show p < 3 from hp) (by decide), nI_clamp (show p < 2 ^ 31 by omega), Nat.zero_add, h, pu_lt]
  have h32 : ¬ nI n = 32 := fun q => by
    rw [pu_lit 32, nI_eq (by omega) (by decide)] at q
    omega
  rw [if_neg h32]
  simp only [pu_lit 32, pk_mul, nI_add, pu_gi (show 32 * p + n < 96 by omega) (by decide), nI_clamp (show 32 * p + n < 2 ^ 31 by omega)]
  simp (disch := omega) only [gw_sI_1, h]
  rw [pu_lit 1, nI_add]
  simp only [pu_sI1]
  simp
  exact ⟨by rw [← nI_pred n]; rfl, rfl⟩
theorem qu_code (x1 x2 x3 x4 x5 x6 : Int32) (C R : gw_M) (h : qq_R C R) : ∃ (r : Int32) (C1 R1 : gw_M), am_code_b0 C 0 x1 x2 x3 x4 x5 x6 = some (r, C1) ∧ mo_code_b0 R 0 x1 x2 x3 x4 x5 x6 = some (r, R1) ∧ qq_R C1 R1 := by
  by_cases hx : 0 < x1.toInt ∧ x1.toInt < 4
  · obtain ⟨p, hp, rfl⟩ := pu_of13 hx
    obtain ⟨n, hn, ⟨e1, e2⟩, hs, hi⟩ := h.2.1 p hp
    have eo : 0 + 1 + 14 + 6 * (p + 1) = 21 + 6 * p := by omega
    have ca : am_code_b0 C 0 (nI (p + 1)) x2 x3 x4 x5 x6 = (if nI n < 32 then gw_bd (pr_append_b0 C (21 + 6 * p) x2 x3 x4 x5 x6) (fun r37 M37 => some (r37, M37)) else some (-1, C)) := by
      unfold am_code_b0
      rw [pu_hasCode, if_pos hx, pu_bd, if_neg pu_10]
      simp only [pu_gi (show p + 1 < 4 by omega) (by decide), nI_clamp (show p + 1 < 2 ^ 31 by omega), eo, e1]
    by_cases hlt : n < 32
    · rw [if_pos (show nI n < 32 from nI_lt hlt (by decide)), pu_append hlt e1, pu_bd] at ca
      refine ⟨_, _, _, ca, pu_code hp hlt e2, ?_, ?_, ?_, ?_⟩
      · exact qa_cong h.1 (by unfold pm_append; simp (disch := omega) only [gw_sI_1]) (by unfold pm_append; simp (disch := omega) only [gw_sI_1]) (by unfold pm_append; simp (disch := omega) only [gw_sI_1]) (by unfold pm_append; simp (disch := omega) only [gw_sI_1]) (by unfold pm_code; simp (disch := omega) only [gw_sI_1]) (by unfold pm_code; simp (disch := omega) only [gw_sI_1]) (by unfold pm_code; simp (disch := omega) only [gw_sI_1]) (by unfold pm_code; simp (disch := omega) only [gw_sI_1])
      · intro q hq
        by_cases hqp : q = p
        · subst hqp
          refine ⟨n + 1, by omega, ⟨?_, ?_⟩, Or.inl ⟨?_, ?_⟩, fun i hi2 => ?_⟩
          · unfold pm_append
            rw [pu_sI1, if_pos rfl, if_pos rfl]
          · unfold pm_code
            simp (disch := omega) only [gw_sI_1]
            rw [pu_sI1, if_pos rfl, if_pos rfl]
          · unfold pm_append
            rw [pu_sI1, if_pos rfl, if_neg (by decide), pu_sI1, if_pos rfl, if_pos rfl]
          · unfold pm_code
            rw [pu_sI1, if_pos rfl, if_pos rfl]
          · unfold pm_append pm_code
            by_cases hin : i = n
            · subst hin
              simp (disch := omega) only [gw_sI_1, pu_r2, pu_r3, and_self]
            · have hii := hi i (by omega)
              simp (disch := omega) only [gw_sI_1, pu_r2, pu_r3, hii, and_self]
        · refine qp_cong1 (h.2.1 q hq) (fun k h1 h2 => ?_) ?_ ?_ (fun k i h1 h2 h3 h4 => ?_)
          · unfold pm_append
            simp (disch := omega) only [gw_sI_1]
          · unfold pm_code
            simp (disch := omega) only [gw_sI_1]
            rw [pu_sI1, if_pos rfl, if_neg hqp]
            simp (disch := omega) only [gw_sI_1]
          · unfold pm_code
            rw [pu_sI1, if_pos rfl, if_neg hqp]
            simp (disch := omega) only [gw_sI_1]
          · unfold pm_code
            simp (disch := omega) only [gw_sI_1, pu_r3]
      · refine qo_cong h.2.2.1 ?_ (fun k h1 h2 => ?_) ?_ (fun q hq => ?_) (fun q hq => ?_)
        · unfold pm_append
          simp (disch := omega) only [gw_sI_1]
        · unfold pm_append
          simp (disch := omega) only [gw_sI_1]
        · unfold pm_code
          simp (disch := omega) only [gw_sI_1]
        · unfold pm_code
          simp (disch := omega) only [gw_sI_1, and_self]
        · unfold pm_code
          simp (disch := omega) only [gw_sI_1, and_self]
      · exact qm_cong h.2.2.2 (by unfold pm_append; simp (disch := omega) only [gw_sI_1]) rfl (by unfold pm_append; simp (disch := omega) only [gw_sI_1]) rfl (by unfold pm_code; simp (disch := omega) only [gw_sI_1]) rfl (by unfold pm_code; simp (disch := omega) only [gw_sI_1]) rfl
    · have hn32 : n = 32 := by omega
      subst hn32
      rw [if_neg (by decide)] at ca
      refine ⟨-1, C, R, ca, ?_, h⟩
      unfold mo_code_b0
      rw [pu_moin13, if_pos hx, pu_bd, if_neg pu_10]
      simp only [nI_pred, pu_gi (show p < 3 from hp) (by decide), nI_clamp (show p < 2 ^ 31 by omega), Nat.zero_add, e2]
      rfl
  · refine ⟨-1, C, R, ?_, ?_, h⟩
    · unfold am_code_b0
      rw [pu_hasCode, if_neg hx, pu_bd, if_pos rfl]
    · unfold mo_code_b0
      rw [pu_moin13, if_neg hx, pu_bd, if_pos rfl]
theorem qu_wipe (x1 : Int32) (C R : gw_M) (h : qq_R C R) : ∃ (r : Int32) (C1 R1 : gw_M), am_wipe_b0 C 0 x1 = some (r, C1) ∧ mo_wipe_b0 R 0 x1 = some (r, R1) ∧ qq_R C1 R1 := by
  by_cases hx : 0 < x1.toInt ∧ x1.toInt < 4
  · obtain ⟨p, hp, rfl⟩ := pu_of13 hx
    obtain ⟨n, hn, ⟨e1, e2⟩, hs, hi⟩ := h.2.1 p hp
    have eo : 0 + 1 + 14 + 6 * (p + 1) = 21 + 6 * p := by omega
    refine ⟨nI n, gw_sI (gw_sI C (21 + 6 * p) 5 0) (21 + 6 * p) 6 0, gw_sI (gw_sI R 5 p 0) 6 p 0, ?_, ?_, ?_, ?_, ?_, ?_⟩
    · unfold am_wipe_b0
      rw [pu_hasCode, if_pos hx, pu_bd, if_neg pu_10]
      simp only [pu_gi (show p + 1 < 4 by omega) (by decide), nI_clamp (show p + 1 < 2 ^ 31 by omega), eo]
      unfold pr_clear_b0
      simp only [pu_lt, pu_bd, e1]
    · unfold mo_wipe_b0
      rw [pu_moin13, if_pos hx, pu_bd, if_neg pu_10]
      simp only [nI_pred, pu_gi (show p < 3 from hp) (by decide), nI_clamp (show p < 2 ^ 31 by omega), Nat.zero_add, e2, pu_lt]
      rfl
    · exact qa_cong h.1 (by simp (disch := omega) only [gw_sI_1]) (by simp (disch := omega) only [gw_sI_1]) (by simp (disch := omega) only [gw_sI_1]) (by simp (disch := omega) only [gw_sI_1]) (by simp (disch := omega) only [gw_sI_1]) (by simp (disch := omega) only [gw_sI_1]) (by simp (disch := omega) only [gw_sI_1]) (by simp (disch := omega) only [gw_sI_1])
    · intro q hq
      by_cases hqp : q = p
      · subst hqp
        refine ⟨0, by omega, ⟨?_, ?_⟩, Or.inl ⟨?_, ?_⟩, fun i hi2 => absurd hi2 (Nat.not_lt_zero i)⟩
        · rw [pu_sI1, if_pos rfl, if_neg (by decide), pu_sI1, if_pos rfl, if_pos rfl]
          rfl
        · simp (disch := omega) only [gw_sI_1]
          rw [pu_sI1, if_pos rfl, if_pos rfl]
          rfl
        · rw [pu_sI1, if_pos rfl, if_pos rfl]
        · rw [pu_sI1, if_pos rfl, if_pos rfl]
      · refine qp_cong1 (h.2.1 q hq) (fun k h1 h2 => ?_) ?_ ?_ (fun k i h1 h2 h3 h4 => ?_)
        · simp (disch := omega) only [gw_sI_1]
        · simp (disch := omega) only [gw_sI_1]
          rw [pu_sI1, if_pos rfl, if_neg hqp]
        · rw [pu_sI1, if_pos rfl, if_neg hqp]
          simp (disch := omega) only [gw_sI_1]
        · simp (disch := omega) only [gw_sI_1]
    · refine qo_cong h.2.2.1 ?_ (fun k h1 h2 => ?_) ?_ (fun q hq => ?_) (fun q hq => ?_)
      · simp (disch := omega) only [gw_sI_1]
      · simp (disch := omega) only [gw_sI_1]
      · simp (disch := omega) only [gw_sI_1]
      · simp (disch := omega) only [gw_sI_1, and_self]
      · simp (disch := omega) only [gw_sI_1, and_self]
    · exact qm_cong h.2.2.2 (by simp (disch := omega) only [gw_sI_1]) rfl (by simp (disch := omega) only [gw_sI_1]) rfl (by simp (disch := omega) only [gw_sI_1]) rfl (by simp (disch := omega) only [gw_sI_1]) rfl
  · refine ⟨-1, C, R, ?_, ?_, h⟩
    · unfold am_wipe_b0
      rw [pu_hasCode, if_neg hx, pu_bd, if_pos rfl]
    · unfold mo_wipe_b0
      rw [pu_moin13, if_neg hx, pu_bd, if_pos rfl]
theorem qu_order (x1 x2 : Int32) (C R : gw_M) (h : qq_R C R) : ∃ (r : Int32) (C1 R1 : gw_M), am_order_b0 C 0 x1 x2 = some (r, C1) ∧ mo_order_b0 R 0 x1 x2 = some (r, R1) ∧ qq_R C1 R1 := by
  obtain ⟨n, hn, e1, e2, e3⟩ := h.2.2.1
  by_cases hx : 0 ≤ x1.toInt ∧ x1.toInt < 4
  · have h1 : ¬ x1 < 0 := by rw [pu_iLt, pu_t0]; omega
    have h2 : ¬ (4 : Int32) ≤ x1 := by rw [pu_iLe, pu_lit 4, nI_toInt (by decide)]; omega
    obtain ⟨p, hp, rfl⟩ := pu_of4 hx
    by_cases hlt : n < 3
    · have eo : 0 + 12 + 27 + 3 * n = 39 + 3 * n := by omega
      refine ⟨nI n, gw_sI (gw_sI (gw_sI (gw_sI C (39 + 3 * n) 0 (nI p)) (39 + 3 * n) 1 x2) (39 + 3 * n) 2 0) 0 4 (nI (n + 1)), gw_sI (gw_sI (gw_sI (gw_sI R 12 n (nI p)) 13 n x2) 14 n 0) 0 11 (nI (n + 1)), ?_, ?_, ?_, ?_, ?_, ?_⟩
      · unfold am_order_b0
        rw [if_neg h1, if_neg h2, e1, if_pos (show nI n < 3 from nI_lt hlt (by decide)), pu_gi hlt (by decide), nI_clamp (by omega), eo]
        unfold od_reset_b0
        simp (disch := omega) only [pu_lt, pu_bd, gw_sI_1, e1]
        rw [pu_lit 1, nI_add]
      · unfold mo_order_b0
        have h3 : ¬ nI n = 3 := fun q => by
          rw [pu_lit 3, nI_eq (by omega) (by decide)] at q
          omega
        rw [pu_moin03, if_pos hx, pu_bd, if_neg pu_10]
        simp (disch := omega) only [pu_lt, gw_sI_1, e2, if_neg h3, pu_gi (show n < 9 by omega) (by decide), nI_clamp (show n < 2 ^ 31 by omega), Nat.zero_add]
        rw [pu_lit 1, nI_add, pu_sI1, if_pos rfl, if_pos rfl]
        rw [show nI (n + 1) - nI 1 = nI n from nI_pred n]
      · exact qa_cong h.1 (by simp (disch := omega) only [gw_sI_1]) (by simp (disch := omega) only [gw_sI_1]) (by simp (disch := omega) only [gw_sI_1]) (by simp (disch := omega) only [gw_sI_1]) (by simp (disch := omega) only [gw_sI_1]) (by simp (disch := omega) only [gw_sI_1]) (by simp (disch := omega) only [gw_sI_1]) (by simp (disch := omega) only [gw_sI_1])
      · exact qp_cong h.2.1 (fun k h1 h2 => by simp (disch := omega) only [gw_sI_1]) (fun k h1 h2 => by simp (disch := omega) only [gw_sI_1])
      · refine ⟨n + 1, by omega, ?_, ?_, fun i hi => ?_⟩
        · rw [pu_sI1, if_pos rfl, if_pos rfl]
        · rw [pu_sI1, if_pos rfl, if_pos rfl]
        · by_cases hin : i = n
          · subst hin
            refine ⟨⟨p, hp, ?_, ?_⟩, ?_, 0, by omega, ?_, ?_, fun j hj => absurd hj (Nat.not_lt_zero j)⟩
            · simp (disch := omega) only [gw_sI_1]
              simp [pu_sI1]
            · simp (disch := omega) only [gw_sI_1]
              simp [pu_sI1]
            · simp (disch := omega) only [gw_sI_1]
              simp [pu_sI1]
            · simp (disch := omega) only [gw_sI_1]
              simp [pu_sI1]
              rfl
            · simp (disch := omega) only [gw_sI_1]
              simp [pu_sI1]
              rfl
          · refine qo_cong1 (e3 i (by omega)) ?_ ?_ ?_ ?_ ?_ ?_ (fun j hj => ?_) (fun j hj => ?_)
            · simp (disch := omega) only [gw_sI_1]
            · simp (disch := omega) only [gw_sI_1]
            · simp (disch := omega) only [gw_sI_1]
            · simp (disch := omega) only [gw_sI_1]
              simp [pu_sI1, hin]
            · simp (disch := omega) only [gw_sI_1]
              simp [pu_sI1, hin]
            · simp (disch := omega) only [gw_sI_1]
              simp [pu_sI1, hin]
            · simp (disch := omega) only [gw_sI_1]
            · simp (disch := omega) only [gw_sI_1]
      · refine qm_cong h.2.2.2 ?_ rfl ?_ rfl ?_ rfl ?_ rfl
        · rw [pu_sI1, if_pos rfl, if_neg (by decide)]
          simp (disch := omega) only [gw_sI_1]
        · rw [pu_sI1, if_pos rfl, if_neg (by decide)]
          simp (disch := omega) only [gw_sI_1]
        · rw [pu_sI1, if_pos rfl, if_neg (by decide)]
          simp (disch := omega) only [gw_sI_1]
        · rw [pu_sI1, if_pos rfl, if_neg (by decide)]
          simp (disch := omega) only [gw_sI_1]
    · have hn3 : n = 3 := by omega
      subst hn3
      refine ⟨-1, C, R, ?_, ?_, h⟩
      · unfold am_order_b0
        rw [if_neg h1, if_neg h2, e1, if_neg (by decide)]
      · unfold mo_order_b0
        rw [pu_moin03, if_pos hx, pu_bd, if_neg pu_10, e2]
        rfl
  · refine ⟨-1, C, R, ?_, ?_, h⟩
    · unfold am_order_b0
      by_cases h1 : x1 < 0
      · rw [if_pos h1]
      · rw [if_neg h1, if_pos]
        rw [pu_iLt, pu_t0] at h1
        rw [pu_iLe, pu_lit 4, nI_toInt (by decide)]
        omega
    · unfold mo_order_b0
      rw [pu_moin03, if_neg hx, pu_bd, if_pos rfl]
