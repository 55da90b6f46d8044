/-! A program goes on behind an INVOKE. -/
theorem qx_back {t : Nat} {C R : gw_M} (ht : t < 4) (h : ff_R C R t 1) (ha : qa_R C R) : ∃ C1 R1 : gw_M, fr_resume_b0 C (48 + 7 * t) 2 = some ((), C1) ∧ mo_comeBack_b0 R 0 (nI (t + 1)) = some ((), R1) ∧ (fk_C C C1 t ∧ fk_R R R1 t) ∧ (C1.1 = C.1 ∧ ∀ a, a ≠ 17 → R1.1 a = R.1 a) ∧ ((∀ a, a < 48 → C1.2 a = C.2 a) ∧ ∀ a, a ≠ 18 → a ≠ 22 → R1.2 a = R.2 a) ∧ ff_R C1 R1 t 0 := by
  obtain ⟨p, n, c, x, k, av, mv, ⟨hP, hQ, ⟨hB, hC, hR, hM, hN, hK⟩, hG⟩, hX, _⟩ := h
  have hk := hB.1
  obtain ⟨C1, R1, e1, e2, f1, f2, m1, v1, _⟩ := qx_see ht hB k 0 2100 2100 C R (Nat.zero_add _) (by omega) (by omega) hC hR ha hM hN
  have hx := hX.1
  have hn := hP.1.2
  refine ⟨gw_sL C1 (52 + 7 * t) 0 0, gw_sI (gw_sL R1 18 (10 * (t + 1)) 0) 17 (t + 1) (nI (x + 1)), ?_, ?_, ⟨f1.k.tr (fk_C.l (by omega)), (f2.k.tr (fk_R.l (by omega))).tr (fk_R.i (by omega))⟩, ⟨f1.1, fun a h1 => ?_⟩, ⟨fun a h1 => ?_, fun a h1 h2 => ?_⟩, ?_⟩
  · unfold fr_resume_b0 fr_seeAccounts_b0
    rw [show (0 : Int32) = nI 0 from rfl, e1, pu_bd, pu_lt, show 48 + 7 * t + 4 = 52 + 7 * t by omega]
  · unfold mo_comeBack_b0 mo_layOut_b0
    rw [pu_lt, show (3 : Int32) + nI (t + 1) = nI (3 + (t + 1)) by rw [pu_lit 3, nI_add], show (0 : Int32) = nI 0 from rfl, e2, pu_bd, show (10 : Int32) * nI (t + 1) = nI (10 * (t + 1)) by rw [pu_lit 10, pk_mul], pu_gi (show 10 * (t + 1) < 50 by omega) (by decide), pu_lt, pu_gi (show t + 1 < 5 by omega) (by decide), pu_gi (show t + 1 < 5 by omega) (by decide), pu_lt, nI_clamp (show t + 1 < 2 ^ 31 by omega), nI_clamp (show 10 * (t + 1) < 2 ^ 31 by omega), Nat.zero_add, Nat.zero_add, pu_sL1, f2.1, hX.2.2, nI_1]
  · rw [gw_sI_1 a h1, pu_sL1, f2.1]
  · rw [pu_q1 (by omega), f1.2.1 a (by omega)]
  · rw [pu_sI2, pu_q1 h1, f2.2.1 a h2]
  · refine ⟨p, n, c, x + 1, k, av, mv, ⟨?_, ?_, ⟨hB, ?_, ?_, fun y hy => ?_, fun i hi => ?_, fun i hi => ?_⟩, ⟨fun r hr => ?_, fun y hy => ?_⟩⟩, ⟨hx, ?_, pu_r2 rfl rfl⟩, fun _ => ?_⟩
    · unfold ff_P
      rw [gw_sI_1 12 (by decide), pu_sL1, pu_sL1, f1.1, f2.1]
      exact hP
    · unfold ff_Q
      rw [gw_sI_1 20 (by decide), gw_sI_1 19 (by decide), pu_sL1, pu_sL1, f1.1, f2.1]
      exact hQ
    · exact qs_Cc hC (by rw [pu_sL1, f1.1]) (by rw [pu_sL1, f1.1]) (by rw [pu_sL1, f1.1])
    · exact qs_Rc hR (by rw [gw_sI_1 14 (by decide), pu_sL1, f2.1]) (by rw [gw_sI_1 15 (by decide), pu_sL1, f2.1]) (by rw [gw_sI_1 16 (by decide), pu_sL1, f2.1])
    · rw [pu_sI2, pu_q1 (by omega), pu_q1 (by decide)]
      exact m1 y hy
    · rw [pu_q1 (by omega), show C1.2 (53 + 7 * t) (16 + 10 * i) = C.2 (53 + 7 * t) (16 + 10 * i) from f1.2.2.2 i 0 (by decide)]
      exact hN i hi
    · rw [pu_q1 (by omega), f1.2.2.2 i 1 (by decide)]
      exact hK i hi
    · rw [pu_sI2]
      by_cases h0 : r = 0
      · subst h0
        rw [pu_q2 rfl rfl]
        exact (pu_q2 rfl rfl).symm
      · rw [pu_q3 h0, pu_q3 (by omega), f1.2.1 _ (by omega), f2.2.1 18 (by decide)]
        exact hG.1 r hr
    · rw [pu_sI2, pu_q1 (by omega), pu_q1 (by decide), f1.2.2.1 y hy, f2.2.1 21 (by decide)]
      exact hG.2 y hy
    · rw [pu_sL1, f1.1]
      exact hX.2.1
    · intro i h1 h2
      rw [pu_sL1, pu_q1 (by omega)]
      exact qf_Zof hB ha (by rw [f1.1]) (fun j hj hm y h3 h4 => v1 j (Nat.zero_le j) hj hm y h3 h4) i h1 h2
