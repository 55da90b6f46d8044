theorem qx_invoke {C R : gw_M} {t p n c k x b : Nat} {av mv : Nat → Nat} (h : re_R C R t p n c k x av mv) (hx : x + 1 < n) (hp : qp_R C R) (hb : b ≤ 2000) (hm : qm_L C R b) : ∃ (w : Nat) (C1 R1 : gw_M), am_invoke_b0 C 0 (48 + 7 * t) = some (nI w, C1) ∧ mo_invoke_b0 R 0 (nI (t + 1)) = some (nI w, R1) ∧ rs_R C R C1 R1 w b := by
  have h' := h
  obtain ⟨ht, hB, hZ, ⟨h5, h17⟩, ⟨h6, h06⟩, hs, ha⟩ := h'
  obtain ⟨hP, hQ, ⟨qB, qC, qR, hM, hN, hK⟩, hG⟩ := hB
  have hV := hG.1 1 (by decide)
  have one : rs_R C R C R 1 b := ⟨by decide, ⟨fk_C.rf, fk_R.rf⟩, hm, fun z => absurd z (by decide)⟩
  unfold am_invoke_b0 mo_invoke_b0
  rw [show 48 + 7 * t + 4 = 52 + 7 * t by omega, show (10 : Int32) * nI (t + 1) + (1 : Int32) = nI (10 * (t + 1) + 1) by rw [pu_lit 10, pk_mul, pu_lit 1, nI_add], pu_gi (show 10 * (t + 1) + 1 < 50 by omega) (by decide), nI_clamp (show 10 * (t + 1) + 1 < 2 ^ 31 by omega), Nat.zero_add, ← hV, pu_lt, pu_lt]
  by_cases hin : 0 ≤ (C.2 (52 + 7 * t) 1).toInt ∧ (C.2 (52 + 7 * t) 1).toInt < 4
  · obtain ⟨q, hq, eq⟩ := pu_ofL (n := 4) (by decide) hin.1 hin.2
    rw [if_neg (fun z => by have := pu_lLt.mp (pu_cl.mp z); rw [pu_L0] at this; omega), if_neg (fun z => by have := pu_lLe.mp (pu_cge.mp z); rw [pu_L4] at this; omega)]
    obtain ⟨bb, hbb, e1, e2, hcan⟩ := qx_can hq hp
    rw [eq, lN_i, e1, e2, pu_bd, pu_bd]
    rcases hbb with rfl | rfl
    · rw [if_pos (show nI 0 = (0 : Int32) from rfl), if_pos (show nI 0 = (0 : Int32) from rfl)]
      exact ⟨1, C, R, rfl, rfl, one⟩
    · rw [if_neg (show ¬ nI 1 = (0 : Int32) by decide), if_neg (show ¬ nI 1 = (0 : Int32) by decide)]
      obtain ⟨pv, hW⟩ := re_pv h
      have e4 : (if nI (t + 1) = (4 : Int32) then mo_invoke_b32 R 0 (nI (t + 1)) (lN q) 1 else mo_invoke_b32 R 0 (nI (t + 1)) (lN q) 0) = mo_invoke_b32 R 0 (nI (t + 1)) (lN q) (pm_b (decide (t = 3))) := by
        by_cases ht3 : t = 3
        · subst ht3
          rfl
        · rw [decide_eq_false ht3, if_neg (show ¬ nI (t + 1) = (4 : Int32) by rw [pu_lit 4, nI_eq (by omega) (by decide)]; omega)]
          rfl
      rw [e4]
      rcases qx_asked ht hP.1.1 hq qB qC qR hG hP.2.1.1 hP.2.1.2 hW h6 with ⟨w, R2, hw0, hw, g1, g2, g3⟩ | ⟨h3, g1, cnt, R2, g2, g3, g4, g5, g6⟩
      · rw [g1, g2, pu_bd, if_neg (show ¬ nI w = (0 : Int32) from nI_ne0 hw0 (by omega))]
        unfold am_invoke_b56
        rw [if_neg (show ¬ nI w = (0 : Int32) from nI_ne0 hw0 (by omega))]
        exact ⟨w, C, R2, rfl, rfl, rs_sk h hm sk_C.rf g3 hw (fun z => absurd z (by omega))⟩
      · rw [g1, pu_bd, if_pos (show nI 0 = (0 : Int32) from rfl), g6]
        obtain ⟨w, C1, R1, k1, k2, k3⟩ := qx_go h hx hb hm h3 hq eq (hcan rfl) g2 g3 g4 g5
        exact ⟨w, C1, R1, k1, k2, k3⟩
  · have eC : (if lg_cmp (C.2 (52 + 7 * t) 1) 0 < 0 then some ((1 : Int32), C) else if 0 ≤ lg_cmp (C.2 (52 + 7 * t) 1) 4 then some ((1 : Int32), C) else gw_bd (am_canRun_b0 C 0 (C.2 (52 + 7 * t) 1).toInt32) (fun r24 M24 => if r24 = (0 : Int32) then (some ((1 : Int32), M24)) else (gw_bd (am_refusal_b0 M24 0 (48 + 7 * t) (C.2 (52 + 7 * t) 1).toInt32) (fun r36 M36 => if r36 = (0 : Int32) then (gw_bd (fr_handBack_b0 M36 (48 + 7 * t) (0 + 2)) (fun r51 M51 => am_invoke_b56 M51 0 (48 + 7 * t) (C.2 (52 + 7 * t) 1) r51)) else (am_invoke_b56 M36 0 (48 + 7 * t) (C.2 (52 + 7 * t) 1) r36))))) = some (1, C) := by
      by_cases c1 : (C.2 (52 + 7 * t) 1).toInt < 0
      · rw [if_pos (pu_cl.mpr (pu_lLt.mpr (by rw [pu_L0]; exact c1)))]
      · rw [if_neg (fun z => by have := pu_lLt.mp (pu_cl.mp z); rw [pu_L0] at this; omega), if_pos (pu_cge.mpr (pu_lLe.mpr (by rw [pu_L4]; omega)))]
    rw [eC]
    have eR : mo_canRun_b0 R 0 (C.2 (52 + 7 * t) 1) = some (0, R) := by
      unfold mo_canRun_b0
      rw [if_neg (fun z => by have := pu_lEq.mp (pu_c0.mp z); rw [pu_L0] at this; omega), pu_moin, pu_L1, pu_L3, pu_bd, if_neg (show ¬ ((1 : Int) ≤ (C.2 (52 + 7 * t) 1).toInt ∧ (C.2 (52 + 7 * t) 1).toInt ≤ 3) by omega), if_pos rfl]
    rw [eR, pu_bd, if_pos rfl]
    exact ⟨1, C, R, rfl, rfl, one⟩
/-- the state within a step, where nothing of it was touched -/
theorem re_cg {C R C1 R1 : gw_M} {t p n c k x : Nat} {av mv : Nat → Nat} (h : re_R C R t p n c k x av mv) (hC : fk_C C C1 (t + 1)) (hR : fk_R R R1 (t + 1)) (h6 : C1.1 0 6 = C.1 0 6) (h17 : R1.1 0 17 = R.1 0 17) (h5 : C1.1 5 = C.1 5) (ha : qa_R C1 R1) : re_R C1 R1 t p n c k x av mv := by
  obtain ⟨ht, hB, hZ, ⟨e5, e17⟩, ⟨e6, e06⟩, hs, -⟩ := h
  refine ⟨ht, fo_B hB (hC.o (Nat.lt_succ_self _)) (hR.o (Nat.lt_succ_self _)), fo_Z hZ (hC.o (Nat.lt_succ_self _)) h5, ⟨?_, ?_⟩, ⟨h6.trans e6, h17.trans e06⟩, fun s h1 => ff_w (hs s h1) hC hR (by omega), ha⟩
  · rw [(hC.1 _ (by omega) (by omega)).1]; exact e5
  · rw [hR.2.2.2.2.2.1 17 _ (Or.inl rfl) (by omega)]; exact e17
theorem re_pay {C R : gw_M} {t p n c k x : Nat} {av mv : Nat → Nat} {y : Int32} (h : re_R C R t p n c k x av mv) : re_R (gw_sI C 0 7 y) (gw_sI R 0 24 y) t p n c k x av mv := re_cg h (fk_C.i (Or.inl ⟨rfl, by decide⟩)) (fk_R.i (Or.inl ⟨rfl, by decide⟩)) (pu_r3 (by decide)) (pu_r3 (by decide)) (gw_sI_1 _ (by decide)) (qa_cong h.2.2.2.2.2.2 (gw_sI_1 _ (by decide)) (gw_sI_1 _ (by decide)) (gw_sI_1 _ (by decide)) (gw_sI_1 _ (by decide)) (gw_sI_1 _ (by decide)) (gw_sI_1 _ (by decide)) (gw_sI_1 _ (by decide)) (gw_sI_1 _ (by decide)))
theorem qm_pay {C R : gw_M} {b m : Nat} (h : qm_L C R b) : qm_L (gw_sI C 0 7 (nI m)) (gw_sI R 0 24 (nI m)) m := by
  obtain ⟨-, h2, l, h3, h4, h5, h6⟩ := h
  exact ⟨⟨m, Nat.le_refl _, pu_r2 rfl rfl, pu_r2 rfl rfl⟩, h2, l, h3, by rw [pu_r3 (by decide)]; exact h4, by rw [pu_r3 (by decide)]; exact h5, h6⟩
theorem rs_tr {C R C1 R1 C2 R2 : gw_M} {w b b1 : Nat} (hC : fk_C C C1 0) (hR : fk_R R R1 0) (h : rs_R C1 R1 C2 R2 w b) (hb : b ≤ b1) : rs_R C R C2 R2 w b1 := ⟨h.1, ⟨hC.tr h.2.1.1, hR.tr h.2.1.2⟩, h.2.2.1.mo hb, h.2.2.2⟩
