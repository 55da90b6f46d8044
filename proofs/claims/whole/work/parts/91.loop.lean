theorem pu_l61 {f w v : Nat} {C : gw_M} (hw : 0 < w) (hw2 : w < 15) : am_carryOut_l61 (f + 1) C 0 (nI w) (nI v) = some (nI w, C) := by
  show am_carryOut_b61 (am_carryOut_l61 f) C 0 (nI w) (nI v) = _
  unfold am_carryOut_b61
  rw [if_neg (show ¬ nI w = (0 : Int32) from nI_ne0 hw (by omega))]
  by_cases h1 : (2000 : Int32) < nI v
  · rw [if_pos h1]
  · rw [if_neg h1]
    by_cases h2 : C.1 0 6 ≤ (0 : Int32)
    · rw [if_pos h2]
    · rw [if_neg h2]
theorem pu_l117 {f w : Nat} {R : gw_M} (hw : 0 < w) (hw2 : w < 15) : mo_carryOut_l117 (f + 1) R 0 (nI w) = some (nI w, R) := by
  show mo_carryOut_b117 (mo_carryOut_l117 f) R 0 (nI w) = _
  unfold mo_carryOut_b117
  rw [if_neg (show ¬ nI w = (0 : Int32) from nI_ne0 hw (by omega))]
  by_cases h2 : R.1 0 17 ≤ (0 : Int32)
  · rw [if_pos h2]
  · rw [if_neg h2]
/-- what carrying out leaves -/
def rc_R (C R C1 R1 : gw_M) (w : Nat) : Prop := w < 15 ∧ (fk_C C C1 0 ∧ fk_R R R1 0) ∧ qm_R C1 R1 ∧ (w = 0 → qa_R C1 R1)
theorem rc_tr {C R C1 R1 C2 R2 : gw_M} {w : Nat} (hC : fk_C C C1 0) (hR : fk_R R R1 0) (h : rc_R C1 R1 C2 R2 w) : rc_R C R C2 R2 w := ⟨h.1, ⟨hC.tr h.2.1.1, hR.tr h.2.1.2⟩, h.2.2.1, h.2.2.2⟩
theorem qx_loop : ∀ (b f1 f2 v d : Nat) (C R : gw_M), rr_R C R d → qp_R C R → qm_L C R b → b + v ≤ 2000 → b + 1 < f1 → b + 1 < f2 → ∃ (w : Nat) (C1 R1 : gw_M), am_carryOut_l61 f1 C 0 0 (nI v) = some (nI w, C1) ∧ mo_carryOut_l117 f2 R 0 0 = some (nI w, R1) ∧ rc_R C R C1 R1 w := by
  intro b
  induction b with
  | zero =>
    intro f1 f2 v d C R h hp hm hv hf1 hf2
    obtain ⟨f1, rfl⟩ : ∃ g, f1 = g + 2 := ⟨f1 - 2, by omega⟩
    obtain ⟨f2, rfl⟩ : ∃ g, f2 = g + 2 := ⟨f2 - 2, by omega⟩
    show ∃ (w : Nat) (C1 R1 : gw_M), am_carryOut_b61 (am_carryOut_l61 (f1 + 1)) C 0 0 (nI v) = some (nI w, C1) ∧ mo_carryOut_b117 (mo_carryOut_l117 (f2 + 1)) R 0 0 = some (nI w, R1) ∧ rc_R C R C1 R1 w
    unfold am_carryOut_b61 mo_carryOut_b117
    rw [if_neg (show ¬ (2000 : Int32) < nI v by rw [pu_lit 2000]; exact nI_nlt (by omega) (by decide)), h.2.1.1, h.2.1.2]
    by_cases h0 : d = 0
    · subst h0
      rw [if_pos (show nI 0 ≤ (0 : Int32) by decide), if_pos (show nI 0 ≤ (0 : Int32) by decide)]
      exact ⟨0, C, R, rfl, rfl, by decide, ⟨fk_C.rf, fk_R.rf⟩, hm.r (by decide), fun _ => h.2.2.1⟩
    · obtain ⟨t, rfl⟩ : ∃ t, d = t + 1 := ⟨d - 1, by omega⟩
      have ht := h.1
      obtain ⟨w, C1, R1, a1, a2, a3, a4⟩ := qx_step h hp (by decide) hm
      have hw : 0 < w := by
        by_cases hw : w = 0
        · exact absurd (a4 hw) (by decide)
        · omega
      rw [if_neg (show ¬ nI (t + 1) ≤ (0 : Int32) by rw [pu_lit 0]; exact nI_ge (by omega) (by omega)), if_neg (show ¬ nI (t + 1) ≤ (0 : Int32) by rw [pu_lit 0]; exact nI_ge (by omega) (by omega)), if_pos rfl, if_pos rfl, nI_pred, pu_gi (show t < 4 by omega) (by decide), nI_clamp (show t < 2 ^ 31 by omega), show 0 + 13 + 35 + 7 * t = 48 + 7 * t by omega, a1, a2, pu_bd, pu_bd, nI_1, pu_l61 hw a3.1, pu_l117 hw a3.1]
      exact ⟨w, C1, R1, rfl, rfl, a3.1, a3.2.1, a3.2.2.1.r (by decide), fun z => absurd z (by omega)⟩
  | succ b ih =>
    intro f1 f2 v d C R h hp hm hv hf1 hf2
    obtain ⟨f1, rfl⟩ : ∃ g, f1 = g + 2 := ⟨f1 - 2, by omega⟩
    obtain ⟨f2, rfl⟩ : ∃ g, f2 = g + 2 := ⟨f2 - 2, by omega⟩
    show ∃ (w : Nat) (C1 R1 : gw_M), am_carryOut_b61 (am_carryOut_l61 (f1 + 1)) C 0 0 (nI v) = some (nI w, C1) ∧ mo_carryOut_b117 (mo_carryOut_l117 (f2 + 1)) R 0 0 = some (nI w, R1) ∧ rc_R C R C1 R1 w
    unfold am_carryOut_b61 mo_carryOut_b117
    rw [if_neg (show ¬ (2000 : Int32) < nI v by rw [pu_lit 2000]; exact nI_nlt (by omega) (by decide)), h.2.1.1, h.2.1.2]
    by_cases h0 : d = 0
    · subst h0
      rw [if_pos (show nI 0 ≤ (0 : Int32) by decide), if_pos (show nI 0 ≤ (0 : Int32) by decide)]
      exact ⟨0, C, R, rfl, rfl, by decide, ⟨fk_C.rf, fk_R.rf⟩, hm.r (by omega), fun _ => h.2.2.1⟩
    · obtain ⟨t, rfl⟩ : ∃ t, d = t + 1 := ⟨d - 1, by omega⟩
      have ht := h.1
      obtain ⟨w, C1, R1, a1, a2, a3, a4⟩ := qx_step h hp (by omega) hm
      rw [Nat.add_sub_cancel] at a3
      rw [if_neg (show ¬ nI (t + 1) ≤ (0 : Int32) by rw [pu_lit 0]; exact nI_ge (by omega) (by omega)), if_neg (show ¬ nI (t + 1) ≤ (0 : Int32) by rw [pu_lit 0]; exact nI_ge (by omega) (by omega)), if_pos rfl, if_pos rfl, nI_pred, pu_gi (show t < 4 by omega) (by decide), nI_clamp (show t < 2 ^ 31 by omega), show 0 + 13 + 35 + 7 * t = 48 + 7 * t by omega, a1, a2, pu_bd, pu_bd, nI_1]
      by_cases hw : w = 0
      · subst hw
        obtain ⟨d', h'⟩ := a3.2.2.2 rfl
        obtain ⟨w, C2, R2, b1, b2, b3⟩ := ih (f1 + 1) (f2 + 1) (v + 1) d' C1 R1 h' (fk_p hp a3.2.1.1 a3.2.1.2) a3.2.2.1 (by omega) (by omega) (by omega)
        exact ⟨w, C2, R2, b1, b2, rc_tr a3.2.1.1 a3.2.1.2 b3⟩
      · rw [pu_l61 (by omega) a3.1, pu_l117 (by omega) a3.1]
        exact ⟨w, C1, R1, rfl, rfl, a3.1, a3.2.1, a3.2.2.1.r (by omega), fun z => absurd z hw⟩
