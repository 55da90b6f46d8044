/-! Handing back: the loops. -/
/-- a main slot's words are fit to be written -/
def qh_W (C : gw_M) (t i : Nat) : Prop := (∃ o1 : Nat, o1 < 4 ∧ C.2 (53 + 7 * t) (16 + 10 * i + 2) = lN o1) ∧ ∃ b1 : Nat, b1 ≤ 1000000 ∧ C.2 (53 + 7 * t) (16 + 10 * i + 3) = lN b1
theorem qx_handW {t k : Nat} {av mv : Nat → Nat} (ht : t < 4) (hB : qs_B k av mv) : ∀ (d i f1 f2 : Nat) (C R : gw_M), i + d = k → d < f1 → d < f2 → qs_C C (49 + 7 * t) k av mv → qs_R R (4 + t) k av mv → qa_R C R → qf_M C R t → qf_N C t k av → qf_Z C t k av → (∀ j, i ≤ j → j < k → (¬ ∃ m, m < j ∧ av m = av j) → qh_W C t j) → ∃ C1 R1 : gw_M, fr_handBack_l96 f1 C (48 + 7 * t) 2 (nI i) = some (0, C1) ∧ mo_handBack_l124 f2 R 0 (nI (t + 1)) (nI (3 + (t + 1))) (nI i) = some (0, R1) ∧ fa_C C C1 ∧ fa_R R R1 ∧ C1.1 0 = C.1 0 ∧ R1.1 0 = R.1 0 ∧ C1.1 5 = C.1 5 ∧ qa_R C1 R1 := by
  intro d
  induction d with
  | zero =>
    intro i f1 f2 C R hi hf1 hf2 hC hR ha hM hN hZ hW
    obtain ⟨f1, rfl⟩ : ∃ n, f1 = n + 1 := ⟨f1 - 1, by omega⟩
    obtain ⟨f2, rfl⟩ : ∃ n, f2 = n + 1 := ⟨f2 - 1, by omega⟩
    have hk := hB.1
    have hik : i = k := by omega
    subst hik
    refine ⟨C, R, ?_, ?_, fa_C.rf, fa_R.rf, rfl, rfl, rfl, ha⟩
    · show fr_handBack_b96 (fr_handBack_l96 f1) C (48 + 7 * t) 2 (nI i) = _
      unfold fr_handBack_b96
      rw [show 48 + 7 * t + 1 = 49 + 7 * t by omega, hC.1, if_pos (nI_le (Nat.le_refl _) (by omega))]
    · show mo_handBack_b124 (mo_handBack_l124 f2) R 0 (nI (t + 1)) (nI (3 + (t + 1))) (nI i) = _
      unfold mo_handBack_b124
      rw [pu_gi (show 3 + (t + 1) < 9 by omega) (by decide), nI_clamp (show 3 + (t + 1) < 2 ^ 31 by omega), Nat.zero_add, show 3 + (t + 1) = 4 + t by omega, hR.1, if_pos (nI_le (Nat.le_refl _) (by omega))]
  | succ d ih =>
    intro i f1 f2 C R hi hf1 hf2 hC hR ha hM hN hZ hW
    obtain ⟨f1, rfl⟩ : ∃ n, f1 = n + 1 := ⟨f1 - 1, by omega⟩
    obtain ⟨f2, rfl⟩ : ∃ n, f2 = n + 1 := ⟨f2 - 1, by omega⟩
    have hk := hB.1
    obtain ⟨a0, m0⟩ := hB.2 i (by omega)
    obtain ⟨m, hm, hMm⟩ := qs_Mex av i
    have hmain : (∃ m2, m2 < i ∧ av m2 = av i) ↔ m ≠ i := by
      constructor
      · intro ⟨m2, h1, h2⟩ q
        exact hMm.2 m2 (by omega) h2
      · intro q
        exact ⟨m, by omega, hMm.1⟩
    obtain ⟨dw, hdw⟩ : ∃ dw : Nat → Int32, dw = fun w => (C.2 (53 + 7 * t) (16 + 10 * i + 5 + w)).toInt32 := ⟨_, rfl⟩
    have hdC : ∀ w, w < 4 → (C.2 (53 + 7 * t) (16 + 10 * i + 5 + w)).toInt32 = dw w := fun w _ => by rw [hdw]
    have mw : ∀ y, y < 10 → C.2 (53 + 7 * t) (16 + 10 * i + y) = R.2 22 (40 * (t + 1) + 10 * i + y) := fun y hy => by
      have := hM (10 * i + y) (by omega)
      rw [show 16 + (10 * i + y) = 16 + 10 * i + y by omega, show 40 * (t + 1) + (10 * i + y) = 40 * (t + 1) + 10 * i + y by omega] at this
      exact this
    have hdR : ∀ w, w < 4 → (R.2 22 (40 * (t + 1) + 10 * i + 5 + w)).toInt32 = dw w := fun w hw => by
      have := mw (5 + w) (by omega)
      rw [show 16 + 10 * i + (5 + w) = 16 + 10 * i + 5 + w by omega, show 40 * (t + 1) + 10 * i + (5 + w) = 40 * (t + 1) + 10 * i + 5 + w by omega] at this
      rw [← this]
      exact hdC w hw
    have e2 := pu_writeR (R := R) (u := t + 1) (mv := mv) (by omega) hB (by rw [show 3 + (t + 1) = 4 + t by omega]; exact hR) (show i < k by omega) hm hMm (mw 2 (by decide)).symm (mw 3 (by decide)).symm hdR (mo_handBack_l124 f2)
    have u2 : mo_handBack_l124 (f2 + 1) R 0 (nI (t + 1)) (nI (3 + (t + 1))) (nI i) = mo_handBack_b124 (mo_handBack_l124 f2) R 0 (nI (t + 1)) (nI (3 + (t + 1))) (nI i) := rfl
    have u1 : fr_handBack_l96 (f1 + 1) C (48 + 7 * t) 2 (nI i) = fr_handBack_b96 (fr_handBack_l96 f1) C (48 + 7 * t) 2 (nI i) := rfl
    have e1 : fr_handBack_b96 (fr_handBack_l96 f1) C (48 + 7 * t) 2 (nI i) = if C.2 (53 + 7 * t) (16 + 10 * i) < 0 then fr_handBack_l96 f1 C (48 + 7 * t) 2 (nI (i + 1)) else fr_handBack_l96 f1 (pm_wa C (av i) (C.2 (53 + 7 * t) (16 + 10 * i + 2)).toInt32 (C.2 (53 + 7 * t) (16 + 10 * i + 3)).toInt32 dw) (48 + 7 * t) 2 (nI (i + 1)) := by
      unfold fr_handBack_b96 fr_handBack_b127
      rw [show 48 + 7 * t + 1 = 49 + 7 * t by omega, hC.1, if_neg (nI_ge (by omega) (by omega)), pu_baseOf C (by omega), pu_bd, pu_isMain (by omega), pu_bd, show 48 + 7 * t + 5 = 53 + 7 * t by omega, nI_1]
      by_cases hs : C.2 (53 + 7 * t) (16 + 10 * i) < 0
      · rw [if_pos hs, if_pos rfl, if_pos hs]
      · rw [if_neg hs, if_neg pu_10, if_neg hs, pu_writeA (mv := mv) hB (by rw [show 48 + 7 * t + 1 = 49 + 7 * t by omega]; exact hC) (show i < k by omega) (by rw [show 48 + 7 * t + 5 = 53 + 7 * t by omega]) (by rw [show 48 + 7 * t + 5 = 53 + 7 * t by omega]) (by rw [show 48 + 7 * t + 5 = 53 + 7 * t by omega]; exact hdC), pu_bd]
    rw [u1, u2, e1, e2]
    by_cases hs : C.2 (53 + 7 * t) (16 + 10 * i) < 0
    · have hne : ¬ m = i := hmain.mp ((hN i (by omega)).mp hs)
      rw [if_pos hs, if_neg hne]
      obtain ⟨C1, R1, r⟩ := ih (i + 1) f1 f2 C R (by omega) (by omega) (by omega) hC hR ha hM hN hZ (fun j h1 h2 => hW j (by omega) h2)
      exact ⟨C1, R1, r⟩
    · have hnm : ¬ ∃ m2, m2 < i ∧ av m2 = av i := fun q => hs ((hN i (by omega)).mpr q)
      have hmi : m = i := Classical.not_not.mp (fun q => hnm (hmain.mpr q))
      rw [if_neg hs, if_pos hmi]
      obtain ⟨⟨o1, ho1, eo⟩, b1, hb1, eb⟩ := hW i (Nat.le_refl _) (by omega) hnm
      obtain ⟨z, hz4, hz5, hz6, hz7⟩ := hZ i (by omega) hnm
      have ha1 : qa_R (pm_wa C (av i) (C.2 (53 + 7 * t) (16 + 10 * i + 2)).toInt32 (C.2 (53 + 7 * t) (16 + 10 * i + 3)).toInt32 dw) (pm_wr R (av i) (C.2 (53 + 7 * t) (16 + 10 * i + 2)).toInt32 (C.2 (53 + 7 * t) (16 + 10 * i + 3)).toInt32 dw) := qa_wa ha a0 ho1 eo hb1 eb ⟨z, hz4, hz5, fun w hw hzw => by
        rw [hdw]
        show (C.2 (53 + 7 * t) (16 + 10 * i + 5 + w)).toInt32 = 0
        rw [hz7 w hw hzw]
        rfl⟩
      have fc : fa_C C (pm_wa C (av i) (C.2 (53 + 7 * t) (16 + 10 * i + 2)).toInt32 (C.2 (53 + 7 * t) (16 + 10 * i + 3)).toInt32 dw) := fa_wa
      have fr : fa_R R (pm_wr R (av i) (C.2 (53 + 7 * t) (16 + 10 * i + 2)).toInt32 (C.2 (53 + 7 * t) (16 + 10 * i + 3)).toInt32 dw) := fa_wr a0
      have s5 : (pm_wa C (av i) (C.2 (53 + 7 * t) (16 + 10 * i + 2)).toInt32 (C.2 (53 + 7 * t) (16 + 10 * i + 3)).toInt32 dw).1 5 = C.1 5 := by
        unfold pm_wa
        simp (disch := omega) only [gw_sI_1]
      have s0 : (pm_wa C (av i) (C.2 (53 + 7 * t) (16 + 10 * i + 2)).toInt32 (C.2 (53 + 7 * t) (16 + 10 * i + 3)).toInt32 dw).1 0 = C.1 0 := by
        unfold pm_wa
        simp (disch := omega) only [gw_sI_1]
      have z0 : (pm_wr R (av i) (C.2 (53 + 7 * t) (16 + 10 * i + 2)).toInt32 (C.2 (53 + 7 * t) (16 + 10 * i + 3)).toInt32 dw).1 0 = R.1 0 := by
        unfold pm_wr
        simp (disch := omega) only [gw_sI_1]
      generalize pm_wa C (av i) (C.2 (53 + 7 * t) (16 + 10 * i + 2)).toInt32 (C.2 (53 + 7 * t) (16 + 10 * i + 3)).toInt32 dw = C2 at *
      generalize pm_wr R (av i) (C.2 (53 + 7 * t) (16 + 10 * i + 2)).toInt32 (C.2 (53 + 7 * t) (16 + 10 * i + 3)).toInt32 dw = R2 at *
      obtain ⟨C1, R1, r1, r2, r3, r4, r5, r6, r7, r8⟩ := ih (i + 1) f1 f2 C2 R2 (by omega) (by omega) (by omega) (qs_Cc hC (fc.1 _ (by omega) (by omega) (by omega) (by omega) (by omega)) (fc.1 _ (by omega) (by omega) (by omega) (by omega) (by omega)) (fc.1 _ (by omega) (by omega) (by omega) (by omega) (by omega))) (qs_Rc hR (fr.1 14 (by decide)) (fr.1 15 (by decide)) (fr.1 16 (by decide))) ha1 (by unfold qf_M; rw [fc.2.2, fr.2.2.2.2]; exact hM) (by unfold qf_N; rw [fc.2.2]; exact hN) (by unfold qf_Z; rw [fc.2.2, s5]; exact hZ) (fun j h1 h2 h3 => by unfold qh_W; rw [fc.2.2]; exact hW j (by omega) h2 h3)
      exact ⟨C1, R1, r1, r2, fc.tr r3, fr.tr r4, r5.trans s0, r6.trans z0, r7.trans s5, r8⟩
