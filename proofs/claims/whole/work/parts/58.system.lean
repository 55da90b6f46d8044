/-! Units, and what the system does. -/
/-- the meter -/
def qt_R (C R : gw_M) (b : Nat) : Prop := ∃ m : Nat, m ≤ b ∧ C.1 0 7 = nI m ∧ R.1 0 24 = nI m
/-- nothing but accounts and meter has changed -/
def fa_C (C C1 : gw_M) : Prop := (∀ k, k ≠ 0 → k ≠ 3 → k ≠ 4 → k ≠ 5 → k ≠ 6 → C1.1 k = C.1 k) ∧ (∀ j, j ≠ 7 → C1.1 0 j = C.1 0 j) ∧ C1.2 = C.2
def fa_R (R R1 : gw_M) : Prop := (∀ k, 5 ≤ k → R1.1 k = R.1 k) ∧ (∀ j, j ≠ 24 → R1.1 0 j = R.1 0 j) ∧ (∀ k i, 1 ≤ k → k < 4 → 8 ≤ i → R1.1 k i = R.1 k i) ∧ (∀ i, 32 ≤ i → R1.1 4 i = R.1 4 i) ∧ R1.2 = R.2
theorem fa_C.rf {C : gw_M} : fa_C C C := ⟨fun _ _ _ _ _ _ => rfl, fun _ _ => rfl, rfl⟩
theorem fa_R.rf {R : gw_M} : fa_R R R := ⟨fun _ _ => rfl, fun _ _ => rfl, fun _ _ _ _ _ => rfl, fun _ _ => rfl, rfl⟩
theorem fa_C.tr {A B C : gw_M} (h : fa_C A B) (g : fa_C B C) : fa_C A C := ⟨fun k a b c d e => (g.1 k a b c d e).trans (h.1 k a b c d e), fun j hj => (g.2.1 j hj).trans (h.2.1 j hj), g.2.2.trans h.2.2⟩
theorem fa_R.tr {A B C : gw_M} (h : fa_R A B) (g : fa_R B C) : fa_R A C := ⟨fun k a => (g.1 k a).trans (h.1 k a), fun j hj => (g.2.1 j hj).trans (h.2.1 j hj), fun k i a b c => (g.2.2.1 k i a b c).trans (h.2.2.1 k i a b c), fun i a => (g.2.2.2.1 i a).trans (h.2.2.2.1 i a), g.2.2.2.2.trans h.2.2.2.2⟩
theorem fa_C.s {C : gw_M} {k j : Nat} {x : Int32} (h : (k = 0 ∧ j = 7) ∨ k = 3 ∨ k = 4 ∨ k = 5 ∨ k = 6) : fa_C C (gw_sI C k j x) := by
  refine ⟨fun i a b c d e => gw_sI_1 i (by omega), fun i hi => ?_, rfl⟩
  rcases h with ⟨rfl, rfl⟩ | h
  · exact pu_r3 hi
  · rw [gw_sI_1 0 (by omega)]
theorem fa_R.s {R : gw_M} {k j : Nat} {x : Int32} (h : (k = 0 ∧ j = 24) ∨ (1 ≤ k ∧ k < 4 ∧ j < 8) ∨ (k = 4 ∧ j < 32)) : fa_R R (gw_sI R k j x) := by
  refine ⟨fun i a => gw_sI_1 i (by omega), fun i hi => ?_, fun i b a1 a2 a3 => ?_, fun b hb => ?_, rfl⟩
  · rcases h with ⟨rfl, rfl⟩ | h
    · exact pu_r3 hi
    · rw [gw_sI_1 0 (by omega)]
  · by_cases hb : b = j
    · rw [gw_sI_1 i (by omega)]
    · exact pu_r3 hb
  · by_cases hb2 : b = j
    · rw [gw_sI_1 4 (by omega)]
    · exact pu_r3 hb2
theorem pu_take {C : gw_M} {m u : Nat} (hm : m ≤ 2000) (hu : u < 100) (h : C.1 0 7 = nI m) : am_takeUnits_b0 C 0 (nI u) = some (if u ≤ m then 1 else 0, gw_sI C 0 7 (nI (m - u))) := by
  unfold am_takeUnits_b0 am_takeUnits_b13 am_takeUnits_b29
  rw [h]
  by_cases hl : u ≤ m
  · rw [if_neg (nI_nlt hl (by omega)), if_neg pu_10, pu_lt, pk_sub hl, if_pos hl]
    rfl
  · rw [if_pos (nI_lt (by omega) (by omega)), if_pos rfl, pu_lt, if_neg hl, show m - u = 0 by omega]
    rfl
theorem pu_pay {R : gw_M} {m u : Nat} (hm : m ≤ 2000) (hu : u < 100) (h : R.1 0 24 = nI m) : mo_pay_b0 R 0 (nI u) = some (if u ≤ m then 1 else 0, gw_sI R 0 24 (nI (m - u))) := by
  unfold mo_pay_b0 mo_pay_b13 mo_pay_b29
  rw [h]
  by_cases hl : u ≤ m
  · rw [if_neg (nI_nlt hl (by omega)), if_neg pu_10, pu_lt, pk_sub hl, if_pos hl]
    rfl
  · rw [if_pos (nI_lt (by omega) (by omega)), if_pos rfl, pu_lt, if_neg hl, show m - u = 0 by omega]
    rfl
theorem qs_Cc {C C1 : gw_M} {co k : Nat} {av mv : Nat → Nat} (h : qs_C C co k av mv) (h0 : C1.1 co = C.1 co) (h1 : C1.1 (co + 1) = C.1 (co + 1)) (h2 : C1.1 (co + 2) = C.1 (co + 2)) : qs_C C1 co k av mv := by
  unfold qs_C
  rw [h0, h1, h2]
  exact h
theorem qs_Rc {R R1 : gw_M} {q k : Nat} {av mv : Nat → Nat} (h : qs_R R q k av mv) (h0 : R1.1 14 = R.1 14) (h1 : R1.1 15 = R.1 15) (h2 : R1.1 16 = R.1 16) : qs_R R1 q k av mv := by
  unfold qs_R
  rw [h0, h1, h2]
  exact h
theorem pu_k3 : ∀ m, m < 4 → (nI m = (3 : Int32) ↔ m % 2 = 1 ∧ 2 ≤ m) := by decide
theorem pu_k2 : ∀ m, m < 4 → (nI m &&& (2 : Int32) = 0 ↔ ¬ 2 ≤ m) := by decide
/-- an account is written: owner, balance or size, the rest stays -/
theorem qa_put {C R C1 R1 : gw_M} (h : qa_R C R) {a : Nat} (ho : ∀ i, i ≠ a → C1.1 3 i = C.1 3 i ∧ C1.1 4 i = C.1 4 i ∧ C1.1 5 i = C.1 5 i) (hw : ∀ i w, i ≠ a → w < 4 → C1.1 6 (4 * i + w) = C.1 6 (4 * i + w)) (go : ∀ i, i < 8 → i ≠ a → R1.1 1 i = R.1 1 i ∧ R1.1 2 i = R.1 2 i ∧ R1.1 3 i = R.1 3 i) (gw : ∀ i w, i < 8 → i ≠ a → w < 4 → R1.1 4 (4 * i + w) = R.1 4 (4 * i + w)) (hx : ∃ b o z : Nat, (b ≤ 1000000 ∧ o < 4 ∧ z ≤ 4) ∧ (C1.1 3 a = nI b ∧ R1.1 1 a = nI b) ∧ (C1.1 4 a = nI o ∧ R1.1 2 a = nI o) ∧ (C1.1 5 a = nI z ∧ R1.1 3 a = nI z) ∧ ∀ w, w < 4 → C1.1 6 (4 * a + w) = R1.1 4 (4 * a + w) ∧ (z ≤ w → C1.1 6 (4 * a + w) = 0)) : qa_R C1 R1 := by
  intro i hi
  by_cases hia : i = a
  · rw [hia]; exact hx
  · obtain ⟨b, o, z, h1, h2, h3, h4, h5⟩ := h i hi
    obtain ⟨c1, c2, c3⟩ := ho i hia
    obtain ⟨d1, d2, d3⟩ := go i hi hia
    refine ⟨b, o, z, h1, by rw [c1, d1]; exact h2, by rw [c2, d2]; exact h3, by rw [c3, d3]; exact h4, fun w hw1 => ?_⟩
    rw [hw i w hia hw1, gw i w hi hia hw1]
    exact h5 w hw1
theorem pu_isBlank {C : gw_M} {a o z : Nat} (ha : a < 8) (ho : o < 4) (hz : z ≤ 4) (h1 : C.1 4 a = nI o) (h2 : C.1 5 a = nI z) : le_isBlank_b0 C 2 (nI a) = some (if o = 0 ∧ z = 0 then 1 else 0, C) := by
  unfold le_isBlank_b0
  simp only [pu_gi (show a < 8 from ha) (by decide), nI_clamp (show a < 2 ^ 31 by omega), Nat.zero_add]
  rw [show C.1 (2 + 2) a = nI o from h1, show C.1 (2 + 3) a = nI z from h2]
  by_cases q1 : o = 0
  · rw [if_pos (by rw [q1]; rfl)]
    by_cases q2 : z = 0
    · rw [if_pos (by rw [q2]; rfl), if_pos ⟨q1, q2⟩]
    · rw [if_neg (nI_ne0 (by omega) (by omega)), if_neg (fun q => q2 q.2)]
  · rw [if_neg (nI_ne0 (by omega) (by omega)), if_neg (fun q => q1 q.1)]
/-- TRANSFER -/
theorem qx_transfer {C R : gw_M} {co q k : Nat} {av mv : Nat → Nat} {v : Int32} (hq : q < 9) (hco : 39 ≤ co) (hB : qs_B k av mv) (hC : qs_C C co k av mv) (hR : qs_R R q k av mv) (ha : qa_R C R) (x y : Int32) (hx : 1 ≤ k → x = nI (av 0)) (hy : 2 ≤ k → y = nI (av 1)) : ∃ (w : Nat) (C1 R1 : gw_M), w < 15 ∧ am_transfer_b0 C 0 co v = some (nI w, C1) ∧ mo_transfer_b0 R 0 (nI q) x y v = some (nI w, R1) ∧ fa_C C C1 ∧ fa_R R R1 ∧ C1.1 0 = C.1 0 ∧ R1.1 0 = R.1 0 ∧ qa_R C1 R1 := by
  have hk := hB.1
  unfold am_transfer_b0 mo_transfer_b0
  simp only [Nat.zero_add, Nat.reduceAdd]
  rw [hC.1, pu_gi hq (by decide), nI_clamp (show q < 2 ^ 31 by omega), hR.1]
  by_cases k2 : k < 2
  · rw [if_pos (show nI k < 2 from nI_lt k2 (by decide)), if_pos (show nI k < 2 from nI_lt k2 (by decide))]
    exact ⟨13, C, R, by decide, rfl, rfl, fa_C.rf, fa_R.rf, rfl, rfl, ha⟩
  rw [if_neg (show ¬ nI k < 2 from nI_nlt (b := 2) (by omega) (by omega)), if_neg (show ¬ nI k < 2 from nI_nlt (b := 2) (by omega) (by omega))]
  by_cases v0 : v < 0
  · rw [if_pos v0, if_pos v0]
    exact ⟨13, C, R, by decide, rfl, rfl, fa_C.rf, fa_R.rf, rfl, rfl, ha⟩
  rw [if_neg v0, if_neg v0, hx (by omega), hy (by omega), (hC.2 0 (by omega)).1, (hC.2 1 (by omega)).1]
  obtain ⟨a0, m0⟩ := hB.2 0 (by omega)
  obtain ⟨a1, m1⟩ := hB.2 1 (by omega)
  generalize av 0 = a at *
  generalize av 1 = b at *
  by_cases hab : a = b
  · rw [if_pos (by rw [hab]), if_pos (by rw [hab])]
    exact ⟨13, C, R, by decide, rfl, rfl, fa_C.rf, fa_R.rf, rfl, rfl, ha⟩
  have hne : ¬ nI a = nI b := fun z => hab ((nI_eq (by omega) (by omega)).mp z)
  rw [if_neg hne, if_neg hne]
  simp only [pu_lt]
  rw [pu_marks hB hC a0, pu_bd, pu_marks hB hC a1, pu_bd, pu_signed hq hB hR a0, pu_bd, pu_writable hq hB hR a0, pu_bd, pu_writable hq hB hR a1, pu_bd]
  have ma := pm_mk_lt hB a
  have mb := pm_mk_lt hB b
  generalize pm_mk k av mv a = x1 at *
  generalize pm_mk k av mv b = x2 at *
  simp only [pu_ib]
  by_cases r1 : x1 % 2 = 1 ∧ 2 ≤ x1
  · rw [if_pos ((pu_k3 x1 ma).mpr r1), if_neg (show ¬ ¬ (x1 % 2 = 1) from fun z => z r1.1), if_neg (show ¬ ¬ (2 ≤ x1) from fun z => z r1.2)]
    by_cases r2 : 2 ≤ x2
    · rw [if_neg (fun z => (pu_k2 x2 mb).mp z r2), if_neg (show ¬ ¬ (2 ≤ x2) from fun z => z r2)]
      obtain ⟨ba, oa, za, ⟨ga1, ga2, ga3⟩, ⟨c1, c2⟩, ⟨c3, c4⟩, ⟨c5, c6⟩, c7⟩ := ha a a0
      obtain ⟨bb, ob, zb, ⟨gb1, gb2, gb3⟩, ⟨d1, d2⟩, ⟨d3, d4⟩, ⟨d5, d6⟩, d7⟩ := ha b a1
      rw [pu_isBlank a0 ga2 ga3 c3 c5, pu_bd]
      simp only [pu_gi (show a < 8 from a0) (by decide), pu_gi (show a < 16 by omega) (by decide), pu_gi (show b < 8 from a1) (by decide), pu_gi (show b < 16 by omega) (by decide), nI_clamp (show a < 2 ^ 31 by omega), nI_clamp (show b < 2 ^ 31 by omega), c4, c6, c2, d2, pu_lt]
      rw [c1, d1]
      by_cases bl : oa = 0 ∧ za = 0
      · rw [if_pos bl, if_neg pu_10, if_pos (show nI oa = 0 by rw [bl.1]; rfl), if_pos (show nI za = 0 by rw [bl.2]; rfl)]
        by_cases hv : nI ba < v
        · rw [if_pos hv, if_pos hv]
          exact ⟨7, C, R, by decide, rfl, rfl, fa_C.rf, fa_R.rf, rfl, rfl, ha⟩
        rw [if_neg hv, if_neg hv]
        obtain ⟨u, hu, rfl⟩ : ∃ u : Nat, u ≤ ba ∧ v = nI u := by
          rw [pu_iLt, pu_T0] at v0
          rw [pu_iLt, nI_toInt (by omega)] at hv
          obtain ⟨u, hu, e⟩ := pu_of (v := v) (n := ba + 1) (by omega) (by omega)
          exact ⟨u, by omega, e⟩
        have e1 : (lg_cmp ((nI bb).toInt64 + (nI u).toInt64) (1000000 : Int64) ≤ 0) ↔ bb + u ≤ 1000000 := by
          rw [pu_cle, pu_lLe, pu_L1000000, nI_l (by omega), nI_l (by omega), lN_add, lN_toInt (by omega)]
          omega
        have e2 : (nI bb + nI u ≤ (1000000 : Int32)) ↔ bb + u ≤ 1000000 := by
          rw [nI_add, pu_lit 1000000, nI_leI (by omega) (by decide)]
        by_cases hs : bb + u ≤ 1000000
        · rw [if_pos (e2.mpr hs), if_pos (e1.mpr hs), pk_sub hu]
          have f1 : (gw_sI C (3) a (nI (ba - u))).1 (3) b = nI bb := by
            rw [pu_r3 (Ne.symm hab)]; exact d1
          have f2 : (gw_sI R 1 a (nI (ba - u))).1 1 b = nI bb := by
            rw [pu_r3 (Ne.symm hab)]; exact d2
          rw [f1, f2, nI_add]
          refine ⟨0, _, _, by decide, rfl, rfl, ?_, ?_, ?_, ?_, ?_⟩
          · exact (fa_C.s (Or.inr (Or.inl rfl))).tr (fa_C.s (Or.inr (Or.inl rfl)))
          · exact (fa_R.s (Or.inr (Or.inl ⟨by decide, by decide, a0⟩))).tr (fa_R.s (Or.inr (Or.inl ⟨by decide, by decide, a1⟩)))
          · simp (disch := omega) only [gw_sI_1]
          · simp (disch := omega) only [gw_sI_1]
          · refine qa_put (a := b) (qa_put (a := a) (C1 := gw_sI C (3) a (nI (ba - u))) (R1 := gw_sI R 1 a (nI (ba - u))) ha (fun i hi => ?_) (fun i w hi hw => ?_) (fun i hi hi2 => ?_) (fun i w hi hi2 hw => ?_) ⟨ba - u, oa, za, ⟨by omega, ga2, ga3⟩, ⟨?_, ?_⟩, ⟨?_, ?_⟩, ⟨?_, ?_⟩, fun w hw => ?_⟩) (fun i hi => ?_) (fun i w hi hw => ?_) (fun i hi hi2 => ?_) (fun i w hi hi2 hw => ?_) ⟨bb + u, ob, zb, ⟨hs, gb2, gb3⟩, ⟨?_, ?_⟩, ⟨?_, ?_⟩, ⟨?_, ?_⟩, fun w hw => ?_⟩
            all_goals first
              | (simp (disch := omega) only [gw_sI_1, pu_r2, pu_r3, and_self]; done)
              | (simp (disch := omega) only [gw_sI_1, pu_r2, pu_r3]; assumption)
              | (simp (disch := omega) only [gw_sI_1, pu_r2, pu_r3]; exact c7 w hw)
              | (simp (disch := omega) only [gw_sI_1, pu_r2, pu_r3]; exact d7 w hw)
        · rw [if_neg (fun z => hs (e2.mp z)), if_neg (fun z => hs (e1.mp z))]
          exact ⟨7, C, R, by decide, rfl, rfl, fa_C.rf, fa_R.rf, rfl, rfl, ha⟩
      · rw [if_neg bl, if_pos rfl]
        refine ⟨7, C, R, by decide, rfl, ?_, fa_C.rf, fa_R.rf, rfl, rfl, ha⟩
        by_cases q1 : oa = 0
        · rw [if_pos (show nI oa = 0 by rw [q1]; rfl), if_neg (nI_ne0 (by omega) (by omega))]
          rfl
        · rw [if_neg (nI_ne0 (by omega) (by omega))]
          rfl
    · rw [if_pos ((pu_k2 x2 mb).mpr r2), if_pos r2]
      exact ⟨10, C, R, by decide, rfl, rfl, fa_C.rf, fa_R.rf, rfl, rfl, ha⟩
  · rw [if_neg (fun z => r1 ((pu_k3 x1 ma).mp z))]
    refine ⟨10, C, R, by decide, rfl, ?_, fa_C.rf, fa_R.rf, rfl, rfl, ha⟩
    by_cases s1 : x1 % 2 = 1
    · rw [if_neg (show ¬ ¬ (x1 % 2 = 1) from fun z => z s1), if_pos (show ¬ (2 ≤ x1) from fun z => r1 ⟨s1, z⟩)]
      rfl
    · rw [if_pos s1]
      rfl
