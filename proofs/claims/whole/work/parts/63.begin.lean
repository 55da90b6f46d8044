/-! A program begins: the whole of it. -/
def fb_C (C C1 : gw_M) (t : Nat) : Prop := (∀ a, a ≠ 48 + 7 * t → C1.1 a = C.1 a) ∧ (∀ j, j ≠ 4 → j ≠ 5 → C1.1 (48 + 7 * t) j = C.1 (48 + 7 * t) j) ∧ ∀ a, a ≠ 52 + 7 * t → a ≠ 53 + 7 * t → C1.2 a = C.2 a
def fb_R (R R1 : gw_M) (t : Nat) : Prop := (∀ a, a ≠ 17 → a ≠ 20 → R1.1 a = R.1 a) ∧ (∀ j, j ≠ t + 1 → R1.1 17 j = R.1 17 j ∧ R1.1 20 j = R.1 20 j) ∧ (∀ a, a ≠ 18 → a ≠ 21 → a ≠ 22 → R1.2 a = R.2 a) ∧ (∀ x, (x < 10 * (t + 1) ∨ 10 * (t + 1) + 10 ≤ x) → R1.2 18 x = R.2 18 x) ∧ (∀ x, (x < 16 * (t + 1) ∨ 16 * (t + 1) + 16 ≤ x) → R1.2 21 x = R.2 21 x) ∧ ∀ x, (x < 40 * (t + 1) ∨ 40 * (t + 1) + 40 ≤ x) → R1.2 22 x = R.2 22 x
/-- registers and stack of a frame -/
def qf_G (C R : gw_M) (t : Nat) : Prop := (∀ r, r < 10 → C.2 (52 + 7 * t) r = R.2 18 (10 * (t + 1) + r)) ∧ ∀ x, x < 16 → C.2 (53 + 7 * t) x = R.2 21 (16 * (t + 1) + x)
theorem qx_begin {t k : Nat} {av mv : Nat → Nat} {C R : gw_M} (ht : t < 4) (hB : qs_B k av mv) (hC : qs_C C (49 + 7 * t) k av mv) (hR : qs_R R (4 + t) k av mv) (harg : C.1 (49 + 7 * t) 1 = R.1 13 (4 + t)) (ha : qa_R C R) : ∃ C1 R1 : gw_M, fr_begin_b0 C (48 + 7 * t) 2 = some ((), C1) ∧ mo_begin_b0 R 0 (nI (t + 1)) = some ((), R1) ∧ fb_C C C1 t ∧ fb_R R R1 t ∧ qf_M C1 R1 t ∧ qf_N C1 t k av ∧ qf_K C1 t k av mv ∧ qf_Z C1 t k av ∧ qf_G C1 R1 t ∧ (C1.1 (48 + 7 * t) 4 = 0 ∧ C1.1 (48 + 7 * t) 5 = 0) ∧ R1.1 17 (t + 1) = 0 ∧ R1.1 20 (t + 1) = 0 := by
  have hk := hB.1
  obtain ⟨Ca, hCa⟩ : ∃ M : gw_M, M = gw_sI (gw_sI (gw_sL (gw_sL (gw_sL (pm_w (pm_w C (53 + 7 * t) 0 56 (fun _ => 0)) (52 + 7 * t) 0 10 (fun _ => 0)) (52 + 7 * t) 1 2000) (52 + 7 * t) 2 (nI k).toInt64) (52 + 7 * t) 3 (C.1 (49 + 7 * t) 1).toInt64) (48 + 7 * t) 4 0) (48 + 7 * t) 5 0 := ⟨_, rfl⟩
  obtain ⟨Ra, hRa⟩ : ∃ M : gw_M, M = pm_w (pm_w (gw_sL (gw_sL (gw_sL (pm_w (gw_sI (gw_sI R 17 (t + 1) 0) 20 (t + 1) 0) 18 (10 * (t + 1)) (10 * (t + 1) + 10) (fun _ => 0)) 18 (10 * (t + 1) + 1) 2000) 18 (10 * (t + 1) + 2) (nI k).toInt64) 18 (10 * (t + 1) + 3) (C.1 (49 + 7 * t) 1).toInt64) 21 (16 * (t + 1)) (16 * (t + 1) + 16) (fun _ => 0)) 22 (40 * (t + 1)) (40 * (t + 1) + 40) (fun _ => 0) := ⟨_, rfl⟩
  have c1 : fr_begin_b0 C (48 + 7 * t) 2 = fr_begin_l65 2100 Ca (48 + 7 * t) 2 (nI 0) := by
    unfold fr_begin_b0
    rw [show 48 + 7 * t + 5 = 53 + 7 * t by omega, show 48 + 7 * t + 4 = 52 + 7 * t by omega, show 48 + 7 * t + 1 = 49 + 7 * t by omega, pu_fill0 (by decide), pu_bd, pu_fill0 (by decide), pu_bd]
    simp only [pu_lt, pu_sL1, pm_w_1, hC.1, hCa]
    rfl
  have c2 : mo_begin_b0 R 0 (nI (t + 1)) = mo_begin_l148 2100 Ra 0 (nI (t + 1)) (nI (3 + (t + 1))) (nI 0) := by
    unfold mo_begin_b0
    have e0 := pu_rf20 (R := gw_sI (gw_sI R 17 (t + 1) 0) 20 (t + 1) 0) (u := t + 1) (q := 3 + (t + 1)) (by omega) 10 0 2100 (by decide) (by decide)
    rw [show 10 * (t + 1) + 0 = 10 * (t + 1) from rfl, pm_w_0] at e0
    simp only [pu_lt, pu_gi (show t + 1 < 5 by omega) (by decide), nI_clamp (show t + 1 < 2 ^ 31 by omega), Nat.zero_add, show (3 : Int32) + nI (t + 1) = nI (3 + (t + 1)) by rw [pu_lit 3, nI_add]]
    rw [show (0 : Int32) = nI 0 from rfl] at e0 ⊢
    rw [e0]
    unfold mo_begin_b20
    rw [if_pos (show (10 : Int32) ≤ nI 10 by decide)]
    simp only [pu_lit 10, pk_mul, pu_lit 1, pu_lit 2, pu_lit 3, nI_add, pu_gi (show 10 * (t + 1) + 1 < 50 by omega) (by decide), pu_gi (show 10 * (t + 1) + 2 < 50 by omega) (by decide), pu_gi (show 10 * (t + 1) + 3 < 50 by omega) (by decide), nI_clamp (show 10 * (t + 1) + 1 < 2 ^ 31 by omega), nI_clamp (show 10 * (t + 1) + 2 < 2 ^ 31 by omega), nI_clamp (show 10 * (t + 1) + 3 < 2 ^ 31 by omega), pu_gi (show 3 + (t + 1) < 9 by omega) (by decide), nI_clamp (show 3 + (t + 1) < 2 ^ 31 by omega), pu_lt, pu_sL1, pm_w_1, Nat.zero_add]
    rw [show (gw_sI (gw_sI R 17 (t + 1) (nI 0)) 20 (t + 1) (nI 0)).1 14 (3 + (t + 1)) = nI k by
      rw [gw_sI_1 14 (by decide), gw_sI_1 14 (by decide), show 3 + (t + 1) = 4 + t by omega]; exact hR.1, show (gw_sI (gw_sI R 17 (t + 1) (nI 0)) 20 (t + 1) (nI 0)).1 13 (3 + (t + 1)) = C.1 (49 + 7 * t) 1 by
      rw [gw_sI_1 13 (by decide), gw_sI_1 13 (by decide), show 3 + (t + 1) = 4 + t by omega]; exact harg.symm]
    have e1 := pu_rf96 (R := gw_sL (gw_sL (gw_sL (pm_w (gw_sI (gw_sI R 17 (t + 1) 0) 20 (t + 1) 0) 18 (10 * (t + 1)) (10 * (t + 1) + 10) (fun _ => 0)) 18 (10 * (t + 1) + 1) 2000) 18 (10 * (t + 1) + 2) (nI k).toInt64) 18 (10 * (t + 1) + 3) (C.1 (49 + 7 * t) 1).toInt64) (u := t + 1) (q := 3 + (t + 1)) (by omega) 16 0 2100 (by decide) (by decide)
    rw [show 16 * (t + 1) + 0 = 16 * (t + 1) from rfl, pm_w_0] at e1
    refine e1.trans ?_
    have e2 := pu_rf122 (R := pm_w (gw_sL (gw_sL (gw_sL (pm_w (gw_sI (gw_sI R 17 (t + 1) 0) 20 (t + 1) 0) 18 (10 * (t + 1)) (10 * (t + 1) + 10) (fun _ => 0)) 18 (10 * (t + 1) + 1) 2000) 18 (10 * (t + 1) + 2) (nI k).toInt64) 18 (10 * (t + 1) + 3) (C.1 (49 + 7 * t) 1).toInt64) 21 (16 * (t + 1)) (16 * (t + 1) + 16) (fun _ => 0)) (u := t + 1) (q := 3 + (t + 1)) (by omega) 40 0 2100 (by decide) (by decide)
    rw [show 40 * (t + 1) + 0 = 40 * (t + 1) from rfl, pm_w_0] at e2
    refine e2.trans ?_
    rw [hRa]
    rfl
  have a1 : ∀ a, a ≠ 48 + 7 * t → Ca.1 a = C.1 a := fun a h => by
    rw [hCa, gw_sI_1 a h, gw_sI_1 a h]
    rfl
  have b1 : ∀ a, a ≠ 17 → a ≠ 20 → Ra.1 a = R.1 a := fun a h h2 => by
    rw [hRa]
    show (gw_sI (gw_sI R 17 (t + 1) 0) 20 (t + 1) 0).1 a = R.1 a
    rw [gw_sI_1 a h2, gw_sI_1 a h]
  have m53 : ∀ x, x < 56 → Ca.2 (53 + 7 * t) x = 0 := fun x hx => by
    rw [hCa]
    simp (disch := omega) only [pu_sI2, pu_q1, pm_w_n]
    rw [pm_w_in (by omega)]
  have m22 : ∀ x, 40 * (t + 1) ≤ x → x < 40 * (t + 1) + 40 → Ra.2 22 x = 0 := fun x h1 h2 => by
    rw [hRa, pm_w_in ⟨h1, h2⟩]
  obtain ⟨C1, R1, r1, r2, ⟨r3, r4, r5⟩, r6, r7, r8, r9, r10⟩ := qx_begL ht hB k 0 2100 2100 Ca Ra (Nat.zero_add _) (by omega) (by omega) (qs_Cc hC (a1 _ (by omega)) (a1 _ (by omega)) (a1 _ (by omega))) (qs_Rc hR (b1 14 (by decide) (by decide)) (b1 15 (by decide) (by decide)) (b1 16 (by decide) (by decide))) (qa_cong ha (a1 3 (by omega)) (a1 4 (by omega)) (a1 5 (by omega)) (a1 6 (by omega)) (b1 1 (by decide) (by decide)) (b1 2 (by decide) (by decide)) (b1 3 (by decide) (by decide)) (b1 4 (by decide) (by decide))) (fun x hx => by rw [m53 _ (by omega), m22 _ (by omega) (by omega)]) (fun j hj => absurd hj (Nat.not_lt_zero j)) (fun j hj => absurd hj (Nat.not_lt_zero j))
  refine ⟨C1, R1, c1.trans r1, c2.trans r2, ⟨fun a h => by rw [r3]; exact a1 a h, fun j h1 h2 => ?_, fun a h1 h2 => ?_⟩, ⟨fun a h1 h2 => by rw [r6.1]; exact b1 a h1 h2, fun j h1 => ⟨?_, ?_⟩, fun a h1 h2 h3 => ?_, fun x hx => ?_, fun x hx => ?_, fun x hx => ?_⟩, r7, r8, r9, r10, ⟨fun r hr => ?_, fun x hx => ?_⟩, ⟨?_, ?_⟩, ?_, ?_⟩
  · rw [r3, hCa, pu_r3 h2, pu_r3 h1]
    rfl
  · rw [r4 a h2, hCa]
    simp (disch := assumption) only [pu_sI2, pu_q1, pm_w_n]
  · rw [r6.1, hRa]
    show (gw_sI (gw_sI R 17 (t + 1) 0) 20 (t + 1) 0).1 17 j = R.1 17 j
    rw [pu_r3 h1, pu_r3 h1]
  · rw [r6.1, hRa]
    show (gw_sI (gw_sI R 17 (t + 1) 0) 20 (t + 1) 0).1 20 j = R.1 20 j
    rw [pu_r3 h1, pu_r3 h1]
  · rw [r6.2.1 a h3, hRa, pm_w_n h3, pm_w_n h2, pu_q1 h1, pu_q1 h1, pu_q1 h1, pm_w_n h1]
    rfl
  · rw [r6.2.1 18 (by decide), hRa, pm_w_n (by decide), pm_w_n (by decide), pu_q3 (by omega), pu_q3 (by omega), pu_q3 (by omega), pm_w_out (by omega)]
    rfl
  · rw [r6.2.1 21 (by decide), hRa, pm_w_n (by decide), pm_w_out (by omega)]
    rfl
  · rw [r6.2.2 x hx, hRa, pm_w_out (by omega), pm_w_n (by decide)]
    rfl
  · rw [r4 _ (by omega), r6.2.1 18 (by decide), hCa, hRa, pu_sI2, pu_sI2, pm_w_n (by decide), pm_w_n (by decide)]
    by_cases h3 : r = 3
    · subst h3
      rw [pu_q2 rfl rfl, pu_q2 rfl rfl]
    rw [pu_q3 h3, pu_q3 (show 10 * (t + 1) + r ≠ 10 * (t + 1) + 3 by omega)]
    by_cases h2 : r = 2
    · subst h2
      rw [pu_q2 rfl rfl, pu_q2 rfl rfl]
    rw [pu_q3 h2, pu_q3 (show 10 * (t + 1) + r ≠ 10 * (t + 1) + 2 by omega)]
    by_cases h1 : r = 1
    · subst h1
      rw [pu_q2 rfl rfl, pu_q2 rfl rfl]
    rw [pu_q3 h1, pu_q3 (show 10 * (t + 1) + r ≠ 10 * (t + 1) + 1 by omega), pm_w_in (by omega), pm_w_in (by omega)]
  · rw [r5 x hx, m53 x (by omega), r6.2.1 21 (by decide), hRa, pm_w_n (by decide), pm_w_in (by omega)]
  · rw [r3, hCa, pu_r3 (by decide), pu_r2 rfl rfl]
  · rw [r3, hCa, pu_r2 rfl rfl]
  · rw [r6.1, hRa]
    show (gw_sI (gw_sI R 17 (t + 1) 0) 20 (t + 1) 0).1 17 (t + 1) = 0
    rw [gw_sI_1 17 (by decide), pu_r2 rfl rfl]
  · rw [r6.1, hRa]
    show (gw_sI (gw_sI R 17 (t + 1) 0) 20 (t + 1) 0).1 20 (t + 1) = 0
    rw [pu_r2 rfl rfl]
