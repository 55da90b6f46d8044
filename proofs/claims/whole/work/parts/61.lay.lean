/-! The same of the reference; both loops. -/
theorem pu_layW {R : gw_M} {u q i a z lo : Nat} {g : Nat → Int64} (hu : u ≤ 4) (hi : i < 4) (ha : a < 8) (hz4 : z ≤ 4) (hz : R.1 3 a = nI z) (hlo : lo ≤ 40 * u + 10 * i + 5) (hg : ∀ w, w < 4 → g (40 * u + 10 * i + 5 + w) = if z ≤ w then 0 else (R.1 4 (4 * a + w)).toInt64) (K6 : gw_M → Nat → Int32 → Int32 → Int32 → Option (Unit × gw_M)) : ∀ (d w f : Nat), w + d = 4 → d < f → mo_layOut_l103 K6 f (pm_w R 22 lo (40 * u + 10 * i + 5 + w) g) 0 (nI u) (nI q) (nI i) (nI (40 * u + 10 * i)) (nI a) (nI w) = K6 (pm_w R 22 lo (40 * u + 10 * i + 9) g) 0 (nI u) (nI q) (nI (i + 1)) := by
  intro d
  induction d with
  | zero =>
    intro w f hw hf
    obtain ⟨f, rfl⟩ : ∃ n, f = n + 1 := ⟨f - 1, by omega⟩
    have hw4 : w = 4 := by omega
    subst hw4
    show mo_layOut_b103 K6 (mo_layOut_l103 K6 f) (pm_w R 22 lo (40 * u + 10 * i + 5 + 4) g) 0 (nI u) (nI q) (nI i) (nI (40 * u + 10 * i)) (nI a) (nI 4) = _
    unfold mo_layOut_b103 mo_layOut_b156
    rw [if_pos (show (4 : Int32) ≤ nI 4 by decide), nI_1]
  | succ d ih =>
    intro w f hw hf
    obtain ⟨f, rfl⟩ : ∃ n, f = n + 1 := ⟨f - 1, by omega⟩
    show mo_layOut_b103 K6 (mo_layOut_l103 K6 f) (pm_w R 22 lo (40 * u + 10 * i + 5 + w) g) 0 (nI u) (nI q) (nI i) (nI (40 * u + 10 * i)) (nI a) (nI w) = _
    unfold mo_layOut_b103 mo_layOut_b149
    simp only [Nat.zero_add, pm_w_1]
    rw [if_neg (show ¬ (4 : Int32) ≤ nI w from nI_ge (b := 4) (by omega) (by decide)), pu_gi (show a < 16 by omega) (by decide), nI_clamp (show a < 2 ^ 31 by omega), hz, pu_lit 4, pk_mul, nI_add, pu_lit 5, nI_add, nI_add, pu_gi (show 4 * a + w < 64 by omega) (by decide), pu_gi (show 40 * u + 10 * i + 5 + w < 200 by omega) (by decide), pu_gi (show 40 * u + 10 * i + 5 + w < 200 by omega) (by decide), nI_clamp (show 4 * a + w < 2 ^ 31 by omega), nI_clamp (show 40 * u + 10 * i + 5 + w < 2 ^ 31 by omega), pu_lt, pu_lt, nI_1]
    have hgw := hg w (by omega)
    by_cases hzw : z ≤ w
    · rw [if_pos hzw] at hgw
      rw [if_pos (nI_le hzw (by omega)), pm_w_s (by omega) hgw]
      exact ih (w + 1) f (by omega) (by omega)
    · rw [if_neg hzw] at hgw
      rw [if_neg (nI_ge (by omega) (by omega)), pm_w_s (by omega) hgw]
      exact ih (w + 1) f (by omega) (by omega)
theorem pu_lay1 {R : gw_M} {u k i m z : Nat} {av mv : Nat → Nat} (hu : u ≤ 4) (hB : qs_B k av mv) (h : qs_R R (3 + u) k av mv) (hi : i < k) (hm : m ≤ i) (hM : qs_M av (av i) m) (hz4 : z ≤ 4) (hz : R.1 3 (av i) = nI z) (K6 : gw_M → Nat → Int32 → Int32 → Int32 → Option (Unit × gw_M)) : mo_layOut_b6 K6 R 0 (nI u) (nI (3 + u)) (nI i) = if m = i then K6 (pm_w R 22 (40 * u + 10 * i + 2) (40 * u + 10 * i + 9) (fun x => pm_vr R z (av i) (x - (40 * u + 10 * i)))) 0 (nI u) (nI (3 + u)) (nI (i + 1)) else K6 R 0 (nI u) (nI (3 + u)) (nI (i + 1)) := by
  have hk := hB.1
  obtain ⟨a0, m0⟩ := hB.2 i hi
  unfold mo_layOut_b6 mo_layOut_b156
  simp only [Nat.zero_add]
  rw [pu_gi (show 3 + u < 9 by omega) (by decide), nI_clamp (show 3 + u < 2 ^ 31 by omega), h.1, if_neg (nI_ge hi (by omega)), pu_lit 40, pu_lit 10, pk_mul, pk_mul, nI_add, pu_lit 4, pk_mul, nI_add, pu_lt, pu_gi (show 4 * (3 + u) + i < 36 by omega) (by decide), nI_clamp (show 4 * (3 + u) + i < 2 ^ 31 by omega), pu_lt, (h.2 i hi).1, pu_rmain (by omega) hB h hi hm hM, pu_bd, nI_1]
  by_cases hmi : m = i
  · rw [if_pos hmi, if_pos (by rw [hmi])]
    simp only [pu_lt, pu_gi (show av i < 16 by omega) (by decide), nI_clamp (show av i < 2 ^ 31 by omega), pu_lit 2, pu_lit 3, nI_add, pu_gi (show 40 * u + 10 * i + 2 < 200 by omega) (by decide), pu_gi (show 40 * u + 10 * i + 3 < 200 by omega) (by decide), pu_gi (show 40 * u + 10 * i + 4 < 200 by omega) (by decide), nI_clamp (show 40 * u + 10 * i + 2 < 2 ^ 31 by omega), nI_clamp (show 40 * u + 10 * i + 3 < 2 ^ 31 by omega), nI_clamp (show 40 * u + 10 * i + 4 < 2 ^ 31 by omega), pu_sL1]
    obtain ⟨g, hg⟩ : ∃ g : Nat → Int64, g = fun x => pm_vr R z (av i) (x - (40 * u + 10 * i)) := ⟨_, rfl⟩
    rw [← hg]
    have gv : ∀ y, g (40 * u + 10 * i + y) = pm_vr R z (av i) y := fun y => by
      rw [hg]
      show pm_vr R z (av i) (40 * u + 10 * i + y - (40 * u + 10 * i)) = _
      rw [show 40 * u + 10 * i + y - (40 * u + 10 * i) = y by omega]
    have e2 : gw_sL R 22 (40 * u + 10 * i + 2) (R.1 2 (av i)).toInt64 = pm_w R 22 (40 * u + 10 * i + 2) (40 * u + 10 * i + 3) g := by
      have := @pm_w_s R 22 (40 * u + 10 * i + 2) (40 * u + 10 * i + 2) g (R.1 2 (av i)).toInt64 (Nat.le_refl _) ((gv 2).trans rfl)
      rw [pm_w_0] at this
      exact this
    have e3 : gw_sL (pm_w R 22 (40 * u + 10 * i + 2) (40 * u + 10 * i + 3) g) 22 (40 * u + 10 * i + 3) (R.1 1 (av i)).toInt64 = pm_w R 22 (40 * u + 10 * i + 2) (40 * u + 10 * i + 4) g := pm_w_s (by omega) ((gv 3).trans rfl)
    have e4 : gw_sL (pm_w R 22 (40 * u + 10 * i + 2) (40 * u + 10 * i + 4) g) 22 (40 * u + 10 * i + 4) (R.1 3 (av i)).toInt64 = pm_w R 22 (40 * u + 10 * i + 2) (40 * u + 10 * i + 5 + 0) g := pm_w_s (by omega) ((gv 4).trans rfl)
    rw [e2, e3, e4]
    refine pu_layW hu (by omega) a0 hz4 hz (by omega) (fun w hw => ?_) K6 4 0 2100 (by omega) (by omega)
    rw [show 40 * u + 10 * i + 5 + w = 40 * u + 10 * i + (5 + w) by omega, gv (5 + w)]
    unfold pm_vr
    rw [if_neg (by omega), if_neg (by omega), if_neg (by omega), show 5 + w - 5 = w by omega]
  · rw [if_neg hmi, if_neg (fun z => hmi ((nI_eq (by omega) (by omega)).mp z))]
/-- the frame's picture of the slots is the same -/
def qf_M (C R : gw_M) (t : Nat) : Prop := ∀ x, x < 40 → C.2 (53 + 7 * t) (16 + x) = R.2 22 (40 * (t + 1) + x)
/-- the first word of a slot tells whether it is a main one -/
def qf_N (C : gw_M) (t k : Nat) (av : Nat → Nat) : Prop := ∀ i, i < k → (C.2 (53 + 7 * t) (16 + 10 * i) < 0 ↔ ∃ m, m < i ∧ av m = av i)
/-- the frame of what the layout does -/
def fl_C (C C1 : gw_M) (t : Nat) : Prop := C1.1 = C.1 ∧ (∀ a, a ≠ 53 + 7 * t → C1.2 a = C.2 a) ∧ (∀ x, x < 16 → C1.2 (53 + 7 * t) x = C.2 (53 + 7 * t) x) ∧ ∀ i x, x < 2 → C1.2 (53 + 7 * t) (16 + 10 * i + x) = C.2 (53 + 7 * t) (16 + 10 * i + x)
def fl_R (R R1 : gw_M) (t : Nat) : Prop := R1.1 = R.1 ∧ (∀ a, a ≠ 22 → R1.2 a = R.2 a) ∧ ∀ x, (x < 40 * (t + 1) ∨ 40 * (t + 1) + 40 ≤ x) → R1.2 22 x = R.2 22 x
theorem fl_C.rf {C : gw_M} {t : Nat} : fl_C C C t := ⟨rfl, fun _ _ => rfl, fun _ _ => rfl, fun _ _ _ => rfl⟩
theorem fl_R.rf {R : gw_M} {t : Nat} : fl_R R R t := ⟨rfl, fun _ _ => rfl, fun _ _ => rfl⟩
theorem fl_C.tr {A B C : gw_M} {t : Nat} (h : fl_C A B t) (g : fl_C B C t) : fl_C A C t := ⟨g.1.trans h.1, fun a ha => (g.2.1 a ha).trans (h.2.1 a ha), fun x hx => (g.2.2.1 x hx).trans (h.2.2.1 x hx), fun i x hx => (g.2.2.2 i x hx).trans (h.2.2.2 i x hx)⟩
theorem fl_R.tr {A B C : gw_M} {t : Nat} (h : fl_R A B t) (g : fl_R B C t) : fl_R A C t := ⟨g.1.trans h.1, fun a ha => (g.2.1 a ha).trans (h.2.1 a ha), fun x hx => (g.2.2 x hx).trans (h.2.2 x hx)⟩
theorem pu_seeEnd {C : gw_M} {o k f : Nat} {av mv : Nat → Nat} (hB : qs_B k av mv) (h : qs_C C (o + 1) k av mv) : fr_seeAccounts_l2 (f + 1) C o 2 (nI k) = some ((), C) := by
  show fr_seeAccounts_b2 (fr_seeAccounts_l2 f) C o 2 (nI k) = _
  unfold fr_seeAccounts_b2
  rw [h.1, if_pos (nI_le (Nat.le_refl _) (by have := hB.1; omega))]
theorem pu_layEnd {R : gw_M} {u k f : Nat} {av mv : Nat → Nat} (hu : u ≤ 4) (hB : qs_B k av mv) (h : qs_R R (3 + u) k av mv) : mo_layOut_l6 (f + 1) R 0 (nI u) (nI (3 + u)) (nI k) = some ((), R) := by
  show mo_layOut_b6 (mo_layOut_l6 f) R 0 (nI u) (nI (3 + u)) (nI k) = _
  unfold mo_layOut_b6
  rw [pu_gi (show 3 + u < 9 by omega) (by decide), nI_clamp (show 3 + u < 2 ^ 31 by omega), Nat.zero_add, h.1, if_pos (nI_le (Nat.le_refl _) (by have := hB.1; omega))]
/-- both lay out the accounts: the pictures stay the same; a main slot shows its account -/
theorem qx_see {t k : Nat} {av mv : Nat → Nat} (ht : t < 4) (hB : qs_B k av mv) : ∀ (d i f1 f2 : Nat) (C R : gw_M), i + d = k → d < f1 → d < f2 → qs_C C (49 + 7 * t) k av mv → qs_R R (4 + t) k av mv → qa_R C R → qf_M C R t → qf_N C t k av → ∃ C1 R1 : gw_M, fr_seeAccounts_l2 f1 C (48 + 7 * t) 2 (nI i) = some ((), C1) ∧ mo_layOut_l6 f2 R 0 (nI (t + 1)) (nI (3 + (t + 1))) (nI i) = some ((), R1) ∧ fl_C C C1 t ∧ fl_R R R1 t ∧ qf_M C1 R1 t ∧ (∀ j, i ≤ j → j < k → (¬ ∃ m, m < j ∧ av m = av j) → ∀ y, 2 ≤ y → y < 9 → C1.2 (53 + 7 * t) (16 + 10 * j + y) = pm_vl C (av j) y) ∧ ∀ j y, j < i → y < 10 → C1.2 (53 + 7 * t) (16 + 10 * j + y) = C.2 (53 + 7 * t) (16 + 10 * j + y) := by
  intro d
  induction d with
  | zero =>
    intro i f1 f2 C R hi hf1 hf2 hC hR ha hM hN
    obtain ⟨f1, rfl⟩ : ∃ n, f1 = n + 1 := ⟨f1 - 1, by omega⟩
    obtain ⟨f2, rfl⟩ : ∃ n, f2 = n + 1 := ⟨f2 - 1, by omega⟩
    have hik : i = k := by omega
    subst hik
    refine ⟨C, R, pu_seeEnd (mv := mv) (av := av) hB (by rw [show 48 + 7 * t + 1 = 49 + 7 * t by omega]; exact hC), pu_layEnd (mv := mv) (av := av) (by omega) hB (by rw [show 3 + (t + 1) = 4 + t by omega]; exact hR), fl_C.rf, fl_R.rf, hM, fun j h1 h2 => by omega, fun _ _ _ _ => rfl⟩
  | succ d ih =>
    intro i f1 f2 C R hi hf1 hf2 hC hR ha hM hN
    obtain ⟨f1, rfl⟩ : ∃ n, f1 = n + 1 := ⟨f1 - 1, by omega⟩
    obtain ⟨f2, rfl⟩ : ∃ n, f2 = n + 1 := ⟨f2 - 1, by omega⟩
    have hk := hB.1
    obtain ⟨a0, m0⟩ := hB.2 i (by omega)
    obtain ⟨m, hm, hMm⟩ := qs_Mex av i
    obtain ⟨b, o, z, ⟨g1, g2, g3⟩, ⟨c1, c2⟩, ⟨c3, c4⟩, ⟨c5, c6⟩, c7⟩ := ha (av i) a0
    have e1 := pu_see1 (C := C) (o := 48 + 7 * t) (mv := mv) hB (by rw [show 48 + 7 * t + 1 = 49 + 7 * t by omega]; exact hC) (show i < k by omega) (fr_seeAccounts_l2 f1)
    have e2 := pu_lay1 (R := R) (u := t + 1) (mv := mv) (by omega) hB (by rw [show 3 + (t + 1) = 4 + t by omega]; exact hR) (show i < k by omega) hm hMm g3 c6 (mo_layOut_l6 f2)
    rw [show 48 + 7 * t + 5 = 53 + 7 * t by omega] at e1
    have u1 : fr_seeAccounts_l2 (f1 + 1) C (48 + 7 * t) 2 (nI i) = fr_seeAccounts_b2 (fr_seeAccounts_l2 f1) C (48 + 7 * t) 2 (nI i) := rfl
    have u2 : mo_layOut_l6 (f2 + 1) R 0 (nI (t + 1)) (nI (3 + (t + 1))) (nI i) = mo_layOut_b6 (mo_layOut_l6 f2) R 0 (nI (t + 1)) (nI (3 + (t + 1))) (nI i) := rfl
    rw [u1, u2, e1, e2]
    by_cases hs : C.2 (53 + 7 * t) (16 + 10 * i) < 0
    · obtain ⟨m2, h1, h2⟩ := (hN i (by omega)).mp hs
      have hne : ¬ m = i := fun q => hMm.2 m2 (by omega) h2
      rw [if_pos hs, if_neg hne]
      obtain ⟨C1, R1, r1, r2, r3, r4, r5, r6, r7⟩ := ih (i + 1) f1 f2 C R (by omega) (by omega) (by omega) hC hR ha hM hN
      refine ⟨C1, R1, r1, r2, r3, r4, r5, fun j h3 h4 h5 => ?_, fun j y h3 h4 => r7 j y (by omega) h4⟩
      by_cases hji : j = i
      · subst hji
        exact absurd ⟨m2, h1, h2⟩ h5
      · exact r6 j (by omega) h4 h5
    · have hmi : m = i := by
        rcases Nat.lt_or_ge m i with h1 | h1
        · exact absurd ((hN i (by omega)).mpr ⟨m, h1, hMm.1⟩) hs
        · omega
      rw [if_neg hs, if_pos hmi]
      have kc : fl_C C (pm_w C (53 + 7 * t) (18 + 10 * i) (25 + 10 * i) (fun x => pm_vl C (av i) (x - (16 + 10 * i)))) t := by
        refine ⟨rfl, fun a h1 => pm_w_n h1, fun x hx => pm_w_out (by omega), fun j x hx => pm_w_out ?_⟩
        omega
      have kr : fl_R R (pm_w R 22 (40 * (t + 1) + 10 * i + 2) (40 * (t + 1) + 10 * i + 9) (fun x => pm_vr R z (av i) (x - (40 * (t + 1) + 10 * i)))) t := by
        refine ⟨rfl, fun a h1 => pm_w_n h1, fun x hx => pm_w_out ?_⟩
        omega
      have hM2 : qf_M (pm_w C (53 + 7 * t) (18 + 10 * i) (25 + 10 * i) (fun x => pm_vl C (av i) (x - (16 + 10 * i)))) (pm_w R 22 (40 * (t + 1) + 10 * i + 2) (40 * (t + 1) + 10 * i + 9) (fun x => pm_vr R z (av i) (x - (40 * (t + 1) + 10 * i)))) t := by
        intro x hx
        by_cases hin : 10 * i + 2 ≤ x ∧ x < 10 * i + 9
        · rw [pm_w_in (by omega), pm_w_in (by omega)]
          show pm_vl C (av i) (16 + x - (16 + 10 * i)) = pm_vr R z (av i) (40 * (t + 1) + x - (40 * (t + 1) + 10 * i))
          rw [show 16 + x - (16 + 10 * i) = x - 10 * i by omega, show 40 * (t + 1) + x - (40 * (t + 1) + 10 * i) = x - 10 * i by omega]
          exact pm_vlr ha a0 g3 c5 (by omega) (by omega)
        · rw [pm_w_out (by omega), pm_w_out (by omega)]
          exact hM x hx
      have hN2 : qf_N (pm_w C (53 + 7 * t) (18 + 10 * i) (25 + 10 * i) (fun x => pm_vl C (av i) (x - (16 + 10 * i)))) t k av := by
        intro j hj
        have := kc.2.2.2 j 0 (by decide)
        rw [Nat.add_zero] at this
        rw [this]
        exact hN j hj
      obtain ⟨C1, R1, r1, r2, r3, r4, r5, r6, r7⟩ := ih (i + 1) f1 f2 _ _ (by omega) (by omega) (by omega) (show qs_C (pm_w C (53 + 7 * t) (18 + 10 * i) (25 + 10 * i) (fun x => pm_vl C (av i) (x - (16 + 10 * i)))) (49 + 7 * t) k av mv from hC) (show qs_R (pm_w R 22 (40 * (t + 1) + 10 * i + 2) (40 * (t + 1) + 10 * i + 9) (fun x => pm_vr R z (av i) (x - (40 * (t + 1) + 10 * i)))) (4 + t) k av mv from hR) ha hM2 hN2
      refine ⟨C1, R1, r1, r2, kc.tr r3, kr.tr r4, r5, fun j h3 h4 h5 y hy1 hy2 => ?_, fun j y h3 h4 => ?_⟩
      · by_cases hji : j = i
        · subst hji
          rw [r7 j y (by omega) (by omega), pm_w_in (by omega)]
          show pm_vl C (av j) (16 + 10 * j + y - (16 + 10 * j)) = _
          rw [show 16 + 10 * j + y - (16 + 10 * j) = y by omega]
        · exact r6 j (by omega) h4 h5 y hy1 hy2
      · rw [r7 j y (by omega) h4, pm_w_out (by omega)]
