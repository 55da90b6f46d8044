/-! A program begins. -/
theorem pu_fill {M : gw_M} {k n : Nat} {v : Int64} (hn : n < 2 ^ 31) : ∀ (d i f : Nat), i + d = n → d < f → ar_fillL_l6 f (pm_w M k 0 i (fun _ => v)) n k v (nI i) (nI n) = some ((), pm_w M k 0 n (fun _ => v)) := by
  intro d
  induction d with
  | zero =>
    intro i f hi hf
    obtain ⟨f, rfl⟩ : ∃ g, f = g + 1 := ⟨f - 1, by omega⟩
    have hin : i = n := by omega
    subst hin
    show ar_fillL_b6 (ar_fillL_l6 f) _ i k v (nI i) (nI i) = _
    unfold ar_fillL_b6
    rw [if_pos (nI_le (Nat.le_refl _) hn)]
  | succ d ih =>
    intro i f hi hf
    obtain ⟨f, rfl⟩ : ∃ g, f = g + 1 := ⟨f - 1, by omega⟩
    show ar_fillL_b6 (ar_fillL_l6 f) _ n k v (nI i) (nI n) = _
    unfold ar_fillL_b6
    rw [if_neg (nI_ge (by omega) hn), pu_gi (by omega) hn, nI_clamp (by omega), pu_lt, pm_w_s (Nat.zero_le _) rfl, nI_1]
    exact ih (i + 1) f (by omega) (by omega)
theorem pu_fill0 {M : gw_M} {k n : Nat} {v : Int64} (hn : n < 2000) : ar_fillL_b0 M n k v = some ((), pm_w M k 0 n (fun _ => v)) := by
  unfold ar_fillL_b0
  rw [pu_lt]
  have h := pu_fill (M := M) (k := k) (n := n) (v := v) (by omega) n 0 2100 (Nat.zero_add _) (by omega)
  rw [pm_w_0] at h
  exact h
/-- the reference's fills -/
theorem pu_rf20 {R : gw_M} {u q : Nat} (hu : u ≤ 4) : ∀ (d i f : Nat), i + d = 10 → d < f → mo_begin_l20 f (pm_w R 18 (10 * u) (10 * u + i) (fun _ => 0)) 0 (nI u) (nI q) (nI i) = mo_begin_b20 (mo_begin_l20 (f - d - 1)) (pm_w R 18 (10 * u) (10 * u + 10) (fun _ => 0)) 0 (nI u) (nI q) (nI 10) := by
  intro d
  induction d with
  | zero =>
    intro i f hi hf
    obtain ⟨f, rfl⟩ : ∃ g, f = g + 1 := ⟨f - 1, by omega⟩
    have hin : i = 10 := by omega
    subst hin
    rfl
  | succ d ih =>
    intro i f hi hf
    obtain ⟨f, rfl⟩ : ∃ g, f = g + 1 := ⟨f - 1, by omega⟩
    have e : mo_begin_l20 (f + 1) (pm_w R 18 (10 * u) (10 * u + i) (fun _ => 0)) 0 (nI u) (nI q) (nI i) = mo_begin_l20 f (pm_w R 18 (10 * u) (10 * u + (i + 1)) (fun _ => 0)) 0 (nI u) (nI q) (nI (i + 1)) := by
      show mo_begin_b20 (mo_begin_l20 f) _ 0 (nI u) (nI q) (nI i) = _
      unfold mo_begin_b20
      rw [if_neg (show ¬ (10 : Int32) ≤ nI i from nI_ge (b := 10) (by omega) (by decide)), pu_lit 10, pk_mul, nI_add, pu_gi (by omega) (by decide), nI_clamp (by omega), pu_lt, Nat.zero_add, pm_w_s (by omega) rfl, nI_1]
      rfl
    rw [e, ih (i + 1) f (by omega) (by omega), show f - d - 1 = f + 1 - (d + 1) - 1 by omega]
theorem pu_rf96 {R : gw_M} {u q : Nat} (hu : u ≤ 4) : ∀ (d i f : Nat), i + d = 16 → d < f → mo_begin_l96 f (pm_w R 21 (16 * u) (16 * u + i) (fun _ => 0)) 0 (nI u) (nI q) (nI i) = mo_begin_l122 2100 (pm_w R 21 (16 * u) (16 * u + 16) (fun _ => 0)) 0 (nI u) (nI q) 0 := by
  intro d
  induction d with
  | zero =>
    intro i f hi hf
    obtain ⟨f, rfl⟩ : ∃ g, f = g + 1 := ⟨f - 1, by omega⟩
    have hin : i = 16 := by omega
    subst hin
    show mo_begin_b96 (mo_begin_l96 f) _ 0 (nI u) (nI q) (nI 16) = _
    unfold mo_begin_b96
    rw [if_pos (show (16 : Int32) ≤ nI 16 by decide)]
  | succ d ih =>
    intro i f hi hf
    obtain ⟨f, rfl⟩ : ∃ g, f = g + 1 := ⟨f - 1, by omega⟩
    show mo_begin_b96 (mo_begin_l96 f) _ 0 (nI u) (nI q) (nI i) = _
    unfold mo_begin_b96
    rw [if_neg (show ¬ (16 : Int32) ≤ nI i from nI_ge (b := 16) (by omega) (by decide)), pu_lit 16, pk_mul, nI_add, pu_gi (by omega) (by decide), nI_clamp (by omega), pu_lt, Nat.zero_add, pm_w_s (by omega) rfl, nI_1]
    exact ih (i + 1) f (by omega) (by omega)
theorem pu_rf122 {R : gw_M} {u q : Nat} (hu : u ≤ 4) : ∀ (d i f : Nat), i + d = 40 → d < f → mo_begin_l122 f (pm_w R 22 (40 * u) (40 * u + i) (fun _ => 0)) 0 (nI u) (nI q) (nI i) = mo_begin_l148 2100 (pm_w R 22 (40 * u) (40 * u + 40) (fun _ => 0)) 0 (nI u) (nI q) 0 := by
  intro d
  induction d with
  | zero =>
    intro i f hi hf
    obtain ⟨f, rfl⟩ : ∃ g, f = g + 1 := ⟨f - 1, by omega⟩
    have hin : i = 40 := by omega
    subst hin
    show mo_begin_b122 (mo_begin_l122 f) _ 0 (nI u) (nI q) (nI 40) = _
    unfold mo_begin_b122
    rw [if_pos (show (40 : Int32) ≤ nI 40 by decide)]
  | succ d ih =>
    intro i f hi hf
    obtain ⟨f, rfl⟩ : ∃ g, f = g + 1 := ⟨f - 1, by omega⟩
    show mo_begin_b122 (mo_begin_l122 f) _ 0 (nI u) (nI q) (nI i) = _
    unfold mo_begin_b122
    rw [if_neg (show ¬ (40 : Int32) ≤ nI i from nI_ge (b := 40) (by omega) (by decide)), pu_lit 40, pk_mul, nI_add, pu_gi (by omega) (by decide), nI_clamp (by omega), pu_lt, Nat.zero_add, pm_w_s (by omega) rfl, nI_1]
    exact ih (i + 1) f (by omega) (by omega)
/-- a slot's first two words -/
def pm_nb (av : Nat → Nat) (m i : Nat) : Int64 := if m = i then (nI (av i)).toInt64 else ((-1 : Int32) - nI m).toInt64
def pm_mb (k : Nat) (av mv : Nat → Nat) (m i : Nat) : Int64 := if m = i then (nI (pm_mk k av mv (av i))).toInt64 else 0
theorem pm_nb_neg {av : Nat → Nat} {m i : Nat} (ha : av i < 8) (hm : m < 4) : pm_nb av m i < 0 ↔ m ≠ i := by
  unfold pm_nb
  by_cases h : m = i
  · rw [if_pos h]
    refine ⟨fun q => ?_, fun q => absurd h q⟩
    rw [pu_lLt, pu_il, nI_toInt (by omega), pu_L0] at q
    omega
  · rw [if_neg h]
    refine ⟨fun _ => h, fun _ => ?_⟩
    have key : ∀ m, m < 4 → ((-1 : Int32) - nI m).toInt64 < 0 := by decide
    exact key m hm
theorem pu_beg1 {C : gw_M} {o k i m : Nat} {av mv : Nat → Nat} (hB : qs_B k av mv) (h : qs_C C (o + 1) k av mv) (hi : i < k) (hm : m ≤ i) (hM : qs_M av (av i) m) (K : gw_M → Nat → Nat → Int32 → Option (Unit × gw_M)) : fr_begin_b65 K C o 2 (nI i) = K (gw_sL (gw_sL C (o + 5) (16 + 10 * i) (pm_nb av m i)) (o + 5) (16 + 10 * i + 1) (pm_mb k av mv m i)) o 2 (nI (i + 1)) := by
  have hk := hB.1
  obtain ⟨a0, m0⟩ := hB.2 i hi
  unfold fr_begin_b65 fr_begin_b122 fr_begin_b152
  rw [h.1, if_neg (nI_ge hi (by omega)), pu_gi (show i < 4 by omega) (by decide), nI_clamp (show i < 2 ^ 31 by omega), (h.2 i hi).1, pu_lt, pu_main hB h a0 (by omega) hM, pu_bd, pu_baseOf C (by omega), pu_bd, show nI (16 + 10 * i) + (0 : Int32) = nI (16 + 10 * i) by rw [pu_lit 0, nI_add, Nat.add_zero]]
  have hs : ∀ x : Int64, qs_C (gw_sL C (o + 5) (16 + 10 * i) x) (o + 1) k av mv := fun x => h
  simp only [pu_gi (show 16 + 10 * i < 56 by omega) (by decide), nI_clamp (show 16 + 10 * i < 2 ^ 31 by omega), pu_lt, pu_baseOf _ (show i < 4 by omega), pu_bd, pu_marks hB (hs _) a0, show nI (16 + 10 * i) + (1 : Int32) = nI (16 + 10 * i + 1) from nI_1 _, pu_gi (show 16 + 10 * i + 1 < 56 by omega) (by decide), nI_clamp (show 16 + 10 * i + 1 < 2 ^ 31 by omega), nI_1]
  unfold pm_nb pm_mb
  by_cases hmi : m = i
  · rw [if_pos (by rw [hmi]), if_pos (by rw [hmi]), if_pos hmi, if_pos hmi]
  · have hne : ¬ nI m = nI i := fun z => hmi ((nI_eq (by omega) (by omega)).mp z)
    rw [if_neg hne, if_neg hne, if_neg hmi, if_neg hmi]
theorem pu_rbeg1 {R : gw_M} {u k i m : Nat} {av mv : Nat → Nat} (hu : u ≤ 4) (hB : qs_B k av mv) (h : qs_R R (3 + u) k av mv) (hi : i < k) (hm : m ≤ i) (hM : qs_M av (av i) m) (K : gw_M → Nat → Int32 → Int32 → Int32 → Option (Unit × gw_M)) : mo_begin_b148 K R 0 (nI u) (nI (3 + u)) (nI i) = K (gw_sL (gw_sL R 22 (40 * u + 10 * i) (pm_nb av m i)) 22 (40 * u + 10 * i + 1) (pm_mb k av mv m i)) 0 (nI u) (nI (3 + u)) (nI (i + 1)) := by
  have hk := hB.1
  obtain ⟨a0, m0⟩ := hB.2 i hi
  unfold mo_begin_b148 mo_begin_b185 mo_begin_b220 mo_begin_b253
  simp only [Nat.zero_add]
  rw [pu_gi (show 3 + u < 9 by omega) (by decide), nI_clamp (show 3 + u < 2 ^ 31 by omega), h.1, if_neg (nI_ge hi (by omega)), show (4 : Int32) * nI (3 + u) + nI i = nI (4 * (3 + u) + i) by rw [pu_lit 4, pk_mul, nI_add], pu_gi (show 4 * (3 + u) + i < 36 by omega) (by decide), nI_clamp (show 4 * (3 + u) + i < 2 ^ 31 by omega), pu_lt, (h.2 i hi).1, pu_rmain (by omega) hB h hi hm hM, pu_bd]
  have hs : ∀ x : Int64, qs_R (gw_sL R 22 (40 * u + 10 * i) x) (3 + u) k av mv := fun x => h
  simp only [show (40 : Int32) * nI u + (10 : Int32) * nI i = nI (40 * u + 10 * i) by rw [pu_lit 40, pu_lit 10, pk_mul, pk_mul, nI_add], show nI (40 * u + 10 * i) + (1 : Int32) = nI (40 * u + 10 * i + 1) from nI_1 _, pu_gi (show 40 * u + 10 * i < 200 by omega) (by decide), nI_clamp (show 40 * u + 10 * i < 2 ^ 31 by omega), pu_gi (show 40 * u + 10 * i + 1 < 200 by omega) (by decide), nI_clamp (show 40 * u + 10 * i + 1 < 2 ^ 31 by omega), pu_lt, pu_bd, pu_rmarks (show 3 + u < 9 by omega) hB (hs _) a0, nI_1, if_neg pu_10, if_true]
  unfold pm_nb pm_mb
  by_cases hmi : m = i
  · rw [if_pos (by rw [hmi]), if_pos hmi, if_pos hmi]
  · have hne : ¬ nI m = nI i := fun z => hmi ((nI_eq (by omega) (by omega)).mp z)
    rw [if_neg hne, if_neg hmi, if_neg hmi]
    rw [pu_rmain (by omega) hB h hi hm hM, pu_bd]

def qf_K (C : gw_M) (t k : Nat) (av mv : Nat → Nat) : Prop := ∀ i, i < k → (¬ ∃ m, m < i ∧ av m = av i) → C.2 (53 + 7 * t) (16 + 10 * i + 1) = (nI (pm_mk k av mv (av i))).toInt64
/-- of the running frame: sizes are true, behind them stands 0 -/
def qf_Z (C : gw_M) (t k : Nat) (av : Nat → Nat) : Prop := ∀ i, i < k → (¬ ∃ m, m < i ∧ av m = av i) → ∃ z : Nat, z ≤ 4 ∧ C.1 5 (av i) = nI z ∧ C.2 (53 + 7 * t) (16 + 10 * i + 4) = (nI z).toInt64 ∧ ∀ w, w < 4 → z ≤ w → C.2 (53 + 7 * t) (16 + 10 * i + 5 + w) = 0
theorem qf_Zof {C R C1 : gw_M} {t k : Nat} {av mv : Nat → Nat} (hB : qs_B k av mv) (ha : qa_R C R) (h5 : C1.1 5 = C.1 5) (h : ∀ j, j < k → (¬ ∃ m, m < j ∧ av m = av j) → ∀ y, 2 ≤ y → y < 9 → C1.2 (53 + 7 * t) (16 + 10 * j + y) = pm_vl C (av j) y) : qf_Z C1 t k av := by
  intro i hi hmain
  obtain ⟨a0, m0⟩ := hB.2 i hi
  obtain ⟨b, o, z, ⟨g1, g2, g3⟩, ⟨c1, c2⟩, ⟨c3, c4⟩, ⟨c5, c6⟩, c7⟩ := ha (av i) a0
  refine ⟨z, g3, by rw [h5]; exact c5, ?_, fun w hw hz => ?_⟩
  · rw [h i hi hmain 4 (by decide) (by decide), ← c5]
    rfl
  · rw [show 16 + 10 * i + 5 + w = 16 + 10 * i + (5 + w) by omega, h i hi hmain (5 + w) (by omega) (by omega)]
    unfold pm_vl
    rw [if_neg (by omega), if_neg (by omega), if_neg (by omega), show 5 + w - 5 = w by omega, (c7 w hw).2 hz]
    rfl
theorem qx_begL {t k : Nat} {av mv : Nat → Nat} (ht : t < 4) (hB : qs_B k av mv) : ∀ (d i f1 f2 : Nat) (C R : gw_M), i + d = k → d < f1 → d < f2 → qs_C C (49 + 7 * t) k av mv → qs_R R (4 + t) k av mv → qa_R C R → qf_M C R t → (∀ j, j < i → (C.2 (53 + 7 * t) (16 + 10 * j) < 0 ↔ ∃ m, m < j ∧ av m = av j)) → (∀ j, j < i → (¬ ∃ m, m < j ∧ av m = av j) → C.2 (53 + 7 * t) (16 + 10 * j + 1) = (nI (pm_mk k av mv (av j))).toInt64) → ∃ C1 R1 : gw_M, fr_begin_l65 f1 C (48 + 7 * t) 2 (nI i) = some ((), C1) ∧ mo_begin_l148 f2 R 0 (nI (t + 1)) (nI (3 + (t + 1))) (nI i) = some ((), R1) ∧ (C1.1 = C.1 ∧ (∀ a, a ≠ 53 + 7 * t → C1.2 a = C.2 a) ∧ ∀ x, x < 16 → C1.2 (53 + 7 * t) x = C.2 (53 + 7 * t) x) ∧ fl_R R R1 t ∧ qf_M C1 R1 t ∧ qf_N C1 t k av ∧ qf_K C1 t k av mv ∧ qf_Z C1 t k av := by
  intro d
  induction d with
  | zero =>
    intro i f1 f2 C R hi hf1 hf2 hC hR ha hM hN hK
    obtain ⟨f1, rfl⟩ : ∃ n, f1 = n + 1 := ⟨f1 - 1, by omega⟩
    obtain ⟨f2, rfl⟩ : ∃ n, f2 = n + 1 := ⟨f2 - 1, by omega⟩
    have hk := hB.1
    have hik : i = k := by omega
    subst hik
    obtain ⟨C1, R1, r1, r2, r3, r4, r5, r6, r7⟩ := qx_see ht hB i 0 2100 2100 C R (Nat.zero_add _) (by omega) (by omega) hC hR ha hM hN
    refine ⟨C1, R1, ?_, ?_, ⟨r3.1, r3.2.1, r3.2.2.1⟩, r4, r5, ?_, ?_, ?_⟩
    · show fr_begin_b65 (fr_begin_l65 f1) C (48 + 7 * t) 2 (nI i) = _
      unfold fr_begin_b65 fr_seeAccounts_b0
      rw [show 48 + 7 * t + 1 = 49 + 7 * t by omega, hC.1, if_pos (nI_le (Nat.le_refl _) (by omega)), show (0 : Int32) = nI 0 from rfl, r1, pu_bd]
    · show mo_begin_b148 (mo_begin_l148 f2) R 0 (nI (t + 1)) (nI (3 + (t + 1))) (nI i) = _
      unfold mo_begin_b148 mo_layOut_b0
      rw [pu_gi (show 3 + (t + 1) < 9 by omega) (by decide), nI_clamp (show 3 + (t + 1) < 2 ^ 31 by omega), Nat.zero_add, show 3 + (t + 1) = 4 + t by omega, hR.1, if_pos (nI_le (Nat.le_refl _) (by omega)), pu_lt, show (3 : Int32) + nI (t + 1) = nI (3 + (t + 1)) by rw [pu_lit 3, nI_add], show (0 : Int32) = nI 0 from rfl, r2, pu_bd]
    · intro j hj
      have := r3.2.2.2 j 0 (by decide)
      rw [Nat.add_zero] at this
      rw [this]
      exact hN j hj
    · intro j hj hm
      rw [r3.2.2.2 j 1 (by decide)]
      exact hK j hj hm
    · exact qf_Zof hB ha (by rw [r3.1]) (fun j hj hm => r6 j (Nat.zero_le _) hj hm)
  | succ d ih =>
    intro i f1 f2 C R hi hf1 hf2 hC hR ha hM hN hK
    obtain ⟨f1, rfl⟩ : ∃ n, f1 = n + 1 := ⟨f1 - 1, by omega⟩
    obtain ⟨f2, rfl⟩ : ∃ n, f2 = n + 1 := ⟨f2 - 1, by omega⟩
    have hk := hB.1
    obtain ⟨a0, m0⟩ := hB.2 i (by omega)
    obtain ⟨m, hm, hMm⟩ := qs_Mex av i
    have e1 := pu_beg1 (C := C) (o := 48 + 7 * t) (mv := mv) hB (by rw [show 48 + 7 * t + 1 = 49 + 7 * t by omega]; exact hC) (show i < k by omega) hm hMm (fr_begin_l65 f1)
    have e2 := pu_rbeg1 (R := R) (u := t + 1) (mv := mv) (by omega) hB (by rw [show 3 + (t + 1) = 4 + t by omega]; exact hR) (show i < k by omega) hm hMm (mo_begin_l148 f2)
    rw [show 48 + 7 * t + 5 = 53 + 7 * t by omega] at e1
    have u1 : fr_begin_l65 (f1 + 1) C (48 + 7 * t) 2 (nI i) = fr_begin_b65 (fr_begin_l65 f1) C (48 + 7 * t) 2 (nI i) := rfl
    have u2 : mo_begin_l148 (f2 + 1) R 0 (nI (t + 1)) (nI (3 + (t + 1))) (nI i) = mo_begin_b148 (mo_begin_l148 f2) R 0 (nI (t + 1)) (nI (3 + (t + 1))) (nI i) := rfl
    rw [u1, u2, e1, e2]
    have hmain : (∃ m2, m2 < i ∧ av m2 = av i) ↔ m ≠ i := by
      constructor
      · intro ⟨m2, h1, h2⟩ q
        exact hMm.2 m2 (by omega) h2
      · intro q
        exact ⟨m, by omega, hMm.1⟩
    obtain ⟨C1, R1, r1, r2, ⟨r3, r4, r5⟩, r6, r7, r8, r9, r10⟩ := ih (i + 1) f1 f2 (gw_sL (gw_sL C (53 + 7 * t) (16 + 10 * i) (pm_nb av m i)) (53 + 7 * t) (16 + 10 * i + 1) (pm_mb k av mv m i)) (gw_sL (gw_sL R 22 (40 * (t + 1) + 10 * i) (pm_nb av m i)) 22 (40 * (t + 1) + 10 * i + 1) (pm_mb k av mv m i)) (by omega) (by omega) (by omega) hC hR ha (by
        intro x hx
        by_cases h0 : x = 10 * i
        · subst h0
          simp (disch := omega) only [pu_q2, pu_q3]
        · by_cases h1 : x = 10 * i + 1
          · subst h1
            simp (disch := omega) only [pu_q2, pu_q3]
          · simp (disch := omega) only [pu_q3]
            exact hM x hx) (by
        intro j hj
        by_cases hji : j = i
        · subst hji
          rw [pu_q3 (by omega), pu_q2 rfl rfl, hmain]
          exact pm_nb_neg a0 (by omega)
        · rw [pu_q3 (by omega), pu_q3 (by omega)]
          exact hN j (by omega)) (by
        intro j hj hq
        by_cases hji : j = i
        · subst hji
          rw [pu_q2 rfl rfl]
          unfold pm_mb
          rw [if_pos]
          rw [hmain] at hq
          exact Classical.not_not.mp hq
        · rw [pu_q3 (by omega), pu_q3 (by omega)]
          exact hK j (by omega) hq)
    refine ⟨C1, R1, r1, r2, ⟨r3, fun a h1 => ?_, fun x hx => ?_⟩, ⟨r6.1, fun a h1 => ?_, fun x hx => ?_⟩, r7, r8, r9, r10⟩
    · rw [r4 a h1, pu_q1 h1, pu_q1 h1]
    · rw [r5 x hx, pu_q3 (by omega), pu_q3 (by omega)]
    · rw [r6.2.1 a h1, pu_q1 h1, pu_q1 h1]
    · rw [r6.2.2 x hx, pu_q3 (by omega), pu_q3 (by omega)]
