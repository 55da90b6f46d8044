/-! load -/
theorem pu_ib {c : Prop} [Decidable c] : ((if c then (1 : Int32) else 0) = 0) ↔ ¬ c := by
  by_cases h : c
  · rw [if_pos h]
    exact ⟨fun q => absurd q pu_10, fun q => absurd h q⟩
  · rw [if_neg h]
    exact ⟨fun _ => h, fun _ => rfl⟩
theorem pu_ladd {x y : Int64} (h1 : -(2 ^ 62) ≤ x.toInt + y.toInt) (h2 : x.toInt + y.toInt < 2 ^ 62) : (x + y).toInt = x.toInt + y.toInt := by
  rw [Int64.toInt_add]
  exact Int.bmod_eq_of_le (by omega) (by omega)
theorem pu_lsub {x y : Int64} (h1 : -(2 ^ 62) ≤ x.toInt - y.toInt) (h2 : x.toInt - y.toInt < 2 ^ 62) : (x - y).toInt = x.toInt - y.toInt := by
  rw [Int64.toInt_sub]
  exact Int.bmod_eq_of_le (by omega) (by omega)
theorem pu_rng (x : Int32) : -(2 ^ 31) ≤ x.toInt ∧ x.toInt < 2 ^ 31 := ⟨x.le_toInt, x.toInt_lt⟩
def pm_bad (k f : Int) (i n : Nat) : Bool := decide ((10 ≤ k ∧ k ≤ 13 ∧ ¬ (0 ≤ (i : Int) + 1 + f ∧ (i : Int) + 1 + f < n)) ∨ (k ≠ 10 ∧ k ≠ 15 ∧ ¬ (i + 1 < n)))
/-- what load says of an instruction (its parts) at place i of n -/
def pm_rsn (k d s f x : Int32) (i n : Nat) : Int32 :=
  if ¬ (0 ≤ k.toInt ∧ k.toInt ≤ 15) ∨ ¬ (0 ≤ d.toInt ∧ d.toInt ≤ 9) ∨ ¬ (0 ≤ s.toInt ∧ s.toInt ≤ 9) then 2
  else if pm_bad k.toInt f.toInt i n = true then 3
  else if (k.toInt = 6 ∧ x.toInt = 0) ∨ (k.toInt = 7 ∧ ¬ (0 ≤ x.toInt ∧ x.toInt ≤ 63)) then 4
  else if k.toInt = 14 ∧ ¬ (0 ≤ x.toInt ∧ x.toInt ≤ 3) then 5 else 0
theorem pu_isRegister (M : gw_M) (v : Int32) : pr_isRegister_b0 M v = some (if 0 ≤ v.toInt ∧ v.toInt ≤ 9 then 1 else 0, M) := by
  unfold pr_isRegister_b0
  simp only [pu_iLe, pu_iLt, pu_T0, pu_T10]
  split
  · rw [if_neg (by omega)]
  · split
    · rw [if_neg (by omega)]
    · rw [if_pos (by omega)]
theorem pu_isPlace (M : gw_M) (o : Nat) (v : Int64) : pr_isPlace_b0 M o v = some (if 0 ≤ v.toInt ∧ v.toInt < (M.1 o 5).toInt then 1 else 0, M) := by
  unfold pr_isPlace_b0
  simp only [pu_cl, pu_cge, pu_lLt, pu_lLe, pu_il, pu_L0]
  split
  · rw [if_neg (by omega)]
  · split
    · rw [if_neg (by omega)]
    · rw [if_pos (by omega)]
theorem pu_goes (M : gw_M) (o i n : Nat) (hi : i < n) (hn : n ≤ 32) (h : M.1 o 5 = nI n) : pr_goesOnInside_b0 M o (nI i) = some (if pm_bad (M.1 (o + 1) i).toInt (M.1 (o + 4) i).toInt i n = true then 0 else 1, M) := by
  have hr := pu_rng (M.1 (o + 4) i)
  have e1 : ((nI i).toInt64 + 1).toInt = (i : Int) + 1 := by
    rw [pu_ladd, pu_il, nI_toInt (by omega), pu_tL 1 (by decide)]
    · rfl
    · rw [pu_il, nI_toInt (by omega), pu_tL 1 (by decide)]; omega
    · rw [pu_il, nI_toInt (by omega), pu_tL 1 (by decide)]; omega
  have e2 : ((nI i).toInt64 + 1 + (M.1 (o + 4) i).toInt64).toInt = (i : Int) + 1 + (M.1 (o + 4) i).toInt := by
    rw [pu_ladd, e1, pu_il]
    · rw [e1, pu_il]; omega
    · rw [e1, pu_il]; omega
  unfold pr_goesOnInside_b0 pr_goesOnInside_b23 pr_goesOnInside_b24 pr_goesOnInside_b41 pr_goesOnInside_b42 pr_goesOnInside_b67 pr_goesOnInside_b83
  simp only [pu_gi (show i < 32 by omega) (by decide), nI_clamp (show i < 2 ^ 31 by omega), pu_lt, pu_isPlace, pu_bd, e1, e2, h, nI_toInt (show n < 2 ^ 31 by omega), pu_ib]
  generalize M.1 (o + 1) i = k
  generalize (M.1 (o + 4) i).toInt = f at hr ⊢
  simp only [pu_iLt, pu_iEq, pu_T0, pu_T1, pu_T10, pu_T13, pu_T15]
  generalize k.toInt = kk
  clear e1 e2 h
  simp only [pm_bad, decide_eq_true_eq, if_true, if_false]
  (repeat' split) <;> first | rfl | (exfalso; omega)
theorem pu_reasonAt (M : gw_M) (o i n : Nat) (hi : i < n) (hn : n ≤ 32) (h : M.1 o 5 = nI n) : pr_reasonAt_b0 M o (nI i) = some (pm_rsn (M.1 (o + 1) i) (M.1 (o + 2) i) (M.1 (o + 3) i) (M.1 (o + 4) i) (M.1 (o + 5) i) i n, M) := by
  unfold pr_reasonAt_b0 pr_reasonAt_b70 pr_reasonAt_b88 pr_reasonAt_b106 pm_rsn
  simp only [pu_gi (show i < 32 by omega) (by decide), nI_clamp (show i < 2 ^ 31 by omega), pu_lt, pu_isRegister, pu_goes M o i n hi hn h, pu_bd, pu_ib]
  generalize M.1 (o + 1) i = k
  generalize M.1 (o + 2) i = d
  generalize M.1 (o + 3) i = s
  generalize (M.1 (o + 4) i).toInt = f
  generalize M.1 (o + 5) i = x
  generalize pm_bad k.toInt f i n = g
  clear h
  cases g
  · simp only [Bool.false_eq_true, if_true, if_false, pu_iLt, pu_iLe, pu_iEq, pu_T0, pu_T1, pu_T4, pu_T6, pu_T7, pu_T14, pu_T15, pu_T63, if_neg (show ¬ ((1 : Int) = 0) by decide)]
    generalize k.toInt = kk
    generalize d.toInt = dd
    generalize s.toInt = ss
    generalize x.toInt = xx
    by_cases a1 : kk < 0
    · rw [if_pos a1, if_pos (by omega)]
    rw [if_neg a1]
    by_cases a2 : 15 < kk
    · rw [if_pos a2, if_pos (by omega)]
    rw [if_neg a2]
    by_cases a3 : ¬ (0 ≤ dd ∧ dd ≤ 9)
    · rw [if_pos a3, if_pos (by omega)]
    rw [if_neg a3]
    by_cases a4 : ¬ (0 ≤ ss ∧ ss ≤ 9)
    · rw [if_pos a4, if_pos (by omega)]
    rw [if_neg a4, if_neg (show ¬ (¬ (0 ≤ kk ∧ kk ≤ 15) ∨ ¬ (0 ≤ dd ∧ dd ≤ 9) ∨ ¬ (0 ≤ ss ∧ ss ≤ 9)) by omega)]
    (repeat' split) <;> first | rfl | contradiction | (exfalso; omega)
  · simp only [if_true, if_false, pu_iLt, pu_iLe, pu_iEq, pu_T0, pu_T1, pu_T4, pu_T6, pu_T7, pu_T14, pu_T15, pu_T63]
    generalize k.toInt = kk
    generalize d.toInt = dd
    generalize s.toInt = ss
    generalize x.toInt = xx
    (repeat' split) <;> first | rfl | (exfalso; omega)
/-- the first place that load refuses, from i on over d places -/
def pm_chk (rs : Nat → Int32) : Nat → Nat → Int32
  | 0, _ => 0
  | d + 1, i => if rs i = 0 then pm_chk rs d (i + 1) else (100 : Int32) * nI i + rs i
theorem pm_chk_s {rs : Nat → Int32} {d i : Nat} : pm_chk rs (d + 1) i = if rs i = 0 then pm_chk rs d (i + 1) else (100 : Int32) * nI i + rs i := rfl
theorem pm_chk_0 {rs : Nat → Int32} : ∀ (d i : Nat), (∀ j, i ≤ j → j < i + d → rs j = 0) → pm_chk rs d i = 0 := by
  intro d
  induction d with
  | zero => intro i _; rfl
  | succ d ih =>
    intro i h
    unfold pm_chk
    rw [if_pos (h i (Nat.le_refl _) (by omega))]
    exact ih (i + 1) (fun j h1 h2 => h j (by omega) (by omega))
theorem pm_rsn_small (k d s f x : Int32) (i n : Nat) : ∃ r : Nat, r < 6 ∧ pm_rsn k d s f x i n = nI r := by
  unfold pm_rsn
  (repeat' split)
  · exact ⟨2, by decide, rfl⟩
  · exact ⟨3, by decide, rfl⟩
  · exact ⟨4, by decide, rfl⟩
  · exact ⟨5, by decide, rfl⟩
  · exact ⟨0, by decide, rfl⟩
theorem pm_chk_1 {rs : Nat → Int32} (hr : ∀ j, ∃ r : Nat, r < 6 ∧ rs j = nI r) : ∀ (d i : Nat), i + d ≤ 32 → pm_chk rs d i = 0 → ∀ j, i ≤ j → j < i + d → rs j = 0 := by
  intro d
  induction d with
  | zero => intro i _ _ j h1 h2; omega
  | succ d ih =>
    intro i hid h j h1 h2
    unfold pm_chk at h
    by_cases h0 : rs i = 0
    · rw [if_pos h0] at h
      by_cases hji : j = i
      · rw [hji]; exact h0
      · exact ih (i + 1) (by omega) h j (by omega) (by omega)
    · exfalso
      rw [if_neg h0] at h
      obtain ⟨r, hr1, hr2⟩ := hr i
      rw [hr2] at h h0
      rw [pu_lit 100, pk_mul, nI_add, pu_lit 0, nI_eq (by omega) (by decide)] at h
      have : r = 0 := by omega
      subst this
      exact h0 rfl
theorem pu_check {M : gw_M} {o n : Nat} (hn : n ≤ 32) (h : M.1 o 5 = nI n) {rs : Nat → Int32} (hrs : ∀ i, i < n → pr_reasonAt_b0 M o (nI i) = some (rs i, M)) : ∀ (f d i : Nat), i + d = n → d < f → ((∀ j, i ≤ j → j < n → rs j = 0) → pr_check_l11 f M o (nI i) = some (0, gw_sI M o 6 1)) ∧ ((¬ ∀ j, i ≤ j → j < n → rs j = 0) → pr_check_l11 f M o (nI i) = some (pm_chk rs d i, M)) := by
  intro f
  induction f with
  | zero => intro d i _ h2; omega
  | succ f ih =>
    intro d i hid hdf
    have hu : pr_check_l11 (f + 1) M o (nI i) = pr_check_b11 (pr_check_l11 f) M o (nI i) := rfl
    rw [hu]
    unfold pr_check_b11
    rw [h]
    cases d with
    | zero =>
      have hin : i = n := by omega
      subst hin
      rw [if_pos (nI_le (Nat.le_refl _) (by omega)), pu_lt]
      exact ⟨fun _ => rfl, fun hq => absurd (fun j h1 h2 => by omega) hq⟩
    | succ d =>
      rw [if_neg (nI_ge (by omega) (by omega)), hrs i (by omega), pu_bd]
      obtain ⟨ih1, ih2⟩ := ih d (i + 1) (by omega) (by omega)
      have e1 : nI i + 1 = nI (i + 1) := nI_1 i
      by_cases h0 : rs i = 0
      · rw [if_pos h0, e1]
        refine ⟨fun hq => ih1 (fun j h1 h2 => hq j (by omega) h2), fun hq => ?_⟩
        rw [ih2 (fun hq2 => hq (fun j h1 h2 => ?_))]
        · rw [pm_chk_s, if_pos h0]
        · by_cases hji : j = i
          · rw [hji]; exact h0
          · exact hq2 j (by omega) h2
      · rw [if_neg h0]
        refine ⟨fun hq => absurd (hq i (Nat.le_refl _) (by omega)) h0, fun _ => ?_⟩
        rw [pm_chk_s, if_neg h0]
/-- the reference's reason -/
theorem pu_reason (R : gw_M) (p i n : Nat) (hp : p < 3) (hi : i < n) (hn : n ≤ 32) (h : R.1 5 p = nI n) : mo_reason_b0 R 0 (nI (p + 1)) (nI i) = some (pm_rsn (R.1 7 (32 * p + i)) (R.1 8 (32 * p + i)) (R.1 9 (32 * p + i)) (R.1 10 (32 * p + i)) (R.1 11 (32 * p + i)) i n, R) := by
  have hr := pu_rng (R.1 10 (32 * p + i))
  have e1 : ((nI i).toInt64 + 1).toInt = (i : Int) + 1 := by
    rw [pu_ladd, pu_il, nI_toInt (by omega), pu_L1]
    · rw [pu_il, nI_toInt (by omega), pu_L1]; omega
    · rw [pu_il, nI_toInt (by omega), pu_L1]; omega
  have e2 : ((nI i).toInt64 + 1 + (R.1 10 (32 * p + i)).toInt64).toInt = (i : Int) + 1 + (R.1 10 (32 * p + i)).toInt := by
    rw [pu_ladd, e1, pu_il]
    · rw [e1, pu_il]; omega
    · rw [e1, pu_il]; omega
  have e3 : ((nI n).toInt64 - 1).toInt = (n : Int) - 1 := by
    rw [pu_lsub, pu_il, nI_toInt (by omega), pu_L1]
    · rw [pu_il, nI_toInt (by omega), pu_L1]; omega
    · rw [pu_il, nI_toInt (by omega), pu_L1]; omega
  have e4 : (nI i + 1) = nI (i + 1) := nI_1 i
  unfold mo_reason_b0 mo_reason_b98 mo_reason_b99 mo_reason_b120 mo_reason_b157 mo_reason_b173 mo_reason_b199 pm_rsn
  simp only [nI_pred, pu_lt, pu_lit 32, pk_mul, nI_add, pu_gi (show 32 * p + i < 96 by omega) (by decide), nI_clamp (show 32 * p + i < 2 ^ 31 by omega), pu_gi (show p < 3 from hp) (by decide), nI_clamp (show p < 2 ^ 31 by omega), Nat.zero_add, pu_moin, pu_bd, h, e1, e2, e3, e4, pu_il, pu_ib, pu_L0, pu_L3, pu_L9, pu_L10, pu_L13, pu_L15, pu_L63]
  clear e1 e2 e3 e4 h
  generalize R.1 7 (32 * p + i) = k
  generalize R.1 8 (32 * p + i) = d
  generalize R.1 9 (32 * p + i) = s
  generalize (R.1 10 (32 * p + i)).toInt = f at hr ⊢
  generalize R.1 11 (32 * p + i) = x
  simp only [pm_bad, decide_eq_true_eq, if_true, if_false, if_neg pu_10, pu_iLe, nI_toInt (show n < 2 ^ 31 by omega), nI_toInt (show i + 1 < 2 ^ 31 by omega), pu_iEq, pu_T0, pu_T6, pu_T7, pu_T10, pu_T14, pu_T15]
  generalize k.toInt = kk
  generalize d.toInt = dd
  generalize s.toInt = ss
  generalize x.toInt = xx
  by_cases a1 : ¬ (0 ≤ kk ∧ kk ≤ 15)
  · rw [if_pos a1, if_pos (Or.inl a1)]
  rw [if_neg a1]
  by_cases a2 : ¬ (0 ≤ dd ∧ dd ≤ 9)
  · rw [if_pos a2, if_pos (Or.inr (Or.inl a2))]
  rw [if_neg a2]
  by_cases a3 : ¬ (0 ≤ ss ∧ ss ≤ 9)
  · rw [if_pos a3, if_pos (Or.inr (Or.inr a3))]
  rw [if_neg a3, if_neg (show ¬ (¬ (0 ≤ kk ∧ kk ≤ 15) ∨ ¬ (0 ≤ dd ∧ dd ≤ 9) ∨ ¬ (0 ≤ ss ∧ ss ≤ 9)) by omega)]
  have hk : kk = 0 ∨ kk = 1 ∨ kk = 2 ∨ kk = 3 ∨ kk = 4 ∨ kk = 5 ∨ kk = 6 ∨ kk = 7 ∨ kk = 8 ∨ kk = 9 ∨ kk = 10 ∨ kk = 11 ∨ kk = 12 ∨ kk = 13 ∨ kk = 14 ∨ kk = 15 := by omega
  by_cases b1 : (i : Int) + 1 < n
  · by_cases b2 : 0 ≤ (i : Int) + 1 + f ∧ (i : Int) + 1 + f < n
    · have b3 : 0 ≤ (i : Int) + 1 + f ∧ (i : Int) + 1 + f ≤ (n : Int) - 1 := by omega
      have b4 : ¬ (n : Int) ≤ ((i + 1 : Nat) : Int) := by omega
      have b5 : i + 1 < n := by omega
      simp only [b2, b3, b4, b5, if_true, if_false, and_true, true_and, not_true, not_false_iff, and_false, false_and, or_false, false_or, ite_self]
      rcases hk with rfl | rfl | rfl | rfl | rfl | rfl | rfl | rfl | rfl | rfl | rfl | rfl | rfl | rfl | rfl | rfl <;> simp <;> (repeat' split) <;> first | rfl | contradiction | (exfalso; omega) | omega
    · have b3 : ¬ (0 ≤ (i : Int) + 1 + f ∧ (i : Int) + 1 + f ≤ (n : Int) - 1) := by omega
      have b4 : ¬ (n : Int) ≤ ((i + 1 : Nat) : Int) := by omega
      have b5 : i + 1 < n := by omega
      simp only [b2, b3, b4, b5, if_true, if_false, and_true, true_and, not_true, not_false_iff, and_false, false_and, or_false, false_or, ite_self]
      rcases hk with rfl | rfl | rfl | rfl | rfl | rfl | rfl | rfl | rfl | rfl | rfl | rfl | rfl | rfl | rfl | rfl <;> simp <;> (repeat' split) <;> first | rfl | contradiction | (exfalso; omega) | omega
  · by_cases b2 : 0 ≤ (i : Int) + 1 + f ∧ (i : Int) + 1 + f < n
    · have b3 : 0 ≤ (i : Int) + 1 + f ∧ (i : Int) + 1 + f ≤ (n : Int) - 1 := by omega
      have b4 : (n : Int) ≤ ((i + 1 : Nat) : Int) := by omega
      have b5 : ¬ i + 1 < n := by omega
      simp only [b2, b3, b4, b5, if_true, if_false, and_true, true_and, not_true, not_false_iff, and_false, false_and, or_false, false_or, ite_self]
      rcases hk with rfl | rfl | rfl | rfl | rfl | rfl | rfl | rfl | rfl | rfl | rfl | rfl | rfl | rfl | rfl | rfl <;> simp <;> (repeat' split) <;> first | rfl | contradiction | (exfalso; omega) | omega
    · have b3 : ¬ (0 ≤ (i : Int) + 1 + f ∧ (i : Int) + 1 + f ≤ (n : Int) - 1) := by omega
      have b4 : (n : Int) ≤ ((i + 1 : Nat) : Int) := by omega
      have b5 : ¬ i + 1 < n := by omega
      simp only [b2, b3, b4, b5, if_true, if_false, and_true, true_and, not_true, not_false_iff, and_false, false_and, or_false, false_or, ite_self]
      rcases hk with rfl | rfl | rfl | rfl | rfl | rfl | rfl | rfl | rfl | rfl | rfl | rfl | rfl | rfl | rfl | rfl <;> simp <;> (repeat' split) <;> first | rfl | contradiction | (exfalso; omega) | omega
