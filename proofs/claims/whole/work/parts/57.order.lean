/-! Orders: marks, main slots, rights. -/
/-- an order's slots: k of them, accounts av, marks mv -/
def qs_B (k : Nat) (av mv : Nat → Nat) : Prop := k ≤ 4 ∧ ∀ j, j < k → av j < 8 ∧ mv j < 4
def qs_C (C : gw_M) (co k : Nat) (av mv : Nat → Nat) : Prop := C.1 co 2 = nI k ∧ ∀ j, j < k → C.1 (co + 1) j = nI (av j) ∧ C.1 (co + 2) j = nI (mv j)
def qs_R (R : gw_M) (q k : Nat) (av mv : Nat → Nat) : Prop := R.1 14 q = nI k ∧ ∀ j, j < k → R.1 15 (4 * q + j) = nI (av j) ∧ R.1 16 (4 * q + j) = nI (mv j)
theorem qs_of {C R : gw_M} {co q : Nat} (h : qo_R1 C R co q) : ∃ (k : Nat) (av mv : Nat → Nat), qs_B k av mv ∧ qs_C C co k av mv ∧ qs_R R q k av mv := by
  obtain ⟨_, _, k, hk, h1, h2, h3⟩ := h
  refine ⟨k, fun j => (C.1 (co + 1) j).toNatClampNeg, fun j => (C.1 (co + 2) j).toNatClampNeg, ⟨hk, fun j hj => ?_⟩, ⟨h1, fun j hj => ?_⟩, h2, fun j hj => ?_⟩
  · obtain ⟨a, m, ⟨g1, g2⟩, ⟨g3, g4⟩, g5, g6⟩ := h3 j hj
    show (C.1 (co + 1) j).toNatClampNeg < 8 ∧ (C.1 (co + 2) j).toNatClampNeg < 4
    rw [g3, g5, nI_clamp (by omega), nI_clamp (by omega)]
    exact ⟨g1, g2⟩
  · obtain ⟨a, m, ⟨g1, g2⟩, ⟨g3, g4⟩, g5, g6⟩ := h3 j hj
    show C.1 (co + 1) j = nI (C.1 (co + 1) j).toNatClampNeg ∧ C.1 (co + 2) j = nI (C.1 (co + 2) j).toNatClampNeg
    rw [g3, g5, nI_clamp (by omega), nI_clamp (by omega)]
    exact ⟨rfl, rfl⟩
  · obtain ⟨a, m, ⟨g1, g2⟩, ⟨g3, g4⟩, g5, g6⟩ := h3 j hj
    show R.1 15 (4 * q + j) = nI (C.1 (co + 1) j).toNatClampNeg ∧ R.1 16 (4 * q + j) = nI (C.1 (co + 2) j).toNatClampNeg
    rw [g3, g5, nI_clamp (by omega), nI_clamp (by omega)]
    exact ⟨g4, g6⟩
theorem pu_or4 : ∀ a, a < 4 → ∀ b, b < 4 → nI a ||| nI b = nI (a ||| b) ∧ (a ||| b) < 4 := by decide
def pm_mks (av mv : Nat → Nat) (a : Nat) : Nat → Nat → Nat → Nat
  | 0, _, x => x
  | d + 1, j, x => pm_mks av mv a d (j + 1) (if av j = a then x ||| mv j else x)
theorem pm_mks_lt {k : Nat} {av mv : Nat → Nat} (hB : qs_B k av mv) {a : Nat} : ∀ (d j x : Nat), j + d ≤ k → x < 4 → pm_mks av mv a d j x < 4 := by
  intro d
  induction d with
  | zero => intro j x _ hx; exact hx
  | succ d ih =>
    intro j x hj hx
    show pm_mks av mv a d (j + 1) (if av j = a then x ||| mv j else x) < 4
    refine ih (j + 1) _ (by omega) ?_
    by_cases h : av j = a
    · rw [if_pos h]; exact (pu_or4 x hx _ (hB.2 j (by omega)).2).2
    · rw [if_neg h]; exact hx
/-- the marks of an account in an order -/
def pm_mk (k : Nat) (av mv : Nat → Nat) (a : Nat) : Nat := pm_mks av mv a k 0 0
theorem pm_mk_lt {k : Nat} {av mv : Nat → Nat} (hB : qs_B k av mv) (a : Nat) : pm_mk k av mv a < 4 := pm_mks_lt hB k 0 0 (by omega) (by decide)
theorem pu_marksL {C : gw_M} {co k : Nat} {av mv : Nat → Nat} (hB : qs_B k av mv) (h : qs_C C co k av mv) {a : Nat} (ha : a < 8) : ∀ (d f j x : Nat), j + d = k → d < f → x < 4 → od_marksOf_l4 f C co (nI a) (nI x) (nI j) = some (nI (pm_mks av mv a d j x), C) := by
  intro d
  induction d with
  | zero =>
    intro f j x hj hf hx
    obtain ⟨f, rfl⟩ : ∃ g, f = g + 1 := ⟨f - 1, by omega⟩
    show od_marksOf_b4 (od_marksOf_l4 f) C co (nI a) (nI x) (nI j) = _
    unfold od_marksOf_b4
    rw [h.1, if_pos (nI_le (by omega) (by have := hB.1; omega))]
    rfl
  | succ d ih =>
    intro f j x hj hf hx
    obtain ⟨f, rfl⟩ : ∃ g, f = g + 1 := ⟨f - 1, by omega⟩
    show od_marksOf_b4 (od_marksOf_l4 f) C co (nI a) (nI x) (nI j) = some (nI (pm_mks av mv a d (j + 1) (if av j = a then x ||| mv j else x)), C)
    have hk := hB.1
    obtain ⟨e1, e2⟩ := h.2 j (by omega)
    obtain ⟨b1, b2⟩ := hB.2 j (by omega)
    unfold od_marksOf_b4 od_marksOf_b31
    rw [h.1, if_neg (nI_ge (by omega) (by omega)), pu_gi (show j < 4 by omega) (by decide), nI_clamp (by omega), e1, e2, pu_gi (show j < 4 by omega) (by decide), pu_lt, (pu_or4 x hx _ b2).1, nI_1]
    by_cases hq : av j = a
    · rw [if_pos (by rw [hq]), if_pos hq]
      exact ih f (j + 1) _ (by omega) (by omega) (pu_or4 x hx _ b2).2
    · rw [if_neg (fun z => hq ((nI_eq (by omega) (by omega)).mp z)), if_neg hq]
      exact ih f (j + 1) _ (by omega) (by omega) hx
theorem pu_marks {C : gw_M} {co k : Nat} {av mv : Nat → Nat} (hB : qs_B k av mv) (h : qs_C C co k av mv) {a : Nat} (ha : a < 8) : od_marksOf_b0 C co (nI a) = some (nI (pm_mk k av mv a), C) := pu_marksL hB h ha k 2100 0 0 (Nat.zero_add _) (by have := hB.1; omega) (by decide)
theorem pu_rmarksL {R : gw_M} {q k : Nat} {av mv : Nat → Nat} (hq : q < 9) (hB : qs_B k av mv) (h : qs_R R q k av mv) {a : Nat} (ha : a < 8) : ∀ (d f j x : Nat), j + d = k → d < f → x < 4 → mo_marksOf_l5 f R 0 (nI q) (nI a) (nI x) (nI j) = some (nI (pm_mks av mv a d j x), R) := by
  intro d
  induction d with
  | zero =>
    intro f j x hj hf hx
    obtain ⟨f, rfl⟩ : ∃ g, f = g + 1 := ⟨f - 1, by omega⟩
    show mo_marksOf_b5 (mo_marksOf_l5 f) R 0 (nI q) (nI a) (nI x) (nI j) = _
    unfold mo_marksOf_b5
    rw [pu_gi hq (by decide), nI_clamp (by omega), Nat.zero_add, h.1, if_pos (nI_le (by omega) (by have := hB.1; omega))]
    rfl
  | succ d ih =>
    intro f j x hj hf hx
    obtain ⟨f, rfl⟩ : ∃ g, f = g + 1 := ⟨f - 1, by omega⟩
    show mo_marksOf_b5 (mo_marksOf_l5 f) R 0 (nI q) (nI a) (nI x) (nI j) = some (nI (pm_mks av mv a d (j + 1) (if av j = a then x ||| mv j else x)), R)
    have hk := hB.1
    obtain ⟨e1, e2⟩ := h.2 j (by omega)
    obtain ⟨b1, b2⟩ := hB.2 j (by omega)
    unfold mo_marksOf_b5 mo_marksOf_b48
    simp only [Nat.zero_add, pu_lit 4, pk_mul, nI_add, pu_gi (show q < 9 from hq) (by decide), nI_clamp (show q < 2 ^ 31 by omega), pu_gi (show 4 * q + j < 36 by omega) (by decide), nI_clamp (show 4 * q + j < 2 ^ 31 by omega), h.1, e1, e2]
    rw [if_neg (nI_ge (by omega) (by omega)), (pu_or4 x hx _ b2).1, nI_1]
    by_cases hq2 : av j = a
    · rw [if_pos (by rw [hq2]), if_pos hq2]
      exact ih f (j + 1) _ (by omega) (by omega) (pu_or4 x hx _ b2).2
    · rw [if_neg (fun z => hq2 ((nI_eq (by omega) (by omega)).mp z)), if_neg hq2]
      exact ih f (j + 1) _ (by omega) (by omega) hx
theorem pu_rmarks {R : gw_M} {q k : Nat} {av mv : Nat → Nat} (hq : q < 9) (hB : qs_B k av mv) (h : qs_R R q k av mv) {a : Nat} (ha : a < 8) : mo_marksOf_b0 R 0 (nI q) (nI a) = some (nI (pm_mk k av mv a), R) := pu_rmarksL hq hB h ha k 2100 0 0 (Nat.zero_add _) (by have := hB.1; omega) (by decide)
theorem pu_signed {R : gw_M} {q k : Nat} {av mv : Nat → Nat} (hq : q < 9) (hB : qs_B k av mv) (h : qs_R R q k av mv) {a : Nat} (ha : a < 8) : mo_signed_b0 R 0 (nI q) (nI a) = some (if pm_mk k av mv a % 2 = 1 then 1 else 0, R) := by
  unfold mo_signed_b0
  rw [pu_rmarks hq hB h ha, pu_bd]
  have hm := pm_mk_lt hB a
  have key : ∀ m, m < 4 → ((nI m &&& (1 : Int32)) = 1 ↔ m % 2 = 1) := by decide
  by_cases h1 : pm_mk k av mv a % 2 = 1
  · rw [if_pos h1, if_pos ((key _ hm).mpr h1)]
  · rw [if_neg h1, if_neg (fun z => h1 ((key _ hm).mp z))]
theorem pu_writable {R : gw_M} {q k : Nat} {av mv : Nat → Nat} (hq : q < 9) (hB : qs_B k av mv) (h : qs_R R q k av mv) {a : Nat} (ha : a < 8) : mo_writable_b0 R 0 (nI q) (nI a) = some (if 2 ≤ pm_mk k av mv a then 1 else 0, R) := by
  unfold mo_writable_b0
  rw [pu_rmarks hq hB h ha, pu_bd]
  have hm := pm_mk_lt hB a
  have key : ∀ m, m < 4 → (nI m ≤ (1 : Int32) ↔ ¬ 2 ≤ m) := by decide
  by_cases h1 : 2 ≤ pm_mk k av mv a
  · rw [if_pos h1, if_neg (fun z => (key _ hm).mp z h1)]
  · rw [if_neg h1, if_pos ((key _ hm).mpr h1)]
/-- the main slot of an account: the first slot that has it -/
def qs_M (av : Nat → Nat) (a m : Nat) : Prop := av m = a ∧ ∀ j, j < m → av j ≠ a
theorem qs_Mex (av : Nat → Nat) (i : Nat) : ∃ m, m ≤ i ∧ qs_M av (av i) m := by
  obtain ⟨m, h1, h2⟩ := pk_least (fun m => av m = av i) ⟨i, rfl⟩
  refine ⟨m, ?_, h1, h2⟩
  rcases Nat.lt_or_ge i m with h | h
  · exact absurd rfl (h2 i h)
  · exact h
theorem pu_mainL {C : gw_M} {co k : Nat} {av mv : Nat → Nat} (hB : qs_B k av mv) (h : qs_C C co k av mv) {a m : Nat} (ha : a < 8) (hm : m < k) (hM : qs_M av a m) : ∀ (d f j : Nat), j + d = m → d < f → od_mainSlotOf_l2 f C co (nI a) (nI j) = some (nI m, C) := by
  have hk := hB.1
  intro d
  induction d with
  | zero =>
    intro f j hj hf
    obtain ⟨f, rfl⟩ : ∃ g, f = g + 1 := ⟨f - 1, by omega⟩
    show od_mainSlotOf_b2 (od_mainSlotOf_l2 f) C co (nI a) (nI j) = _
    have hjm : j = m := by omega
    subst hjm
    unfold od_mainSlotOf_b2
    rw [h.1, if_neg (nI_ge hm (by omega)), pu_gi (show j < 4 by omega) (by decide), nI_clamp (by omega), (h.2 j hm).1, hM.1, if_pos rfl]
  | succ d ih =>
    intro f j hj hf
    obtain ⟨f, rfl⟩ : ∃ g, f = g + 1 := ⟨f - 1, by omega⟩
    show od_mainSlotOf_b2 (od_mainSlotOf_l2 f) C co (nI a) (nI j) = _
    have b1 := (hB.2 j (by omega)).1
    unfold od_mainSlotOf_b2
    rw [h.1, if_neg (nI_ge (show j < k by omega) (by omega)), pu_gi (show j < 4 by omega) (by decide), nI_clamp (by omega), (h.2 j (by omega)).1, if_neg (fun z => hM.2 j (by omega) ((nI_eq (by omega) (by omega)).mp z)), nI_1]
    exact ih f (j + 1) (by omega) (by omega)
theorem pu_main {C : gw_M} {co k : Nat} {av mv : Nat → Nat} (hB : qs_B k av mv) (h : qs_C C co k av mv) {a m : Nat} (ha : a < 8) (hm : m < k) (hM : qs_M av a m) : od_mainSlotOf_b0 C co (nI a) = some (nI m, C) := pu_mainL hB h ha hm hM m 2100 0 (Nat.zero_add _) (by have := hB.1; omega)
theorem pu_rmainL {R : gw_M} {q k : Nat} {av mv : Nat → Nat} (hq : q < 9) (hB : qs_B k av mv) (h : qs_R R q k av mv) {i m : Nat} (hi : i < k) (hmi : m ≤ i) (hM : qs_M av (av i) m) : ∀ (j f x : Nat), j ≤ i + 1 → j < f → (j ≤ m → x = m) → mo_mainOf_l5 f R 0 (nI q) (nI i) (nI x) (nI j - 1) = some (nI m, R) := by
  have hk := hB.1
  intro j
  induction j with
  | zero =>
    intro f x _ hf hx
    obtain ⟨f, rfl⟩ : ∃ g, f = g + 1 := ⟨f - 1, by omega⟩
    show mo_mainOf_b5 (mo_mainOf_l5 f) R 0 (nI q) (nI i) (nI x) (nI 0 - 1) = _
    unfold mo_mainOf_b5
    rw [if_pos (show nI 0 - 1 < 0 by decide), hx (Nat.zero_le _)]
  | succ j ih =>
    intro f x hj hf hx
    obtain ⟨f, rfl⟩ : ∃ g, f = g + 1 := ⟨f - 1, by omega⟩
    show mo_mainOf_b5 (mo_mainOf_l5 f) R 0 (nI q) (nI i) (nI x) (nI (j + 1) - 1) = _
    have b1 := (hB.2 j (by omega)).1
    have b2 := (hB.2 i hi).1
    have e1 : nI j + (-1) = nI j - 1 := by rw [Int32.sub_eq_add_neg]
    unfold mo_mainOf_b5 mo_mainOf_b40
    simp only [nI_pred, Nat.zero_add, pu_lit 4, pk_mul, nI_add, pu_gi (show 4 * q + j < 36 by omega) (by decide), nI_clamp (show 4 * q + j < 2 ^ 31 by omega), pu_gi (show 4 * q + i < 36 by omega) (by decide), nI_clamp (show 4 * q + i < 2 ^ 31 by omega), (h.2 j (by omega)).1, (h.2 i hi).1, e1]
    rw [if_neg (nI_pos (by omega))]
    by_cases hjj : av j = av i
    · rw [if_pos (by rw [hjj])]
      refine ih f j (by omega) (by omega) (fun hjm => ?_)
      rcases Nat.lt_or_ge j m with h1 | h1
      · exact absurd hjj (hM.2 j h1)
      · omega
    · rw [if_neg (fun z => hjj ((nI_eq (by omega) (by omega)).mp z))]
      refine ih f x (by omega) (by omega) (fun hjm => ?_)
      by_cases hjm2 : j = m
      · rw [hjm2] at hjj
        exact absurd hM.1 hjj
      · exact hx (by omega)
theorem pu_rmain {R : gw_M} {q k : Nat} {av mv : Nat → Nat} (hq : q < 9) (hB : qs_B k av mv) (h : qs_R R q k av mv) {i m : Nat} (hi : i < k) (hmi : m ≤ i) (hM : qs_M av (av i) m) : mo_mainOf_b0 R 0 (nI q) (nI i) = some (nI m, R) := by
  have h1 := pu_rmainL hq hB h hi hmi hM (i + 1) 2100 i (Nat.le_refl _) (by have := hB.1; omega) (fun z => by omega)
  rw [nI_pred] at h1
  exact h1
