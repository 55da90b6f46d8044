/-! What an INVOKE asks for, on the system's side. -/
/-- cnt slots are asked for -/
def qn_A (A : Int64) (cnt : Nat) : Prop := cnt ≤ 4 ∧ (∀ i, i < cnt → ¬ pm_by A i / 16 % 2 = 0) ∧ (cnt < 4 → pm_by A cnt / 16 % 2 = 0)
theorem qn_ex (A : Int64) : ∃ cnt, qn_A A cnt := by
  by_cases h0 : pm_by A 0 / 16 % 2 = 0
  · exact ⟨0, by decide, fun i hi => absurd hi (Nat.not_lt_zero i), fun _ => h0⟩
  by_cases h1 : pm_by A 1 / 16 % 2 = 0
  · refine ⟨1, by decide, fun i hi => ?_, fun _ => h1⟩
    obtain rfl : i = 0 := by omega
    exact h0
  by_cases h2 : pm_by A 2 / 16 % 2 = 0
  · refine ⟨2, by decide, fun i hi => ?_, fun _ => h2⟩
    have hc : i = 0 ∨ i = 1 := by omega
    rcases hc with rfl | rfl
    · exact h0
    · exact h1
  by_cases h3 : pm_by A 3 / 16 % 2 = 0
  · refine ⟨3, by decide, fun i hi => ?_, fun _ => h3⟩
    have hc : i = 0 ∨ i = 1 ∨ i = 2 := by omega
    rcases hc with rfl | rfl | rfl
    · exact h0
    · exact h1
    · exact h2
  · refine ⟨4, by decide, fun i hi => ?_, fun q => absurd q (by decide)⟩
    have hc : i = 0 ∨ i = 1 ∨ i = 2 ∨ i = 3 := by omega
    rcases hc with rfl | rfl | rfl | rfl
    · exact h0
    · exact h1
    · exact h2
    · exact h3
theorem pu_countL {M : gw_M} {A : Int64} {cnt : Nat} (h : qn_A A cnt) : ∀ (d i f : Nat), i + d = cnt → d < f → am_askedCount_l2 f M A (nI i) = some (nI cnt, M) := by
  have h4 := h.1
  intro d
  induction d with
  | zero =>
    intro i f hi hf
    obtain ⟨f, rfl⟩ : ∃ g, f = g + 1 := ⟨f - 1, by omega⟩
    obtain rfl : i = cnt := by omega
    show am_askedCount_b2 (am_askedCount_l2 f) M A (nI i) = _
    unfold am_askedCount_b2
    by_cases hc : i < 4
    · rw [if_neg (show ¬ (4 : Int32) ≤ nI i by rw [pu_lit 4]; exact nI_ge (by omega) (by decide)), if_pos ((pu_by16 A hc).mpr (h.2.2 hc))]
    · rw [if_pos (show (4 : Int32) ≤ nI i by rw [pu_lit 4]; exact nI_le (by omega) (by omega))]
  | succ d ih =>
    intro i f hi hf
    obtain ⟨f, rfl⟩ : ∃ g, f = g + 1 := ⟨f - 1, by omega⟩
    show am_askedCount_b2 (am_askedCount_l2 f) M A (nI i) = _
    unfold am_askedCount_b2
    rw [if_neg (show ¬ (4 : Int32) ≤ nI i by rw [pu_lit 4]; exact nI_ge (by omega) (by decide)), if_neg (fun q => h.2.1 i (by omega) ((pu_by16 A (by omega)).mp q)), nI_1]
    exact ih (i + 1) f (by omega) (by omega)
theorem pu_count {M : gw_M} {A : Int64} {cnt : Nat} (h : qn_A A cnt) : am_askedCount_b0 M A = some (nI cnt, M) := by
  have h4 := h.1
  exact pu_countL h cnt 0 2100 (Nat.zero_add _) (by omega)
/-- the seat of program p + 1 with a seed -/
def pm_seat (p : Nat) (r : Int64) : Int32 := ((lN (3 * (p + 1)) + r) &&& 7).toInt32
theorem pu_seatC (M : gw_M) {p : Nat} (hp : p < 3) (r : Int64) : am_seatOf_b0 M (nI (p + 1)) r = some (pm_seat p r, M) := by
  unfold am_seatOf_b0 pm_seat
  rw [pu_lit 3, pk_mul, nI_l (by omega)]
theorem pu_seatR {R : gw_M} {u p : Nat} (hu : u ≤ 4) (hp : p < 3) (h : R.1 12 (3 + u) = nI (p + 1)) (r : Int64) : mo_seat_b0 R 0 (nI u) r = some (pm_seat p r, R) := by
  unfold mo_seat_b0 pm_seat
  rw [show (3 : Int32) + nI u = nI (3 + u) by rw [pu_lit 3, nI_add], pu_gi (show 3 + u < 9 by omega) (by decide), nI_clamp (show 3 + u < 2 ^ 31 by omega), Nat.zero_add, h, nI_l (by omega), pu_litL 3, lN_mul]
/-- what byte b asks for is within the rights: mk the marks of the account, e whether it is the seat -/
def pm_ok (mk b : Nat) (e : Bool) : Bool := decide ((b / 4 % 2 = 0 ∨ mk % 2 = 1 ∨ e = true) ∧ (b / 8 % 2 = 0 ∨ 2 ≤ mk))
theorem pu_ex1 : ∀ mk, mk < 4 → ∀ m, m < 4 → (nI m &&& (nI mk ^^^ (-1 : Int32)) = 0 ↔ (m % 2 = 0 ∨ mk % 2 = 1) ∧ (m / 2 = 0 ∨ 2 ≤ mk)) ∧ (nI m &&& ((nI mk ||| (1 : Int32)) ^^^ (-1 : Int32)) = 0 ↔ (m / 2 = 0 ∨ 2 ≤ mk)) := by decide
theorem pu_exceeds {C : gw_M} {o p k : Nat} {av mv : Nat → Nat} {b : Nat} {r4 : Int64} (hp : p < 3) (hB : qs_B k av mv) (h : qs_C C (o + 1) k av mv) (h0 : C.1 (o + 1) 0 = nI (p + 1)) (hr : C.2 (o + 4) 4 = r4) (hb : b % 4 < k) : am_exceedsRights_b0 C o (nI (b % 4)) (nI (b / 4 % 4)) = some (if pm_ok (pm_mk k av mv (av (b % 4))) b (decide (nI (av (b % 4)) = pm_seat p r4)) = true then 0 else 1, C) := by
  have hk := hB.1
  have hav := (hB.2 (b % 4) hb).1
  have hmk := pm_mk_lt hB (av (b % 4))
  unfold am_exceedsRights_b0 am_exceedsRights_b46
  rw [pu_gi (show b % 4 < 4 by omega) (by decide), nI_clamp (show b % 4 < 2 ^ 31 by omega), (h.2 (b % 4) hb).1, pu_lt, pu_marks hB h hav, pu_bd, h0, hr, pu_seatC C hp, pu_bd, pu_lt]
  have hx := pu_ex1 _ hmk (b / 4 % 4) (by omega)
  unfold pm_ok
  by_cases he : nI (av (b % 4)) = pm_seat p r4
  · rw [if_pos he, decide_eq_true he]
    by_cases hc : (b / 4 % 2 = 0 ∨ pm_mk k av mv (av (b % 4)) % 2 = 1 ∨ true = true) ∧ (b / 8 % 2 = 0 ∨ 2 ≤ pm_mk k av mv (av (b % 4)))
    · rw [if_pos (hx.2.mpr (by omega)), if_pos (decide_eq_true hc)]
    · rw [if_neg (fun q => hc ⟨Or.inr (Or.inr rfl), by have := hx.2.mp q; omega⟩), if_neg (fun q => hc (of_decide_eq_true q))]
  · rw [if_neg he, decide_eq_false he]
    by_cases hc : (b / 4 % 2 = 0 ∨ pm_mk k av mv (av (b % 4)) % 2 = 1 ∨ false = true) ∧ (b / 8 % 2 = 0 ∨ 2 ≤ pm_mk k av mv (av (b % 4)))
    · rw [if_pos (hx.1.mpr ⟨by
        rcases hc.1 with q | q | q
        · left; omega
        · right; exact q
        · exact absurd q (by decide), by omega⟩), if_pos (decide_eq_true hc)]
    · rw [if_neg (fun q => hc ⟨by
        rcases (hx.1.mp q).1 with z | z
        · left; omega
        · right; left; exact z, by have := (hx.1.mp q).2; omega⟩), if_neg (fun q => hc (of_decide_eq_true q))]
theorem pu_ref9 {C : gw_M} {o k cnt : Nat} {q : Int32} {A : Int64} (hk : k ≤ 4) (h : C.1 (o + 1) 2 = nI k) (hn : cnt ≤ 4) : ∀ (d i f : Nat), i + d = cnt → d < f → ((∀ j, i ≤ j → j < cnt → pm_by A j % 4 < k) → am_refusal_l16 f C 0 o q A (nI cnt) (nI i) = am_refusal_l51 2100 C 0 o q A (nI cnt) (nI 0)) ∧ ((¬ ∀ j, i ≤ j → j < cnt → pm_by A j % 4 < k) → am_refusal_l16 f C 0 o q A (nI cnt) (nI i) = some (9, C)) := by
  intro d
  induction d with
  | zero =>
    intro i f hi hf
    obtain ⟨f, rfl⟩ : ∃ g, f = g + 1 := ⟨f - 1, by omega⟩
    refine ⟨fun _ => ?_, fun hx => absurd (fun j h1 h2 => absurd h2 (by omega)) hx⟩
    show am_refusal_b16 (am_refusal_l16 f) C 0 o q A (nI cnt) (nI i) = _
    unfold am_refusal_b16
    rw [if_pos (nI_le (by omega) (by omega))]
    rfl
  | succ d ih =>
    intro i f hi hf
    obtain ⟨f, rfl⟩ : ∃ g, f = g + 1 := ⟨f - 1, by omega⟩
    have e1 : am_refusal_l16 (f + 1) C 0 o q A (nI cnt) (nI i) = if nI (pm_by A i % 4) < nI k then am_refusal_l16 f C 0 o q A (nI cnt) (nI (i + 1)) else some (9, C) := by
      show am_refusal_b16 (am_refusal_l16 f) C 0 o q A (nI cnt) (nI i) = _
      unfold am_refusal_b16
      rw [if_neg (nI_ge (by omega) (by omega)), pu_slotOf C A (by omega), pu_bd, h, nI_1]
    rw [e1]
    by_cases hs : pm_by A i % 4 < k
    · rw [if_pos (nI_lt hs (by omega))]
      have := ih (i + 1) f (by omega) (by omega)
      refine ⟨fun hx => this.1 (fun j h1 h2 => hx j (by omega) h2), fun hx => this.2 (fun hy => hx (fun j h1 h2 => ?_))⟩
      by_cases hj : j = i
      · subst hj
        exact hs
      · exact hy j (by omega) h2
    · rw [if_neg (nI_nlt (by omega) (by omega))]
      exact ⟨fun hx => absurd (hx i (by omega) (by omega)) hs, fun _ => rfl⟩
/-- what stands behind the looks at slots and rights -/
def pm_rl (C : gw_M) (o : Nat) (q : Int32) : Option (Int32 × gw_M) :=
  if q = (0 : Int32) then am_refusal_b112 C 0 else if q = (C.1 (o + 1) 0) then am_refusal_b112 C 0 else gw_bd (am_isUnderWay_b0 C 0 q) (fun r N => if r = (0 : Int32) then am_refusal_b112 N 0 else some ((11 : Int32), N))
theorem pu_ref10 {C : gw_M} {o p k cnt : Nat} {q : Int32} {A r4 : Int64} {av mv : Nat → Nat} (hp : p < 3) (hB : qs_B k av mv) (h : qs_C C (o + 1) k av mv) (h0 : C.1 (o + 1) 0 = nI (p + 1)) (hr : C.2 (o + 4) 4 = r4) (hn : cnt ≤ 4) (hs : ∀ j, j < cnt → pm_by A j % 4 < k) : ∀ (d i f : Nat), i + d = cnt → d < f → ((∀ j, i ≤ j → j < cnt → pm_ok (pm_mk k av mv (av (pm_by A j % 4))) (pm_by A j) (decide (nI (av (pm_by A j % 4)) = pm_seat p r4)) = true) → am_refusal_l51 f C 0 o q A (nI cnt) (nI i) = pm_rl C o q) ∧ ((¬ ∀ j, i ≤ j → j < cnt → pm_ok (pm_mk k av mv (av (pm_by A j % 4))) (pm_by A j) (decide (nI (av (pm_by A j % 4)) = pm_seat p r4)) = true) → am_refusal_l51 f C 0 o q A (nI cnt) (nI i) = some (10, C)) := by
  intro d
  induction d with
  | zero =>
    intro i f hi hf
    obtain ⟨f, rfl⟩ : ∃ g, f = g + 1 := ⟨f - 1, by omega⟩
    refine ⟨fun _ => ?_, fun hx => absurd (fun j h1 h2 => absurd h2 (by omega)) hx⟩
    show am_refusal_b51 (am_refusal_l51 f) C 0 o q A (nI cnt) (nI i) = _
    unfold am_refusal_b51 pm_rl
    rw [if_pos (nI_le (by omega) (by omega))]
  | succ d ih =>
    intro i f hi hf
    obtain ⟨f, rfl⟩ : ∃ g, f = g + 1 := ⟨f - 1, by omega⟩
    have hby := pm_by_lt A i
    have e1 : am_refusal_l51 (f + 1) C 0 o q A (nI cnt) (nI i) = if pm_ok (pm_mk k av mv (av (pm_by A i % 4))) (pm_by A i) (decide (nI (av (pm_by A i % 4)) = pm_seat p r4)) = true then am_refusal_l51 f C 0 o q A (nI cnt) (nI (i + 1)) else some (10, C) := by
      show am_refusal_b51 (am_refusal_l51 f) C 0 o q A (nI cnt) (nI i) = _
      unfold am_refusal_b51
      rw [if_neg (nI_ge (by omega) (by omega)), pu_slotOf C A (by omega), pu_bd, pu_marksOf C A (by omega), pu_bd, pu_exceeds hp hB h h0 hr (hs i (by omega)), pu_bd, nI_1]
      by_cases hc : pm_ok (pm_mk k av mv (av (pm_by A i % 4))) (pm_by A i) (decide (nI (av (pm_by A i % 4)) = pm_seat p r4)) = true
      · rw [if_pos hc, if_pos hc, if_pos rfl]
      · rw [if_neg hc, if_neg hc, if_neg pu_10]
    rw [e1]
    by_cases hc : pm_ok (pm_mk k av mv (av (pm_by A i % 4))) (pm_by A i) (decide (nI (av (pm_by A i % 4)) = pm_seat p r4)) = true
    · rw [if_pos hc]
      have := ih (i + 1) f (by omega) (by omega)
      refine ⟨fun hx => this.1 (fun j h1 h2 => hx j (by omega) h2), fun hx => this.2 (fun hy => hx (fun j h1 h2 => ?_))⟩
      by_cases hj : j = i
      · subst hj
        exact hc
      · exact hy j (by omega) h2
    · rw [if_neg hc]
      exact ⟨fun hx => absurd (hx i (by omega) (by omega)) hc, fun _ => rfl⟩
