
/-- a memory: ints and longs by cell and place -/
abbrev gw_M : Type := (Nat → Nat → Int32) × (Nat → Nat → Int64)
def gw_sI (M : gw_M) (k j : Nat) (x : Int32) : gw_M := (fun a => if a = k then upd (M.1 k) j x else M.1 a, M.2)
def gw_sL (M : gw_M) (k j : Nat) (x : Int64) : gw_M := (M.1, fun a => if a = k then vp_updL (M.2 k) j x else M.2 a)
def gw_cp (M : gw_M) (k0 k1 sp dp n : Nat) : gw_M := (fun a => if a = k1 then va_cpy (M.1 k0) (M.1 k1) sp dp n else M.1 a, M.2)
/-- the pieces that the methods' functions are made of -/
def gw_lt {α β : Type} (x : α) (f : α → Option β) : Option β := f x
def gw_gu {β : Type} (g : Bool) (a : Option β) : Option β := match g with
  | true => a
  | false => none
def gw_bd {ρ β : Type} (o : Option (ρ × gw_M)) (f : ρ → gw_M → Option β) : Option β := match o with
  | none => none
  | some z => f z.1 z.2
def gw_in (i : Int32) (n : Nat) : Bool := decide (¬ (i < 0 ∨ n ≤ i.toNatClampNeg))
def gw_zi (x : Int32) : Bool := decide (¬ x = 0)
def gw_zj (x : Int64) : Bool := decide (¬ x = 0)
def gw_bz (x : Int32) : Bool := decide (x = 0 ∨ x = 1)
theorem gw_ly {α β : Type} {x y : α} {f : α → Option β} {z : β} (h : y = x) (hF : gw_lt x f = some z) : f y = some z := by
  subst h
  exact hF
theorem gw_gd {β : Type} {g : Bool} {a : Option β} {z : β} (hF : gw_gu g a = some z) : g = true ∧ a = some z := by
  cases g with
  | true => exact ⟨rfl, hF⟩
  | false => cases hF
theorem gw_be {ρ β : Type} {o : Option (ρ × gw_M)} {f : ρ → gw_M → Option β} {z : β} (hF : gw_bd o f = some z) : ∃ (r : ρ) (M : gw_M), o = some (r, M) ∧ f r M = some z := by
  cases o with
  | none => cases hF
  | some w => exact ⟨w.1, w.2, rfl, hF⟩
theorem gw_et {β : Type} {c : Prop} [Decidable c] {a b : Option β} {z : β} (h : c) (hF : (if c then a else b) = some z) : a = some z := by
  rw [if_pos h] at hF
  exact hF
theorem gw_ef {β : Type} {c : Prop} [Decidable c] {a b : Option β} {z : β} (h : ¬ c) (hF : (if c then a else b) = some z) : b = some z := by
  rw [if_neg h] at hF
  exact hF
theorem gw_vp {i : Int32} {n : Nat} (h : gw_in i n = true) : vp_in i n := (of_decide_eq_true h : ¬ (i < 0 ∨ n ≤ i.toNatClampNeg))
theorem gw_vj {i : Int32} {n j : Nat} (h : vp_in i n) (hj : i.toNatClampNeg = j) : j < n := by
  subst hj
  exact Nat.not_le.mp fun q => h (Or.inr q)
theorem gw_nz {x : Int32} (h : gw_zi x = true) : ¬ x = 0 := of_decide_eq_true h
theorem gw_nzj {x : Int64} (h : gw_zj x = true) : ¬ x = 0 := of_decide_eq_true h
theorem gw_bn {x : Int32} (h : gw_bz x = true) : narrow .boolean (.int x) = .int x := by
  rcases (of_decide_eq_true h : x = 0 ∨ x = 1) with rfl | rfl <;> decide
theorem gw_ne {x c : Int32} {n : Int} (hc : c.toInt = n) (h : ¬ x = c) : x.toInt ≠ n := fun q => h (Int32.toInt_inj.mp (q.trans hc.symm))
/-- SERVICE_UNITS -/
def gw_un : Nat → Int32
  | 0 => 1
  | 1 => 5
  | 2 => 1
  | _ => 3
/-- the cells of the system, in the order in which they are made: kind and length (0 ints, 1 longs, 2 .. 6 AccountMachine, Ledger, Order, Program, Frame, 7 .. 9 arrays of Programs, Orders, Frames) -/
def gc_k (k : Nat) : Nat × Nat :=
  if k < 15 then [(2, 0), (7, 4), (3, 0), (0, 8), (0, 8), (0, 8), (0, 32), (3, 0), (0, 8), (0, 8), (0, 8), (0, 32), (8, 3), (9, 4), (1, 30)].getD k (99, 0)
  else if k < 39 then [(5, 0), (0, 32), (0, 32), (0, 32), (0, 32), (0, 32)].getD ((k - 15) % 6) (99, 0)
  else if k < 48 then [(4, 0), (0, 4), (0, 4)].getD ((k - 39) % 3) (99, 0)
  else if k < 76 then [(6, 0), (4, 0), (0, 4), (0, 4), (1, 10), (1, 56), (0, 4)].getD ((k - 48) % 7) (99, 0)
  else (99, 0)
/-- the cells of the reference: 10 booleans, 11 the object -/
def gr_k (k : Nat) : Nat × Nat := [(11, 0), (0, 16), (0, 16), (0, 16), (0, 64), (0, 3), (10, 3), (0, 96), (0, 96), (0, 96), (0, 96), (0, 96), (0, 9), (0, 9), (0, 9), (0, 36), (0, 36), (0, 5), (1, 50), (0, 20), (0, 5), (1, 80), (1, 200), (1, 30)].getD k (99, 0)
theorem gc_lt {k a b : Nat} (h : gc_k k = (a, b)) (ha : a < 99) : k < 76 := by
  rcases Nat.lt_or_ge k 76 with h1 | h1
  · exact h1
  · unfold gc_k at h
    rw [if_neg (by omega), if_neg (by omega), if_neg (by omega), if_neg (by omega)] at h
    cases h
    omega
theorem gr_lt {k a b : Nat} (h : gr_k k = (a, b)) (ha : a < 99) : k < 24 := by
  rcases Nat.lt_or_ge k 24 with h1 | h1
  · exact h1
  · unfold gr_k at h
    rw [List.getD_eq_getElem?_getD, List.getElem?_eq_none (by simpa using h1)] at h
    cases h
    omega
theorem gq_am_programs {o : Nat} (h : gc_k o = (2, 0)) : gc_k (o + 1) = (7, 4) := (by decide +kernel : ∀ o, o < 76 → gc_k o = (2, 0) → gc_k (o + 1) = (7, 4)) o (gc_lt h (by decide)) h
theorem gq_am_ledger {o : Nat} (h : gc_k o = (2, 0)) : gc_k (o + 2) = (3, 0) := (by decide +kernel : ∀ o, o < 76 → gc_k o = (2, 0) → gc_k (o + 2) = (3, 0)) o (gc_lt h (by decide)) h
theorem gq_am_before {o : Nat} (h : gc_k o = (2, 0)) : gc_k (o + 7) = (3, 0) := (by decide +kernel : ∀ o, o < 76 → gc_k o = (2, 0) → gc_k (o + 7) = (3, 0)) o (gc_lt h (by decide)) h
theorem gq_am_orders {o : Nat} (h : gc_k o = (2, 0)) : gc_k (o + 12) = (8, 3) := (by decide +kernel : ∀ o, o < 76 → gc_k o = (2, 0) → gc_k (o + 12) = (8, 3)) o (gc_lt h (by decide)) h
theorem gq_am_frames {o : Nat} (h : gc_k o = (2, 0)) : gc_k (o + 13) = (9, 4) := (by decide +kernel : ∀ o, o < 76 → gc_k o = (2, 0) → gc_k (o + 13) = (9, 4)) o (gc_lt h (by decide)) h
theorem gq_am_logWords {o : Nat} (h : gc_k o = (2, 0)) : gc_k (o + 14) = (1, 30) := (by decide +kernel : ∀ o, o < 76 → gc_k o = (2, 0) → gc_k (o + 14) = (1, 30)) o (gc_lt h (by decide)) h
theorem gq_le_balances {o : Nat} (h : gc_k o = (3, 0)) : gc_k (o + 1) = (0, 8) := (by decide +kernel : ∀ o, o < 76 → gc_k o = (3, 0) → gc_k (o + 1) = (0, 8)) o (gc_lt h (by decide)) h
theorem gq_le_owners {o : Nat} (h : gc_k o = (3, 0)) : gc_k (o + 2) = (0, 8) := (by decide +kernel : ∀ o, o < 76 → gc_k o = (3, 0) → gc_k (o + 2) = (0, 8)) o (gc_lt h (by decide)) h
theorem gq_le_sizes {o : Nat} (h : gc_k o = (3, 0)) : gc_k (o + 3) = (0, 8) := (by decide +kernel : ∀ o, o < 76 → gc_k o = (3, 0) → gc_k (o + 3) = (0, 8)) o (gc_lt h (by decide)) h
theorem gq_le_words {o : Nat} (h : gc_k o = (3, 0)) : gc_k (o + 4) = (0, 32) := (by decide +kernel : ∀ o, o < 76 → gc_k o = (3, 0) → gc_k (o + 4) = (0, 32)) o (gc_lt h (by decide)) h
theorem gq_od_accounts {o : Nat} (h : gc_k o = (4, 0)) : gc_k (o + 1) = (0, 4) := (by decide +kernel : ∀ o, o < 76 → gc_k o = (4, 0) → gc_k (o + 1) = (0, 4)) o (gc_lt h (by decide)) h
theorem gq_od_marks {o : Nat} (h : gc_k o = (4, 0)) : gc_k (o + 2) = (0, 4) := (by decide +kernel : ∀ o, o < 76 → gc_k o = (4, 0) → gc_k (o + 2) = (0, 4)) o (gc_lt h (by decide)) h
theorem gq_pr_kinds {o : Nat} (h : gc_k o = (5, 0)) : gc_k (o + 1) = (0, 32) := (by decide +kernel : ∀ o, o < 76 → gc_k o = (5, 0) → gc_k (o + 1) = (0, 32)) o (gc_lt h (by decide)) h
theorem gq_pr_targets {o : Nat} (h : gc_k o = (5, 0)) : gc_k (o + 2) = (0, 32) := (by decide +kernel : ∀ o, o < 76 → gc_k o = (5, 0) → gc_k (o + 2) = (0, 32)) o (gc_lt h (by decide)) h
theorem gq_pr_sources {o : Nat} (h : gc_k o = (5, 0)) : gc_k (o + 3) = (0, 32) := (by decide +kernel : ∀ o, o < 76 → gc_k o = (5, 0) → gc_k (o + 3) = (0, 32)) o (gc_lt h (by decide)) h
theorem gq_pr_offsets {o : Nat} (h : gc_k o = (5, 0)) : gc_k (o + 4) = (0, 32) := (by decide +kernel : ∀ o, o < 76 → gc_k o = (5, 0) → gc_k (o + 4) = (0, 32)) o (gc_lt h (by decide)) h
theorem gq_pr_numbers {o : Nat} (h : gc_k o = (5, 0)) : gc_k (o + 5) = (0, 32) := (by decide +kernel : ∀ o, o < 76 → gc_k o = (5, 0) → gc_k (o + 5) = (0, 32)) o (gc_lt h (by decide)) h
theorem gq_fr_order {o : Nat} (h : gc_k o = (6, 0)) : gc_k (o + 1) = (4, 0) := (by decide +kernel : ∀ o, o < 76 → gc_k o = (6, 0) → gc_k (o + 1) = (4, 0)) o (gc_lt h (by decide)) h
theorem gq_fr_registers {o : Nat} (h : gc_k o = (6, 0)) : gc_k (o + 4) = (1, 10) := (by decide +kernel : ∀ o, o < 76 → gc_k o = (6, 0) → gc_k (o + 4) = (1, 10)) o (gc_lt h (by decide)) h
theorem gq_fr_memory {o : Nat} (h : gc_k o = (6, 0)) : gc_k (o + 5) = (1, 56) := (by decide +kernel : ∀ o, o < 76 → gc_k o = (6, 0) → gc_k (o + 5) = (1, 56)) o (gc_lt h (by decide)) h
theorem gq_fr_remembered {o : Nat} (h : gc_k o = (6, 0)) : gc_k (o + 6) = (0, 4) := (by decide +kernel : ∀ o, o < 76 → gc_k o = (6, 0) → gc_k (o + 6) = (0, 4)) o (gc_lt h (by decide)) h
theorem gq_mo_balances {o : Nat} (h : gr_k o = (11, 0)) : gr_k (o + 1) = (0, 16) := (by decide +kernel : ∀ o, o < 24 → gr_k o = (11, 0) → gr_k (o + 1) = (0, 16)) o (gr_lt h (by decide)) h
theorem gq_mo_owners {o : Nat} (h : gr_k o = (11, 0)) : gr_k (o + 2) = (0, 16) := (by decide +kernel : ∀ o, o < 24 → gr_k o = (11, 0) → gr_k (o + 2) = (0, 16)) o (gr_lt h (by decide)) h
theorem gq_mo_sizes {o : Nat} (h : gr_k o = (11, 0)) : gr_k (o + 3) = (0, 16) := (by decide +kernel : ∀ o, o < 24 → gr_k o = (11, 0) → gr_k (o + 3) = (0, 16)) o (gr_lt h (by decide)) h
theorem gq_mo_words {o : Nat} (h : gr_k o = (11, 0)) : gr_k (o + 4) = (0, 64) := (by decide +kernel : ∀ o, o < 24 → gr_k o = (11, 0) → gr_k (o + 4) = (0, 64)) o (gr_lt h (by decide)) h
theorem gq_mo_length {o : Nat} (h : gr_k o = (11, 0)) : gr_k (o + 5) = (0, 3) := (by decide +kernel : ∀ o, o < 24 → gr_k o = (11, 0) → gr_k (o + 5) = (0, 3)) o (gr_lt h (by decide)) h
theorem gq_mo_loaded {o : Nat} (h : gr_k o = (11, 0)) : gr_k (o + 6) = (10, 3) := (by decide +kernel : ∀ o, o < 24 → gr_k o = (11, 0) → gr_k (o + 6) = (10, 3)) o (gr_lt h (by decide)) h
theorem gq_mo_kinds {o : Nat} (h : gr_k o = (11, 0)) : gr_k (o + 7) = (0, 96) := (by decide +kernel : ∀ o, o < 24 → gr_k o = (11, 0) → gr_k (o + 7) = (0, 96)) o (gr_lt h (by decide)) h
theorem gq_mo_lefts {o : Nat} (h : gr_k o = (11, 0)) : gr_k (o + 8) = (0, 96) := (by decide +kernel : ∀ o, o < 24 → gr_k o = (11, 0) → gr_k (o + 8) = (0, 96)) o (gr_lt h (by decide)) h
theorem gq_mo_rights {o : Nat} (h : gr_k o = (11, 0)) : gr_k (o + 9) = (0, 96) := (by decide +kernel : ∀ o, o < 24 → gr_k o = (11, 0) → gr_k (o + 9) = (0, 96)) o (gr_lt h (by decide)) h
theorem gq_mo_offsets {o : Nat} (h : gr_k o = (11, 0)) : gr_k (o + 10) = (0, 96) := (by decide +kernel : ∀ o, o < 24 → gr_k o = (11, 0) → gr_k (o + 10) = (0, 96)) o (gr_lt h (by decide)) h
theorem gq_mo_numbers {o : Nat} (h : gr_k o = (11, 0)) : gr_k (o + 11) = (0, 96) := (by decide +kernel : ∀ o, o < 24 → gr_k o = (11, 0) → gr_k (o + 11) = (0, 96)) o (gr_lt h (by decide)) h
theorem gq_mo_program {o : Nat} (h : gr_k o = (11, 0)) : gr_k (o + 12) = (0, 9) := (by decide +kernel : ∀ o, o < 24 → gr_k o = (11, 0) → gr_k (o + 12) = (0, 9)) o (gr_lt h (by decide)) h
theorem gq_mo_argument {o : Nat} (h : gr_k o = (11, 0)) : gr_k (o + 13) = (0, 9) := (by decide +kernel : ∀ o, o < 24 → gr_k o = (11, 0) → gr_k (o + 13) = (0, 9)) o (gr_lt h (by decide)) h
theorem gq_mo_slots {o : Nat} (h : gr_k o = (11, 0)) : gr_k (o + 14) = (0, 9) := (by decide +kernel : ∀ o, o < 24 → gr_k o = (11, 0) → gr_k (o + 14) = (0, 9)) o (gr_lt h (by decide)) h
theorem gq_mo_slotAccount {o : Nat} (h : gr_k o = (11, 0)) : gr_k (o + 15) = (0, 36) := (by decide +kernel : ∀ o, o < 24 → gr_k o = (11, 0) → gr_k (o + 15) = (0, 36)) o (gr_lt h (by decide)) h
theorem gq_mo_slotMarks {o : Nat} (h : gr_k o = (11, 0)) : gr_k (o + 16) = (0, 36) := (by decide +kernel : ∀ o, o < 24 → gr_k o = (11, 0) → gr_k (o + 16) = (0, 36)) o (gr_lt h (by decide)) h
theorem gq_mo_place {o : Nat} (h : gr_k o = (11, 0)) : gr_k (o + 17) = (0, 5) := (by decide +kernel : ∀ o, o < 24 → gr_k o = (11, 0) → gr_k (o + 17) = (0, 5)) o (gr_lt h (by decide)) h
theorem gq_mo_registers {o : Nat} (h : gr_k o = (11, 0)) : gr_k (o + 18) = (1, 50) := (by decide +kernel : ∀ o, o < 24 → gr_k o = (11, 0) → gr_k (o + 18) = (1, 50)) o (gr_lt h (by decide)) h
theorem gq_mo_remembered {o : Nat} (h : gr_k o = (11, 0)) : gr_k (o + 19) = (0, 20) := (by decide +kernel : ∀ o, o < 24 → gr_k o = (11, 0) → gr_k (o + 19) = (0, 20)) o (gr_lt h (by decide)) h
theorem gq_mo_calls {o : Nat} (h : gr_k o = (11, 0)) : gr_k (o + 20) = (0, 5) := (by decide +kernel : ∀ o, o < 24 → gr_k o = (11, 0) → gr_k (o + 20) = (0, 5)) o (gr_lt h (by decide)) h
theorem gq_mo_stack {o : Nat} (h : gr_k o = (11, 0)) : gr_k (o + 21) = (1, 80) := (by decide +kernel : ∀ o, o < 24 → gr_k o = (11, 0) → gr_k (o + 21) = (1, 80)) o (gr_lt h (by decide)) h
theorem gq_mo_seen {o : Nat} (h : gr_k o = (11, 0)) : gr_k (o + 22) = (1, 200) := (by decide +kernel : ∀ o, o < 24 → gr_k o = (11, 0) → gr_k (o + 22) = (1, 200)) o (gr_lt h (by decide)) h
theorem gq_mo_log {o : Nat} (h : gr_k o = (11, 0)) : gr_k (o + 23) = (1, 30) := (by decide +kernel : ∀ o, o < 24 → gr_k o = (11, 0) → gr_k (o + 23) = (1, 30)) o (gr_lt h (by decide)) h
theorem gq_arr7 {o j : Nat} (h : gc_k o = (7, 4)) (hj : j < 4) : gc_k (o + 14 + 6 * j) = (5, 0) := (by decide +kernel : ∀ o, o < 76 → gc_k o = (7, 4) → ∀ j, j < 4 → gc_k (o + 14 + 6 * j) = (5, 0)) o (gc_lt h (by decide)) h j hj
theorem gq_arr8 {o j : Nat} (h : gc_k o = (8, 3)) (hj : j < 3) : gc_k (o + 27 + 3 * j) = (4, 0) := (by decide +kernel : ∀ o, o < 76 → gc_k o = (8, 3) → ∀ j, j < 3 → gc_k (o + 27 + 3 * j) = (4, 0)) o (gc_lt h (by decide)) h j hj
theorem gq_arr9 {o j : Nat} (h : gc_k o = (9, 4)) (hj : j < 4) : gc_k (o + 35 + 7 * j) = (6, 0) := (by decide +kernel : ∀ o, o < 76 → gc_k o = (9, 4) → ∀ j, j < 4 → gc_k (o + 35 + 7 * j) = (6, 0)) o (gc_lt h (by decide)) h j hj
/-- X: the classes' numbers and slots, the cells' addresses, the array classes (ints, longs, booleans, Programs, Orders, Frames), where SERVICE_UNITS lies -/
abbrev gw_X : Type := va_G × (Nat → Nat) × (Nat → ClassId) × Nat
abbrev gc_a (X : gw_X) (k : Nat) : Nat := X.2.1 k
abbrev gr_a (X : gw_X) (k : Nat) : Nat := X.2.1 (76 + k)
abbrev gw_tys (X : gw_X) : List (ClassId × FieldType) := [(X.2.2.1 0, .int), (X.2.2.1 1, .long), (X.2.2.1 2, .boolean), (X.2.2.1 3, .object "AccountMachine$Program"), (X.2.2.1 4, .object "AccountMachine$Order"), (X.2.2.1 5, .object "AccountMachine$Frame")]
/-- what the system's cell k holds -/
def gc_e (X : gw_X) (M : gw_M) (k : Nat) (q : Nat × Nat) : va_E := match q.1 with
  | 0 => .inl (X.2.2.1 0, q.2, .inl (M.1 k))
  | 1 => .inl (X.2.2.1 1, q.2, .inr (.inl (M.2 k)))
  | 2 => .inr (0, [.ref (gc_a X (k + 1)), .ref (gc_a X (k + 2)), .ref (gc_a X (k + 7)), .ref (gc_a X (k + 12)), .int (M.1 k 4), .ref (gc_a X (k + 13)), .int (M.1 k 6), .int (M.1 k 7), .ref (gc_a X (k + 14)), .int (M.1 k 9), .long (M.2 k 10)])
  | 3 => .inr (1, [.ref (gc_a X (k + 1)), .ref (gc_a X (k + 2)), .ref (gc_a X (k + 3)), .ref (gc_a X (k + 4))])
  | 4 => .inr (2, [.int (M.1 k 0), .int (M.1 k 1), .int (M.1 k 2), .ref (gc_a X (k + 1)), .ref (gc_a X (k + 2))])
  | 5 => .inr (3, [.ref (gc_a X (k + 1)), .ref (gc_a X (k + 2)), .ref (gc_a X (k + 3)), .ref (gc_a X (k + 4)), .ref (gc_a X (k + 5)), .int (M.1 k 5), .int (M.1 k 6)])
  | 6 => .inr (4, [.ref (gc_a X (k + 1)), .ref (gc_a X (k + 4)), .ref (gc_a X (k + 5)), .ref (gc_a X (k + 6)), .int (M.1 k 4), .int (M.1 k 5)])
  | 7 => .inl (X.2.2.1 3, 4, .inr (.inr (.inr (.inr (fun i => if i < 4 then some (gc_a X (k + 14 + 6 * i)) else none)))))
  | 8 => .inl (X.2.2.1 4, 3, .inr (.inr (.inr (.inr (fun i => if i < 3 then some (gc_a X (k + 27 + 3 * i)) else none)))))
  | 9 => .inl (X.2.2.1 5, 4, .inr (.inr (.inr (.inr (fun i => if i < 4 then some (gc_a X (k + 35 + 7 * i)) else none)))))
  | _ => .inr (99, [])
def gr_e (X : gw_X) (M : gw_M) (k : Nat) (q : Nat × Nat) : va_E := match q.1 with
  | 0 => .inl (X.2.2.1 0, q.2, .inl (M.1 k))
  | 1 => .inl (X.2.2.1 1, q.2, .inr (.inl (M.2 k)))
  | 10 => .inl (X.2.2.1 2, q.2, .inl (M.1 k))
  | 11 => .inr (5, [.ref (gr_a X (k + 1)), .ref (gr_a X (k + 2)), .ref (gr_a X (k + 3)), .ref (gr_a X (k + 4)), .ref (gr_a X (k + 5)), .ref (gr_a X (k + 6)), .ref (gr_a X (k + 7)), .ref (gr_a X (k + 8)), .ref (gr_a X (k + 9)), .ref (gr_a X (k + 10)), .ref (gr_a X (k + 11)), .int (M.1 k 11), .ref (gr_a X (k + 12)), .ref (gr_a X (k + 13)), .ref (gr_a X (k + 14)), .ref (gr_a X (k + 15)), .ref (gr_a X (k + 16)), .int (M.1 k 17), .ref (gr_a X (k + 17)), .ref (gr_a X (k + 18)), .ref (gr_a X (k + 19)), .ref (gr_a X (k + 20)), .ref (gr_a X (k + 21)), .ref (gr_a X (k + 22)), .int (M.1 k 24), .long (M.2 k 25), .ref (gr_a X (k + 23)), .int (M.1 k 27)])
  | _ => .inr (99, [])
def gw_E (X : gw_X) (C R : gw_M) (k : Nat) : va_E := if k < 76 then gc_e X C k (gc_k k) else gr_e X R (k - 76) (gr_k (k - 76))
def gw_W (ad : Nat → Nat) (E : Nat → va_E) (n : Nat) : va_W := (List.range n).map (fun k => (ad k, E k))
theorem gw_W_at {ad : Nat → Nat} {E : Nat → va_E} {n k : Nat} (h : k < n) : (gw_W ad E n)[k]? = some (ad k, E k) := by
  simp [gw_W, h]
theorem gw_W_set {ad : Nat → Nat} {E E1 : Nat → va_E} {n k : Nat} {x : va_E} (h : k < n) (hk : E1 k = x) (hn : ∀ i, i ≠ k → E1 i = E i) : (gw_W ad E n).set k (ad k, x) = gw_W ad E1 n := by
  apply List.ext_getElem?
  intro i
  by_cases hi : i = k
  · subst hi
    rw [List.getElem?_set_self (by simpa [gw_W] using h), gw_W_at h, hk]
  · rw [List.getElem?_set_ne (Ne.symm hi)]
    by_cases hl : i < n
    · rw [gw_W_at hl, gw_W_at hl, hn i hi]
    · rw [List.getElem?_eq_none (by simpa [gw_W] using hl), List.getElem?_eq_none (by simpa [gw_W] using hl)]
theorem gc_e_congr {X : gw_X} {M M1 : gw_M} {k : Nat} {q : Nat × Nat} (h1 : M1.1 k = M.1 k) (h2 : M1.2 k = M.2 k) : gc_e X M1 k q = gc_e X M k q := by
  unfold gc_e
  rw [h1, h2]
theorem gr_e_congr {X : gw_X} {M M1 : gw_M} {k : Nat} {q : Nat × Nat} (h1 : M1.1 k = M.1 k) (h2 : M1.2 k = M.2 k) : gr_e X M1 k q = gr_e X M k q := by
  unfold gr_e
  rw [h1, h2]
theorem gw_E_c {X : gw_X} {C R : gw_M} {k : Nat} (h : k < 76) : gw_E X C R k = gc_e X C k (gc_k k) := if_pos h
theorem gw_E_r {X : gw_X} {C R : gw_M} {k : Nat} : gw_E X C R (76 + k) = gr_e X R k (gr_k k) := by
  unfold gw_E
  rw [if_neg (by omega), Nat.add_sub_cancel_left]
/-- a memory that differs at one cell -/
theorem gw_E_setC {X : gw_X} {C C1 R : gw_M} {k : Nat} (h1 : ∀ i, i ≠ k → C1.1 i = C.1 i) (h2 : ∀ i, i ≠ k → C1.2 i = C.2 i) : ∀ i, i ≠ k → gw_E X C1 R i = gw_E X C R i := by
  intro i hi
  unfold gw_E
  rw [gc_e_congr (h1 i hi) (h2 i hi)]
theorem gw_E_setR {X : gw_X} {C R R1 : gw_M} {k : Nat} (h1 : ∀ i, i ≠ k → R1.1 i = R.1 i) (h2 : ∀ i, i ≠ k → R1.2 i = R.2 i) : ∀ i, i ≠ 76 + k → gw_E X C R1 i = gw_E X C R i := by
  intro i hi
  unfold gw_E
  by_cases h : i < 76
  · rw [if_pos h, if_pos h]
  · rw [gr_e_congr (h1 (i - 76) (by omega)) (h2 (i - 76) (by omega))]
theorem gw_sI_1 {M : gw_M} {k j : Nat} {x : Int32} : ∀ i, i ≠ k → (gw_sI M k j x).1 i = M.1 i := fun i h => if_neg h
theorem gw_sI_2 {M : gw_M} {k j : Nat} {x : Int32} : ∀ i, i ≠ k → (gw_sI M k j x).2 i = M.2 i := fun _ _ => rfl
theorem gw_sI_k {M : gw_M} {k j : Nat} {x : Int32} : (gw_sI M k j x).1 k = upd (M.1 k) j x := if_pos rfl
theorem gw_sL_1 {M : gw_M} {k j : Nat} {x : Int64} : ∀ i, i ≠ k → (gw_sL M k j x).1 i = M.1 i := fun _ _ => rfl
theorem gw_sL_2 {M : gw_M} {k j : Nat} {x : Int64} : ∀ i, i ≠ k → (gw_sL M k j x).2 i = M.2 i := fun i h => if_neg h
theorem gw_sL_k {M : gw_M} {k j : Nat} {x : Int64} : (gw_sL M k j x).2 k = vp_updL (M.2 k) j x := if_pos rfl
theorem gw_cp_1 {M : gw_M} {k0 k sp dp n : Nat} : ∀ i, i ≠ k → (gw_cp M k0 k sp dp n).1 i = M.1 i := fun i h => if_neg h
theorem gw_cp_2 {M : gw_M} {k0 k sp dp n : Nat} : ∀ i, i ≠ k → (gw_cp M k0 k sp dp n).2 i = M.2 i := fun _ _ => rfl
theorem gw_cp_k {M : gw_M} {k0 k sp dp n : Nat} : (gw_cp M k0 k sp dp n).1 k = va_cpy (M.1 k0) (M.1 k) sp dp n := if_pos rfl

theorem gc_E0 {X : gw_X} {M Y : gw_M} {k : Nat} {n : Nat} (h : gc_k k = (0, n)) : gw_E X M Y k = .inl (X.2.2.1 0, n, .inl (M.1 k)) := by
  rw [gw_E_c (gc_lt h (by decide)), h]
  rfl
theorem gc_at0 {X : gw_X} {M Y : gw_M} {k : Nat} {n : Nat} (h : gc_k k = (0, n)) : (gw_W X.2.1 (gw_E X M Y) 100)[k]? = some (X.2.1 k, .inl (X.2.2.1 0, n, .inl (M.1 k))) := by
  rw [gw_W_at (Nat.lt_trans (gc_lt h (by decide)) (by decide)), gc_E0 h]
theorem gc_E1 {X : gw_X} {M Y : gw_M} {k : Nat} {n : Nat} (h : gc_k k = (1, n)) : gw_E X M Y k = .inl (X.2.2.1 1, n, .inr (.inl (M.2 k))) := by
  rw [gw_E_c (gc_lt h (by decide)), h]
  rfl
theorem gc_at1 {X : gw_X} {M Y : gw_M} {k : Nat} {n : Nat} (h : gc_k k = (1, n)) : (gw_W X.2.1 (gw_E X M Y) 100)[k]? = some (X.2.1 k, .inl (X.2.2.1 1, n, .inr (.inl (M.2 k)))) := by
  rw [gw_W_at (Nat.lt_trans (gc_lt h (by decide)) (by decide)), gc_E1 h]
theorem gc_E2 {X : gw_X} {M Y : gw_M} {k : Nat} (h : gc_k k = (2, 0)) : gw_E X M Y k = .inr (0, [.ref (gc_a X (k + 1)), .ref (gc_a X (k + 2)), .ref (gc_a X (k + 7)), .ref (gc_a X (k + 12)), .int (M.1 k 4), .ref (gc_a X (k + 13)), .int (M.1 k 6), .int (M.1 k 7), .ref (gc_a X (k + 14)), .int (M.1 k 9), .long (M.2 k 10)]) := by
  rw [gw_E_c (gc_lt h (by decide)), h]
  rfl
theorem gc_at2 {X : gw_X} {M Y : gw_M} {k : Nat} (h : gc_k k = (2, 0)) : (gw_W X.2.1 (gw_E X M Y) 100)[k]? = some (X.2.1 k, .inr (0, [.ref (gc_a X (k + 1)), .ref (gc_a X (k + 2)), .ref (gc_a X (k + 7)), .ref (gc_a X (k + 12)), .int (M.1 k 4), .ref (gc_a X (k + 13)), .int (M.1 k 6), .int (M.1 k 7), .ref (gc_a X (k + 14)), .int (M.1 k 9), .long (M.2 k 10)])) := by
  rw [gw_W_at (Nat.lt_trans (gc_lt h (by decide)) (by decide)), gc_E2 h]
theorem gc_E3 {X : gw_X} {M Y : gw_M} {k : Nat} (h : gc_k k = (3, 0)) : gw_E X M Y k = .inr (1, [.ref (gc_a X (k + 1)), .ref (gc_a X (k + 2)), .ref (gc_a X (k + 3)), .ref (gc_a X (k + 4))]) := by
  rw [gw_E_c (gc_lt h (by decide)), h]
  rfl
theorem gc_at3 {X : gw_X} {M Y : gw_M} {k : Nat} (h : gc_k k = (3, 0)) : (gw_W X.2.1 (gw_E X M Y) 100)[k]? = some (X.2.1 k, .inr (1, [.ref (gc_a X (k + 1)), .ref (gc_a X (k + 2)), .ref (gc_a X (k + 3)), .ref (gc_a X (k + 4))])) := by
  rw [gw_W_at (Nat.lt_trans (gc_lt h (by decide)) (by decide)), gc_E3 h]
theorem gc_E4 {X : gw_X} {M Y : gw_M} {k : Nat} (h : gc_k k = (4, 0)) : gw_E X M Y k = .inr (2, [.int (M.1 k 0), .int (M.1 k 1), .int (M.1 k 2), .ref (gc_a X (k + 1)), .ref (gc_a X (k + 2))]) := by
  rw [gw_E_c (gc_lt h (by decide)), h]
  rfl
theorem gc_at4 {X : gw_X} {M Y : gw_M} {k : Nat} (h : gc_k k = (4, 0)) : (gw_W X.2.1 (gw_E X M Y) 100)[k]? = some (X.2.1 k, .inr (2, [.int (M.1 k 0), .int (M.1 k 1), .int (M.1 k 2), .ref (gc_a X (k + 1)), .ref (gc_a X (k + 2))])) := by
  rw [gw_W_at (Nat.lt_trans (gc_lt h (by decide)) (by decide)), gc_E4 h]
theorem gc_E5 {X : gw_X} {M Y : gw_M} {k : Nat} (h : gc_k k = (5, 0)) : gw_E X M Y k = .inr (3, [.ref (gc_a X (k + 1)), .ref (gc_a X (k + 2)), .ref (gc_a X (k + 3)), .ref (gc_a X (k + 4)), .ref (gc_a X (k + 5)), .int (M.1 k 5), .int (M.1 k 6)]) := by
  rw [gw_E_c (gc_lt h (by decide)), h]
  rfl
theorem gc_at5 {X : gw_X} {M Y : gw_M} {k : Nat} (h : gc_k k = (5, 0)) : (gw_W X.2.1 (gw_E X M Y) 100)[k]? = some (X.2.1 k, .inr (3, [.ref (gc_a X (k + 1)), .ref (gc_a X (k + 2)), .ref (gc_a X (k + 3)), .ref (gc_a X (k + 4)), .ref (gc_a X (k + 5)), .int (M.1 k 5), .int (M.1 k 6)])) := by
  rw [gw_W_at (Nat.lt_trans (gc_lt h (by decide)) (by decide)), gc_E5 h]
theorem gc_E6 {X : gw_X} {M Y : gw_M} {k : Nat} (h : gc_k k = (6, 0)) : gw_E X M Y k = .inr (4, [.ref (gc_a X (k + 1)), .ref (gc_a X (k + 4)), .ref (gc_a X (k + 5)), .ref (gc_a X (k + 6)), .int (M.1 k 4), .int (M.1 k 5)]) := by
  rw [gw_E_c (gc_lt h (by decide)), h]
  rfl
theorem gc_at6 {X : gw_X} {M Y : gw_M} {k : Nat} (h : gc_k k = (6, 0)) : (gw_W X.2.1 (gw_E X M Y) 100)[k]? = some (X.2.1 k, .inr (4, [.ref (gc_a X (k + 1)), .ref (gc_a X (k + 4)), .ref (gc_a X (k + 5)), .ref (gc_a X (k + 6)), .int (M.1 k 4), .int (M.1 k 5)])) := by
  rw [gw_W_at (Nat.lt_trans (gc_lt h (by decide)) (by decide)), gc_E6 h]
theorem gc_E7 {X : gw_X} {M Y : gw_M} {k : Nat} (h : gc_k k = (7, 4)) : gw_E X M Y k = .inl (X.2.2.1 3, 4, .inr (.inr (.inr (.inr (fun i => if i < 4 then some (gc_a X (k + 14 + 6 * i)) else none))))) := by
  rw [gw_E_c (gc_lt h (by decide)), h]
  rfl
theorem gc_at7 {X : gw_X} {M Y : gw_M} {k : Nat} (h : gc_k k = (7, 4)) : (gw_W X.2.1 (gw_E X M Y) 100)[k]? = some (X.2.1 k, .inl (X.2.2.1 3, 4, .inr (.inr (.inr (.inr (fun i => if i < 4 then some (gc_a X (k + 14 + 6 * i)) else none)))))) := by
  rw [gw_W_at (Nat.lt_trans (gc_lt h (by decide)) (by decide)), gc_E7 h]
theorem gc_E8 {X : gw_X} {M Y : gw_M} {k : Nat} (h : gc_k k = (8, 3)) : gw_E X M Y k = .inl (X.2.2.1 4, 3, .inr (.inr (.inr (.inr (fun i => if i < 3 then some (gc_a X (k + 27 + 3 * i)) else none))))) := by
  rw [gw_E_c (gc_lt h (by decide)), h]
  rfl
theorem gc_at8 {X : gw_X} {M Y : gw_M} {k : Nat} (h : gc_k k = (8, 3)) : (gw_W X.2.1 (gw_E X M Y) 100)[k]? = some (X.2.1 k, .inl (X.2.2.1 4, 3, .inr (.inr (.inr (.inr (fun i => if i < 3 then some (gc_a X (k + 27 + 3 * i)) else none)))))) := by
  rw [gw_W_at (Nat.lt_trans (gc_lt h (by decide)) (by decide)), gc_E8 h]
theorem gc_E9 {X : gw_X} {M Y : gw_M} {k : Nat} (h : gc_k k = (9, 4)) : gw_E X M Y k = .inl (X.2.2.1 5, 4, .inr (.inr (.inr (.inr (fun i => if i < 4 then some (gc_a X (k + 35 + 7 * i)) else none))))) := by
  rw [gw_E_c (gc_lt h (by decide)), h]
  rfl
theorem gc_at9 {X : gw_X} {M Y : gw_M} {k : Nat} (h : gc_k k = (9, 4)) : (gw_W X.2.1 (gw_E X M Y) 100)[k]? = some (X.2.1 k, .inl (X.2.2.1 5, 4, .inr (.inr (.inr (.inr (fun i => if i < 4 then some (gc_a X (k + 35 + 7 * i)) else none)))))) := by
  rw [gw_W_at (Nat.lt_trans (gc_lt h (by decide)) (by decide)), gc_E9 h]
theorem gr_E0 {X : gw_X} {M Y : gw_M} {k : Nat} {n : Nat} (h : gr_k k = (0, n)) : gw_E X Y M (76 + k) = .inl (X.2.2.1 0, n, .inl (M.1 k)) := by
  rw [gw_E_r, h]
  rfl
theorem gr_at0 {X : gw_X} {M Y : gw_M} {k : Nat} {n : Nat} (h : gr_k k = (0, n)) : (gw_W X.2.1 (gw_E X Y M) 100)[(76 + k)]? = some (X.2.1 (76 + k), .inl (X.2.2.1 0, n, .inl (M.1 k))) := by
  rw [gw_W_at ((by have := gr_lt h (by decide); omega)), gr_E0 h]
theorem gr_E1 {X : gw_X} {M Y : gw_M} {k : Nat} {n : Nat} (h : gr_k k = (1, n)) : gw_E X Y M (76 + k) = .inl (X.2.2.1 1, n, .inr (.inl (M.2 k))) := by
  rw [gw_E_r, h]
  rfl
theorem gr_at1 {X : gw_X} {M Y : gw_M} {k : Nat} {n : Nat} (h : gr_k k = (1, n)) : (gw_W X.2.1 (gw_E X Y M) 100)[(76 + k)]? = some (X.2.1 (76 + k), .inl (X.2.2.1 1, n, .inr (.inl (M.2 k)))) := by
  rw [gw_W_at ((by have := gr_lt h (by decide); omega)), gr_E1 h]
theorem gr_E10 {X : gw_X} {M Y : gw_M} {k : Nat} {n : Nat} (h : gr_k k = (10, n)) : gw_E X Y M (76 + k) = .inl (X.2.2.1 2, n, .inl (M.1 k)) := by
  rw [gw_E_r, h]
  rfl
theorem gr_at10 {X : gw_X} {M Y : gw_M} {k : Nat} {n : Nat} (h : gr_k k = (10, n)) : (gw_W X.2.1 (gw_E X Y M) 100)[(76 + k)]? = some (X.2.1 (76 + k), .inl (X.2.2.1 2, n, .inl (M.1 k))) := by
  rw [gw_W_at ((by have := gr_lt h (by decide); omega)), gr_E10 h]
theorem gr_E11 {X : gw_X} {M Y : gw_M} {k : Nat} (h : gr_k k = (11, 0)) : gw_E X Y M (76 + k) = .inr (5, [.ref (gr_a X (k + 1)), .ref (gr_a X (k + 2)), .ref (gr_a X (k + 3)), .ref (gr_a X (k + 4)), .ref (gr_a X (k + 5)), .ref (gr_a X (k + 6)), .ref (gr_a X (k + 7)), .ref (gr_a X (k + 8)), .ref (gr_a X (k + 9)), .ref (gr_a X (k + 10)), .ref (gr_a X (k + 11)), .int (M.1 k 11), .ref (gr_a X (k + 12)), .ref (gr_a X (k + 13)), .ref (gr_a X (k + 14)), .ref (gr_a X (k + 15)), .ref (gr_a X (k + 16)), .int (M.1 k 17), .ref (gr_a X (k + 17)), .ref (gr_a X (k + 18)), .ref (gr_a X (k + 19)), .ref (gr_a X (k + 20)), .ref (gr_a X (k + 21)), .ref (gr_a X (k + 22)), .int (M.1 k 24), .long (M.2 k 25), .ref (gr_a X (k + 23)), .int (M.1 k 27)]) := by
  rw [gw_E_r, h]
  rfl
theorem gr_at11 {X : gw_X} {M Y : gw_M} {k : Nat} (h : gr_k k = (11, 0)) : (gw_W X.2.1 (gw_E X Y M) 100)[(76 + k)]? = some (X.2.1 (76 + k), .inr (5, [.ref (gr_a X (k + 1)), .ref (gr_a X (k + 2)), .ref (gr_a X (k + 3)), .ref (gr_a X (k + 4)), .ref (gr_a X (k + 5)), .ref (gr_a X (k + 6)), .ref (gr_a X (k + 7)), .ref (gr_a X (k + 8)), .ref (gr_a X (k + 9)), .ref (gr_a X (k + 10)), .ref (gr_a X (k + 11)), .int (M.1 k 11), .ref (gr_a X (k + 12)), .ref (gr_a X (k + 13)), .ref (gr_a X (k + 14)), .ref (gr_a X (k + 15)), .ref (gr_a X (k + 16)), .int (M.1 k 17), .ref (gr_a X (k + 17)), .ref (gr_a X (k + 18)), .ref (gr_a X (k + 19)), .ref (gr_a X (k + 20)), .ref (gr_a X (k + 21)), .ref (gr_a X (k + 22)), .int (M.1 k 24), .long (M.2 k 25), .ref (gr_a X (k + 23)), .int (M.1 k 27)])) := by
  rw [gw_W_at ((by have := gr_lt h (by decide); omega)), gr_E11 h]
def gw_A (X : gw_X) : Nat → Prop := fun q => ∃ k, k < 100 ∧ q = X.2.1 k
/-- what holds of the tables through a method -/
def gw_K (X : gw_X) (s : State) : Prop := va_K X.1 gw_cl (gw_tys X) s ∧ (∀ w ∈ gw_nest, va_Nw w s) ∧ va_Z "AccountMachine" "SERVICE_UNITS" "[I" (.ref X.2.2.2) (gw_A X) s s.heap ∧ va_T .int X.2.2.2 4 (fun j => .int (gw_un j)) (gw_A X) s s.heap
/-- what holds of the heap: the cells, apart, and nothing else has changed since the method began -/
def gw_G (X : gw_X) (E : Nat → va_E) (s : State) (H : Heap) (locs : List Loc) : Prop := va_P X.1 gw_cl (gw_W X.2.1 E 100) H ∧ va_D (gw_A X) (gw_W X.2.1 E 100) ∧ va_S (gw_A X) s.heap H locs
def gw_B (X : gw_X) (E : Nat → va_E) (U : State) : Prop := gw_K X U ∧ va_P X.1 gw_cl (gw_W X.2.1 E 100) U.heap ∧ va_D (gw_A X) (gw_W X.2.1 E 100)
def gw_R (X : gw_X) (E : Nat → va_E) (t : State) : Prop := va_P X.1 gw_cl (gw_W X.2.1 E 100) t.heap ∧ va_D (gw_A X) (gw_W X.2.1 E 100)
abbrev gw_Qi (X : gw_X) (EF : gw_M → Nat → va_E) (z : Int32 × gw_M) : Array Value → State → Outcome → State → Prop := va_Qi (fun (r : Int32) (M : gw_M) => some (r, M) = some z) (fun M t => gw_R X (EF M) t) (gw_A X)
abbrev gw_Ql (X : gw_X) (EF : gw_M → Nat → va_E) (z : Int64 × gw_M) : Array Value → State → Outcome → State → Prop := va_Ql (fun (r : Int64) (M : gw_M) => some (r, M) = some z) (fun M t => gw_R X (EF M) t) (gw_A X)
abbrev gw_Qv (X : gw_X) (EF : gw_M → Nat → va_E) (z : Unit × gw_M) : Array Value → State → Outcome → State → Prop := va_Qv (fun (M : gw_M) => some ((), M) = some z) (fun M t => gw_R X (EF M) t) (gw_A X)
def gw_C (ws : List Cond) (bytes : ByteArray) (nL : Nat) (ret : Option FieldType) (own : String) (X : gw_X) (p : Program) (s : State) (m : MethodId) (args : Array Value) (meth : Method) (c : Code) : Prop :=
  p.tables.exec = Jvm.exec ∧ c.code = bytes ∧ c.maxLocals = nL ∧ s.vm.findClass own = some m.cls ∧ (∀ w ∈ ws, w.before args s = true) ∧ meth.sig.returnType = ret ∧ meth.locks = false ∧ gw_K X s
theorem gw_start {X : gw_X} {E : Nat → va_E} {s : State} (h : gw_B X E s) : gw_G X E s s.heap [] := ⟨h.2.1, h.2.2, va_S.rf⟩
theorem gw_ctx {p : Program} {l : Launch} {y : MethodName} {ws : List Cond} {rm : Room} {cc : ByteArray} {n : Nat} {ret : Option FieldType} {e : Env} {s : State} {m : MethodId} {args : Array Value} {below : List Frame} {meth : Method} {c : Code} {s₁ : State} {own : String} {X : gw_X} {E : Nat → va_E} (B : BodyLoose p l y (headSpec ws rm) cc n ret e s m args below meth c s₁) (hml : c.maxLocals = n) (ho : y.cls = own) (hB : gw_B X E s) : gw_C ws cc n ret own X p s m args meth c :=
  ⟨B.exec, B.bytes, hml, by rw [← ho]; exact findClass_of_methodNamed B.named, atoms_spec (ws := ws) B.pre, B.returns, B.notSynchronized, hB.1⟩
theorem gw_Nw_warm {w : Cond} {s U : State} (hw : w ∈ gw_nest) (hW : s.WarmedH U.vm) (h : va_Nw w s) : va_Nw w U := by
  have hk : gw_isNest w = true := (List.all_eq_true.mp gw_nest_ok) w hw
  cases w <;> first | exact va_Nw.warmF hW h | exact va_Nw.warmM hW h | cases hk
theorem gw_Nw_on {w : Cond} (hw : w ∈ gw_nest) : w.onTables = true := by
  have hk : gw_isNest w = true := (List.all_eq_true.mp gw_nest_ok) w hw
  cases w <;> first | rfl | cases hk
theorem gw_nw {X : gw_X} {s : State} {args : Array Value} {w : Cond} (hK : gw_K X s) (hw : w ∈ gw_nest) : w.before args s = true := va_Nw.use (gw_Nw_on hw) (hK.2.1 w hw)
theorem gw_blind {X : gw_X} {E : Nat → va_E} {av : List Value} : FrameBlind (va_Pc av (gw_B X E)) := fun a U g mk q =>
  ⟨q.1, ⟨va_K.moved (u := U) (U := U.calling g mk a) (Vm.Alike.refl U.vm) q.2.1.1, fun w hw => va_Nw.same (u := U) (U := U.calling g mk a) (gw_Nw_on hw) rfl (q.2.1.2.1 w hw), va_Z.moved (u := U) (U := U.calling g mk a) (Vm.Alike.refl U.vm) q.2.1.2.2.1, va_T.moved (u := U) (U := U.calling g mk a) (Vm.Alike.refl U.vm) q.2.1.2.2.2⟩, q.2.2⟩
theorem gw_pre {X : gw_X} {E : Nat → va_E} {s : State} {H : Heap} {locs : List Loc} {av : List Value} (hK : gw_K X s) (G : gw_G X E s H locs) : ∀ U : State, U.heap = H → s.WarmedH U.vm → va_Pc av (gw_B X E) av.toArray U := by
  intro U hU hW
  refine ⟨rfl, ⟨va_K.moved hW.alike hK.1, fun w hw => gw_Nw_warm hw hW (hK.2.1 w hw), ?_, ?_⟩, by rw [hU]; exact G.1, G.2.1⟩
  · rw [hU]
    exact va_Z.moved hW.alike (hK.2.2.1.kept (fun a h1 h2 => G.2.2.2.1 a h1 h2))
  · rw [hU]
    exact va_T.moved hW.alike (hK.2.2.2.kept (fun a h1 h2 => G.2.2.2.1 a h1 h2))
theorem gw_endi {X : gw_X} {EF : gw_M → Nat → va_E} {z : Int32 × gw_M} {r : Int32} {M : gw_M} {s t : State} {H : Heap} {locs : List Loc} {a : Array Value} (G : gw_G X (EF M) s H locs) (ht : t.heap = H) (hF : some (r, M) = some z) : gw_Qi X EF z a s (.returned (some (.int r))) t := ⟨⟨r, M, rfl, hF, by rw [ht]; exact G.1, G.2.1⟩, G.2.2.F ht⟩
theorem gw_endl {X : gw_X} {EF : gw_M → Nat → va_E} {z : Int64 × gw_M} {r : Int64} {M : gw_M} {s t : State} {H : Heap} {locs : List Loc} {a : Array Value} (G : gw_G X (EF M) s H locs) (ht : t.heap = H) (hF : some (r, M) = some z) : gw_Ql X EF z a s (.returned (some (.long r))) t := ⟨⟨r, M, rfl, hF, by rw [ht]; exact G.1, G.2.1⟩, G.2.2.F ht⟩
theorem gw_endv {X : gw_X} {EF : gw_M → Nat → va_E} {z : Unit × gw_M} {M : gw_M} {s t : State} {H : Heap} {locs : List Loc} {a : Array Value} (G : gw_G X (EF M) s H locs) (ht : t.heap = H) (hF : some ((), M) = some z) : gw_Qv X EF z a s (.returned none) t := ⟨⟨M, rfl, hF, by rw [ht]; exact G.1, G.2.1⟩, G.2.2.F ht⟩
