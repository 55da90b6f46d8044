def lw_N0 : Nat → Nat → Bool := fun _ _ => false
def lw_Z0 : gw_M := (fun _ _ => 0, fun _ _ => 0)
def lw_N1 : Nat → Nat → Bool := (bw_s (bw_s (bw_s (bw_s (bw_s (bw_s (bw_s (bw_s (bw_s (bw_s (bw_s (bw_s (bw_s (bw_s (bw_s (bw_s (bw_s (bw_s (bw_s (bw_s (bw_s (bw_s (bw_s (bw_s (bw_s (bw_s (bw_s (bw_s (bw_s (bw_s (bw_s (bw_s (bw_s (bw_s (bw_s (bw_s (bw_s (bw_s (bw_s (bw_s (bw_s (bw_s (bw_s (bw_s (bw_s (bw_s (bw_s (bw_s (bw_s (bw_s (bw_s (bw_s (bw_s (bw_s (bw_s (bw_s (bw_s (bw_s (bw_s (bw_s (bw_s (bw_s (bw_s (bw_s (bw_s (bw_s (bw_s (bw_s (bw_s (bw_s (bw_s (bw_s (bw_s (bw_s (bw_s lw_N0 0 0) (2) 0) (2) 1) (2) 2) (2) 3) 0 1) (7) 0) (7) 1) (7) 2) (7) 3) 0 2) 0 3) 0 5) 0 8) (15) 0) (15) 1) (15) 2) (15) 3) (15) 4) 1 0) (21) 0) (21) 1) (21) 2) (21) 3) (21) 4) 1 1) (27) 0) (27) 1) (27) 2) (27) 3) (27) 4) 1 2) (33) 0) (33) 1) (33) 2) (33) 3) (33) 4) 1 3) (39) 3) (39) 4) 12 0) (42) 3) (42) 4) 12 1) (45) 3) (45) 4) 12 2) (48 + 1) 3) (48 + 1) 4) (48) 0) (48) 1) (48) 2) (48) 3) 13 0) (55 + 1) 3) (55 + 1) 4) (55) 0) (55) 1) (55) 2) (55) 3) 13 1) (62 + 1) 3) (62 + 1) 4) (62) 0) (62) 1) (62) 2) (62) 3) 13 2) (69 + 1) 3) (69 + 1) 4) (69) 0) (69) 1) (69) 2) (69) 3) 13 3)
/-- the system's memory when it has been made -/
def lw_C1 : gw_M := (bw_fl (bw_fl lw_Z0 (2 + 1) 8 (100 : Int32)) (7 + 1) 8 (100 : Int32))
def lw_N2 : Nat → Nat → Bool := (bw_s (bw_s (bw_s (bw_s (bw_s (bw_s (bw_s (bw_s (bw_s (bw_s (bw_s (bw_s (bw_s (bw_s (bw_s (bw_s (bw_s (bw_s (bw_s (bw_s (bw_s (bw_s (bw_s lw_N1 76 0) 76 1) 76 2) 76 3) 76 4) 76 5) 76 6) 76 7) 76 8) 76 9) 76 10) 76 12) 76 13) 76 14) 76 15) 76 16) 76 18) 76 19) 76 20) 76 21) 76 22) 76 23) 76 26)
/-- the reference's -/
def lw_R1 : gw_M := (gw_sI (gw_sI (gw_sI (gw_sI (gw_sI (gw_sI (gw_sI (gw_sI (gw_sI (gw_sI (gw_sI (gw_sI (gw_sI (gw_sI (gw_sI (gw_sI lw_Z0 1 0 (100 : Int32)) 1 1 (100 : Int32)) 1 2 (100 : Int32)) 1 3 (100 : Int32)) 1 4 (100 : Int32)) 1 5 (100 : Int32)) 1 6 (100 : Int32)) 1 7 (100 : Int32)) 1 8 (100 : Int32)) 1 9 (100 : Int32)) 1 10 (100 : Int32)) 1 11 (100 : Int32)) 1 12 (100 : Int32)) 1 13 (100 : Int32)) 1 14 (100 : Int32)) 1 15 (100 : Int32))
theorem lw_z0 : bw_Z lw_Z0 lw_N0 0 0 := ⟨fun _ _ _ => rfl, fun _ _ => ⟨rfl, rfl⟩⟩
theorem lw_z1 : bw_Z lw_Z0 lw_N1 76 0 := by
  unfold lw_N1
  repeat (first | exact ⟨fun _ _ _ => rfl, fun _ _ => ⟨rfl, rfl⟩⟩ | refine bw_Zs ?_ (by decide))
def lw_rf (q : Nat) : List Nat := match q with
  | 2 => [0, 1, 2, 3, 5, 8]
  | 3 => [0, 1, 2, 3]
  | 4 => [3, 4]
  | 5 => [0, 1, 2, 3, 4]
  | 6 => [0, 1, 2, 3]
  | 7 => [0, 1, 2, 3]
  | 8 => [0, 1, 2]
  | 9 => [0, 1, 2, 3]
  | 11 => [0, 1, 2, 3, 4, 5, 6, 7, 8, 9, 10, 12, 13, 14, 15, 16, 18, 19, 20, 21, 22, 23, 26]
  | _ => []
theorem lc_eq2 {X : gw_X} {M : gw_M} {N : Nat → Nat → Bool} {k n : Nat} (h : ∀ j, j ∈ lw_rf 2 → N k j = true) : bc_e X M N k (2, n) = gc_e X M k (2, n) := by
  have h0 := h 0 (by decide)
  have h1 := h 1 (by decide)
  have h2 := h 2 (by decide)
  have h3 := h 3 (by decide)
  have h5 := h 5 (by decide)
  have h8 := h 8 (by decide)
  simp only [bc_e, gc_e, h0, h1, h2, h3, h5, h8, bw_r]
theorem lc_eq3 {X : gw_X} {M : gw_M} {N : Nat → Nat → Bool} {k n : Nat} (h : ∀ j, j ∈ lw_rf 3 → N k j = true) : bc_e X M N k (3, n) = gc_e X M k (3, n) := by
  have h0 := h 0 (by decide)
  have h1 := h 1 (by decide)
  have h2 := h 2 (by decide)
  have h3 := h 3 (by decide)
  simp only [bc_e, gc_e, h0, h1, h2, h3, bw_r]
theorem lc_eq4 {X : gw_X} {M : gw_M} {N : Nat → Nat → Bool} {k n : Nat} (h : ∀ j, j ∈ lw_rf 4 → N k j = true) : bc_e X M N k (4, n) = gc_e X M k (4, n) := by
  have h3 := h 3 (by decide)
  have h4 := h 4 (by decide)
  simp only [bc_e, gc_e, h3, h4, bw_r]
theorem lc_eq5 {X : gw_X} {M : gw_M} {N : Nat → Nat → Bool} {k n : Nat} (h : ∀ j, j ∈ lw_rf 5 → N k j = true) : bc_e X M N k (5, n) = gc_e X M k (5, n) := by
  have h0 := h 0 (by decide)
  have h1 := h 1 (by decide)
  have h2 := h 2 (by decide)
  have h3 := h 3 (by decide)
  have h4 := h 4 (by decide)
  simp only [bc_e, gc_e, h0, h1, h2, h3, h4, bw_r]
theorem lc_eq6 {X : gw_X} {M : gw_M} {N : Nat → Nat → Bool} {k n : Nat} (h : ∀ j, j ∈ lw_rf 6 → N k j = true) : bc_e X M N k (6, n) = gc_e X M k (6, n) := by
  have h0 := h 0 (by decide)
  have h1 := h 1 (by decide)
  have h2 := h 2 (by decide)
  have h3 := h 3 (by decide)
  simp only [bc_e, gc_e, h0, h1, h2, h3, bw_r]
theorem lr_eq11 {X : gw_X} {M : gw_M} {N : Nat → Nat → Bool} {k n : Nat} (h : ∀ j, j ∈ lw_rf 11 → N (76 + k) j = true) : br_e X M N k (11, n) = gr_e X M k (11, n) := by
  have h0 := h 0 (by decide)
  have h1 := h 1 (by decide)
  have h2 := h 2 (by decide)
  have h3 := h 3 (by decide)
  have h4 := h 4 (by decide)
  have h5 := h 5 (by decide)
  have h6 := h 6 (by decide)
  have h7 := h 7 (by decide)
  have h8 := h 8 (by decide)
  have h9 := h 9 (by decide)
  have h10 := h 10 (by decide)
  have h12 := h 12 (by decide)
  have h13 := h 13 (by decide)
  have h14 := h 14 (by decide)
  have h15 := h 15 (by decide)
  have h16 := h 16 (by decide)
  have h18 := h 18 (by decide)
  have h19 := h 19 (by decide)
  have h20 := h 20 (by decide)
  have h21 := h 21 (by decide)
  have h22 := h 22 (by decide)
  have h23 := h 23 (by decide)
  have h26 := h 26 (by decide)
  simp only [br_e, gr_e, h0, h1, h2, h3, h4, h5, h6, h7, h8, h9, h10, h12, h13, h14, h15, h16, h18, h19, h20, h21, h22, h23, h26, bw_r]
theorem lc_eq7 {X : gw_X} {M : gw_M} {N : Nat → Nat → Bool} {k n : Nat} (h : ∀ j, j ∈ lw_rf 7 → N k j = true) : bc_e X M N k (7, n) = gc_e X M k (7, n) := by
  have he : (fun i => if i < 4 ∧ N k i = true then some (gc_a X (k + 14 + 6 * i)) else none) = (fun i => if i < 4 then some (gc_a X (k + 14 + 6 * i)) else none) := by
    funext i
    by_cases hi : i < 4
    · have h1 : N k i = true := h i (by unfold lw_rf; simp; omega)
      simp [hi, h1]
    · simp [hi]
  simp only [bc_e, gc_e, he]
theorem lc_eq8 {X : gw_X} {M : gw_M} {N : Nat → Nat → Bool} {k n : Nat} (h : ∀ j, j ∈ lw_rf 8 → N k j = true) : bc_e X M N k (8, n) = gc_e X M k (8, n) := by
  have he : (fun i => if i < 3 ∧ N k i = true then some (gc_a X (k + 27 + 3 * i)) else none) = (fun i => if i < 3 then some (gc_a X (k + 27 + 3 * i)) else none) := by
    funext i
    by_cases hi : i < 3
    · have h1 : N k i = true := h i (by unfold lw_rf; simp; omega)
      simp [hi, h1]
    · simp [hi]
  simp only [bc_e, gc_e, he]
theorem lc_eq9 {X : gw_X} {M : gw_M} {N : Nat → Nat → Bool} {k n : Nat} (h : ∀ j, j ∈ lw_rf 9 → N k j = true) : bc_e X M N k (9, n) = gc_e X M k (9, n) := by
  have he : (fun i => if i < 4 ∧ N k i = true then some (gc_a X (k + 35 + 7 * i)) else none) = (fun i => if i < 4 then some (gc_a X (k + 35 + 7 * i)) else none) := by
    funext i
    by_cases hi : i < 4
    · have h1 : N k i = true := h i (by unfold lw_rf; simp; omega)
      simp [hi, h1]
    · simp [hi]
  simp only [bc_e, gc_e, he]
theorem lw_eqC {X : gw_X} {M : gw_M} {N : Nat → Nat → Bool} {k : Nat} {q : Nat × Nat} (hq : q.1 < 10) (h : ∀ j, j ∈ lw_rf q.1 → N k j = true) : bc_e X M N k q = gc_e X M k q := by
  obtain ⟨a, n⟩ := q
  match a, hq, h with
  | 0, _, _ => rfl
  | 1, _, _ => rfl
  | 2, _, h => exact lc_eq2 h
  | 3, _, h => exact lc_eq3 h
  | 4, _, h => exact lc_eq4 h
  | 5, _, h => exact lc_eq5 h
  | 6, _, h => exact lc_eq6 h
  | 7, _, h => exact lc_eq7 h
  | 8, _, h => exact lc_eq8 h
  | 9, _, h => exact lc_eq9 h
theorem lw_eqR {X : gw_X} {M : gw_M} {N : Nat → Nat → Bool} {k : Nat} {q : Nat × Nat} (hq : q.1 = 0 ∨ q.1 = 1 ∨ q.1 = 10 ∨ q.1 = 11) (h : ∀ j, j ∈ lw_rf q.1 → N (76 + k) j = true) : br_e X M N k q = gr_e X M k q := by
  obtain ⟨a, n⟩ := q
  rcases hq with h1 | h1 | h1 | h1 <;> (have h1 : a = _ := h1; subst h1)
  · rfl
  · rfl
  · rfl
  · exact lr_eq11 h
theorem lw_n1 : ∀ k, k < 76 → (gc_k k).1 < 10 ∧ ∀ j, j ∈ lw_rf (gc_k k).1 → lw_N2 k j = true := by decide +kernel
theorem lw_n2 : ∀ k, k < 24 → ((gr_k k).1 = 0 ∨ (gr_k k).1 = 1 ∨ (gr_k k).1 = 10 ∨ (gr_k k).1 = 11) ∧ ∀ j, j ∈ lw_rf (gr_k k).1 → lw_N2 (76 + k) j = true := by decide +kernel
/-- when both are made, the world is one of gw_E -/
theorem lw_made {X : gw_X} : ∀ k, k < 100 → bw_E X lw_C1 lw_R1 lw_N2 k = gw_E X lw_C1 lw_R1 k := by
  intro k hk
  unfold bw_E gw_E
  by_cases h : k < 76
  · rw [if_pos h, if_pos h, lw_eqC (lw_n1 k h).1 (lw_n1 k h).2]
  · rw [if_neg h, if_neg h]
    have h2 := lw_n2 (k - 76) (by omega)
    exact lw_eqR h2.1 h2.2
theorem lw_W {ad : Nat → Nat} {E E1 : Nat → va_E} {n : Nat} (h : ∀ k, k < n → E k = E1 k) : gw_W ad E n = gw_W ad E1 n := by
  unfold gw_W
  apply List.map_congr_left
  intro k hk
  rw [h k (List.mem_range.mp hk)]
/-- a relation between the two memories that every call keeps, with one answer -/
def lw_ops (Rel : gw_M → gw_M → Prop) : Prop :=
  (∀ x1 x2 x3 x4 x5 x6 : Int32, ∀ C R : gw_M, Rel C R → ∃ (r : Int32) (C1 R1 : gw_M), am_code_b0 C 0 x1 x2 x3 x4 x5 x6 = some (r, C1) ∧ mo_code_b0 R 0 x1 x2 x3 x4 x5 x6 = some (r, R1) ∧ Rel C1 R1) ∧
  (∀ x1 : Int32, ∀ C R : gw_M, Rel C R → ∃ (r : Int32) (C1 R1 : gw_M), am_wipe_b0 C 0 x1 = some (r, C1) ∧ mo_wipe_b0 R 0 x1 = some (r, R1) ∧ Rel C1 R1) ∧
  (∀ x1 : Int32, ∀ C R : gw_M, Rel C R → ∃ (r : Int32) (C1 R1 : gw_M), am_load_b0 C 0 x1 = some (r, C1) ∧ mo_load_b0 R 0 x1 = some (r, R1) ∧ Rel C1 R1) ∧
  (∀ x1 x2 : Int32, ∀ C R : gw_M, Rel C R → ∃ (r : Int32) (C1 R1 : gw_M), am_order_b0 C 0 x1 x2 = some (r, C1) ∧ mo_order_b0 R 0 x1 x2 = some (r, R1) ∧ Rel C1 R1) ∧
  (∀ x1 x2 : Int32, ∀ C R : gw_M, Rel C R → ∃ (r : Int32) (C1 R1 : gw_M), am_slot_b0 C 0 x1 x2 = some (r, C1) ∧ mo_slot_b0 R 0 x1 x2 = some (r, R1) ∧ Rel C1 R1) ∧
  (∀ x1 : Int32, ∀ C R : gw_M, Rel C R → ∃ (r : Int32) (C1 R1 : gw_M), am_run_b0 C 0 x1 = some (r, C1) ∧ mo_run_b0 R 0 x1 = some (r, R1) ∧ Rel C1 R1) ∧
  (∀ C R : gw_M, Rel C R → ∃ (r : Int32) (C1 R1 : gw_M), am_units_b0 C 0  = some (r, C1) ∧ mo_units_b0 R 0  = some (r, R1) ∧ Rel C1 R1) ∧
  (∀ C R : gw_M, Rel C R → ∃ (r : Int64) (C1 R1 : gw_M), am_result_b0 C 0  = some (r, C1) ∧ mo_result_b0 R 0  = some (r, R1) ∧ Rel C1 R1) ∧
  (∀ x1 : Int32, ∀ C R : gw_M, Rel C R → ∃ (r : Int64) (C1 R1 : gw_M), am_log_b0 C 0 x1 = some (r, C1) ∧ mo_log_b0 R 0 x1 = some (r, R1) ∧ Rel C1 R1) ∧
  (∀ C R : gw_M, Rel C R → ∃ (r : Int32) (C1 R1 : gw_M), am_logged_b0 C 0  = some (r, C1) ∧ mo_logged_b0 R 0  = some (r, R1) ∧ Rel C1 R1) ∧
  (∀ x1 x2 : Int32, ∀ C R : gw_M, Rel C R → ∃ (r : Int32) (C1 R1 : gw_M), am_account_b0 C 0 x1 x2 = some (r, C1) ∧ mo_account_b0 R 0 x1 x2 = some (r, R1) ∧ Rel C1 R1) ∧
  (∀ x1 x2 : Int32, ∀ C R : gw_M, Rel C R → ∃ (r : Int32) (C1 R1 : gw_M), am_data_b0 C 0 x1 x2 = some (r, C1) ∧ mo_data_b0 R 0 x1 x2 = some (r, R1) ∧ Rel C1 R1)
