/-- the asked slots are there; what is asked is within the rights -/
def qn_9 (A : Int64) (cnt k : Nat) : Prop := ∀ j, j < cnt → pm_by A j % 4 < k
def qn_10 (A r4 : Int64) (cnt k p : Nat) (av mv : Nat → Nat) : Prop := ∀ j, j < cnt → pm_ok (pm_mk k av mv (av (pm_by A j % 4))) (pm_by A j) (decide (nI (av (pm_by A j % 4)) = pm_seat p r4)) = true
theorem pu_refusal {C : gw_M} {o p k cnt : Nat} {q : Int32} {A r4 : Int64} {av mv : Nat → Nat} (hp : p < 3) (hB : qs_B k av mv) (h : qs_C C (o + 1) k av mv) (h0 : C.1 (o + 1) 0 = nI (p + 1)) (hr2 : C.2 (o + 4) 2 = A) (hr : C.2 (o + 4) 4 = r4) (hn : qn_A A cnt) : (¬ qn_9 A cnt k → am_refusal_b0 C 0 o q = some (9, C)) ∧ (qn_9 A cnt k → (¬ qn_10 A r4 cnt k p av mv → am_refusal_b0 C 0 o q = some (10, C)) ∧ (qn_10 A r4 cnt k p av mv → am_refusal_b0 C 0 o q = pm_rl C o q)) := by
  have h4 := hn.1
  have e : am_refusal_b0 C 0 o q = am_refusal_l16 2100 C 0 o q A (nI cnt) (nI 0) := by
    unfold am_refusal_b0
    rw [hr2, pu_lt, pu_count hn, pu_bd]
    rfl
  have e9 := pu_ref9 (C := C) (o := o) (q := q) (A := A) hB.1 h.1 h4 cnt 0 2100 (Nat.zero_add _) (by omega)
  rw [e]
  refine ⟨fun n9 => e9.2 (fun z => n9 (fun j hj => z j (Nat.zero_le _) hj)), fun y9 => ?_⟩
  rw [e9.1 (fun j _ hj => y9 j hj)]
  have e10 := pu_ref10 (C := C) (o := o) (q := q) (A := A) hp hB h h0 hr h4 y9 cnt 0 2100 (Nat.zero_add _) (by omega)
  exact ⟨fun n10 => e10.2 (fun z => n10 (fun j hj => z j (Nat.zero_le _) hj)), fun y10 => e10.1 (fun j _ hj => y10 j hj)⟩
theorem pu_make0 {R : gw_M} {A : Int64} {cnt : Nat} {rb : Bool} {v1 v2 : Int32} (hn : qn_A A cnt) (K : gw_M → Nat → Int32 → Int32 → Int64 → Int32 → Int32 → Option (Int32 × gw_M)) : mo_makeOrder_b29 K R 0 v1 v2 A (pm_b rb) (nI cnt) = some (if rb = true then 0 else 10, R) := by
  have h4 := hn.1
  have e : (if pm_b rb = (0 : Int32) then some ((10 : Int32), R) else some ((0 : Int32), R)) = some (if rb = true then 0 else 10, R) := by
    cases rb <;> rfl
  unfold mo_makeOrder_b29
  rw [e]
  by_cases hc : cnt < 4
  · rw [if_neg (show ¬ (4 : Int32) ≤ nI cnt by rw [pu_lit 4]; exact nI_ge (by omega) (by decide)), pu_byR A hc, pu_lt, if_pos ((pu_bits _ (pm_by_lt A cnt)).1.1.mpr (hn.2.2 hc))]
  · rw [if_pos (show (4 : Int32) ≤ nI cnt by rw [pu_lit 4]; exact nI_le (by omega) (by omega))]
theorem pu_makeL {u p k cnt : Nat} {av mv : Nat → Nat} {A r4 : Int64} (hu : u ≤ 4) (hp : p < 3) (hB : qs_B k av mv) (hn : qn_A A cnt) : ∀ (d i f : Nat) (R : gw_M) (rb : Bool), i + d = cnt → d < f → qs_R R (3 + u) k av mv → R.1 12 (3 + u) = nI (p + 1) → R.2 18 (10 * u + 4) = r4 → R.1 14 (4 + u) = nI i → (∀ j, j < i → R.1 15 (4 * (4 + u) + j) = nI (av (pm_by A j % 4)) ∧ R.1 16 (4 * (4 + u) + j) = nI (pm_by A j / 4 % 4)) → ∃ (w : Nat) (R1 : gw_M), mo_makeOrder_l29 f R 0 (nI u) (nI (4 + u)) A (pm_b rb) (nI i) = some (nI w, R1) ∧ fm_R R R1 (4 + u) ∧ ((¬ ∀ j, i ≤ j → j < cnt → pm_by A j % 4 < k) → w = 9) ∧ ((∀ j, i ≤ j → j < cnt → pm_by A j % 4 < k) → ((rb = true ∧ ∀ j, i ≤ j → j < cnt → pm_ok (pm_mk k av mv (av (pm_by A j % 4))) (pm_by A j) (decide (nI (av (pm_by A j % 4)) = pm_seat p r4)) = true) → w = 0) ∧ ((¬ (rb = true ∧ ∀ j, i ≤ j → j < cnt → pm_ok (pm_mk k av mv (av (pm_by A j % 4))) (pm_by A j) (decide (nI (av (pm_by A j % 4)) = pm_seat p r4)) = true)) → w = 10) ∧ R1.1 14 (4 + u) = nI cnt ∧ ∀ j, j < cnt → R1.1 15 (4 * (4 + u) + j) = nI (av (pm_by A j % 4)) ∧ R1.1 16 (4 * (4 + u) + j) = nI (pm_by A j / 4 % 4)) := by
  have h4 := hn.1
  intro d
  induction d with
  | zero =>
    intro i f R rb hi hf hR h12 hr4 h14 hj
    obtain ⟨f, rfl⟩ : ∃ g, f = g + 1 := ⟨f - 1, by omega⟩
    obtain rfl : i = cnt := by omega
    refine ⟨if rb = true then 0 else 10, R, ?_, fm_R.rf, fun z => absurd (fun j h1 h2 => absurd h2 (by omega)) z, fun _ => ⟨fun z => by rw [if_pos z.1], fun z => by rw [if_neg (fun q => z ⟨q, fun j h1 h2 => absurd h2 (by omega)⟩)], h14, hj⟩⟩
    show mo_makeOrder_b29 (mo_makeOrder_l29 f) R 0 (nI u) (nI (4 + u)) A (pm_b rb) (nI i) = _
    rw [pu_make0 hn]
    cases rb <;> rfl
  | succ d ih =>
    intro i f R rb hi hf hR h12 hr4 h14 hj
    obtain ⟨f, rfl⟩ : ∃ g, f = g + 1 := ⟨f - 1, by omega⟩
    have e1 : mo_makeOrder_l29 (f + 1) R 0 (nI u) (nI (4 + u)) A (pm_b rb) (nI i) = _ := pu_make1 hu hp hB hR h12 hr4 h14 (show i < 4 by omega) (hn.2.1 i (by omega)) (mo_makeOrder_l29 f)
    rw [e1]
    by_cases hs : pm_by A i % 4 < k
    · rw [if_pos hs]
      have fm : fm_R R (gw_sI (gw_sI (gw_sI R 15 (4 * (4 + u) + i) (nI (av (pm_by A i % 4)))) 16 (4 * (4 + u) + i) (nI (pm_by A i / 4 % 4))) 14 (4 + u) (nI (i + 1))) (4 + u) := fm_R.a (by omega)
      obtain ⟨w, R1, a1, a2, a3, a4⟩ := ih (i + 1) f _ (rb && pm_ok (pm_mk k av mv (av (pm_by A i % 4))) (pm_by A i) (decide (nI (av (pm_by A i % 4)) = pm_seat p r4))) (by omega) (by omega) (fm.s hB.1 hR) ((congrFun (fm.1 12 (by decide) (by decide) (by decide)) _).trans h12) ((congrFun (congrFun fm.2.1 18) _).trans hr4) (pu_r2 rfl rfl) (fun j hj1 => by
        by_cases he : j = i
        · subst he
          constructor
          · rw [pu_sIn (fun q => absurd q (by decide)), pu_sIn (fun q => absurd q (by decide)), pu_r2 rfl rfl]
          · rw [pu_sIn (fun q => absurd q (by decide)), pu_r2 rfl rfl]
        · constructor
          · rw [pu_sIn (fun q => absurd q (by decide)), pu_sIn (fun q => absurd q (by decide)), pu_sIn (fun _ => by omega)]
            exact (hj j (by omega)).1
          · rw [pu_sIn (fun q => absurd q (by decide)), pu_sIn (fun _ => by omega), pu_sIn (fun q => absurd q (by decide))]
            exact (hj j (by omega)).2)
      refine ⟨w, R1, a1, fm.tr a2, fun z => a3 (fun y => z (fun j h1 h2 => ?_)), fun z => ?_⟩
      · by_cases he : j = i
        · subst he; exact hs
        · exact y j (by omega) h2
      · obtain ⟨b1, b2, b3⟩ := a4 (fun j h1 h2 => z j (by omega) h2)
        refine ⟨fun y => b1 ⟨?_, fun j h1 h2 => y.2 j (by omega) h2⟩, fun y => b2 (fun x => y ⟨?_, fun j h1 h2 => ?_⟩), b3⟩
        · rw [y.1, y.2 i (Nat.le_refl _) (by omega)]; rfl
        · exact (Bool.and_eq_true _ _ ▸ x.1).1
        · by_cases he : j = i
          · subst he; exact (Bool.and_eq_true _ _ ▸ x.1).2
          · exact x.2 j (by omega) h2
    · rw [if_neg hs]
      exact ⟨9, R, rfl, fm_R.rf, fun _ => rfl, fun z => absurd (z i (Nat.le_refl _) (by omega)) hs⟩
theorem pu_make {R : gw_M} {u p k cnt : Nat} {av mv : Nat → Nat} {A r4 : Int64} (hu : u ≤ 4) (hp : p < 3) (hB : qs_B k av mv) (hn : qn_A A cnt) (hR : qs_R R (3 + u) k av mv) (h12 : R.1 12 (3 + u) = nI (p + 1)) (hr2 : R.2 18 (10 * u + 2) = A) (hr4 : R.2 18 (10 * u + 4) = r4) : ∃ (w : Nat) (R1 : gw_M), mo_makeOrder_b0 R 0 (nI u) = some (nI w, R1) ∧ fm_R R R1 (4 + u) ∧ (¬ qn_9 A cnt k → w = 9) ∧ (qn_9 A cnt k → (qn_10 A r4 cnt k p av mv → w = 0) ∧ (¬ qn_10 A r4 cnt k p av mv → w = 10) ∧ R1.1 14 (4 + u) = nI cnt ∧ ∀ j, j < cnt → R1.1 15 (4 * (4 + u) + j) = nI (av (pm_by A j % 4)) ∧ R1.1 16 (4 * (4 + u) + j) = nI (pm_by A j / 4 % 4)) := by
  have h4 := hn.1
  have fm : fm_R R (gw_sI R 14 (4 + u) 0) (4 + u) := ⟨fun a h14 _ _ => gw_sI_1 _ h14, rfl, fun j hj => pu_sIn (fun _ => hj), fun x _ => ⟨pu_sIn (fun q => absurd q (by decide)), pu_sIn (fun q => absurd q (by decide))⟩⟩
  obtain ⟨w, R1, a1, a2, a3, a4⟩ := pu_makeL hu hp hB hn cnt 0 2100 (gw_sI R 14 (4 + u) 0) true (Nat.zero_add _) (by omega) (fm.s hB.1 hR) ((congrFun (fm.1 12 (by decide) (by decide) (by decide)) _).trans h12) hr4 (pu_r2 rfl rfl) (fun j hj => absurd hj (by omega))
  refine ⟨w, R1, ?_, fm.tr a2, fun z => a3 (fun y => z (fun j hj => y j (Nat.zero_le _) hj)), fun z => ?_⟩
  · unfold mo_makeOrder_b0
    rw [show (4 : Int32) + nI u = nI (4 + u) by rw [pu_lit 4, nI_add], pu_lt, show (10 : Int32) * nI u + (2 : Int32) = nI (10 * u + 2) by rw [pu_lit 10, pk_mul, pu_lit 2, nI_add], pu_gi (show 10 * u + 2 < 50 by omega) (by decide), nI_clamp (show 10 * u + 2 < 2 ^ 31 by omega), Nat.zero_add, hr2, pu_lt, pu_gi (show 4 + u < 9 by omega) (by decide), nI_clamp (show 4 + u < 2 ^ 31 by omega), Nat.zero_add, pu_lt]
    exact a1
  · obtain ⟨b1, b2, b3⟩ := a4 (fun j _ hj => z j hj)
    exact ⟨fun y => b1 ⟨rfl, fun j _ hj => y j hj⟩, fun y => b2 (fun x => y (fun j hj => x.2 j (Nat.zero_le _) hj)), b3⟩
