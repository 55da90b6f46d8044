/-- only the order at o has changed -/
def fn_C (C C1 : gw_M) (o : Nat) : Prop := (∀ a, a ≠ o → a ≠ o + 1 → a ≠ o + 2 → C1.1 a = C.1 a) ∧ C1.2 = C.2
theorem fn_C.rf {C : gw_M} {o : Nat} : fn_C C C o := ⟨fun _ _ _ _ => rfl, rfl⟩
theorem fn_C.tr {A B C : gw_M} {o : Nat} (h : fn_C A B o) (g : fn_C B C o) : fn_C A C o := ⟨fun a h0 h1 h2 => (g.1 a h0 h1 h2).trans (h.1 a h0 h1 h2), g.2.trans h.2⟩
theorem fn_C.a {C : gw_M} {o i : Nat} {x y z : Int32} : fn_C C (gw_sI (gw_sI (gw_sI C (o + 1) i x) (o + 2) i y) o 2 z) o := ⟨fun a h0 h1 h2 => by rw [gw_sI_1 _ h0, gw_sI_1 _ h2, gw_sI_1 _ h1], rfl⟩
theorem fn_C.s {C C1 : gw_M} {o co k : Nat} {av mv : Nat → Nat} (h : fn_C C C1 o) (ho : co + 2 < o) (hC : qs_C C co k av mv) : qs_C C1 co k av mv := qs_Cc hC (h.1 _ (by omega) (by omega) (by omega)) (h.1 _ (by omega) (by omega) (by omega)) (h.1 _ (by omega) (by omega) (by omega))
theorem fn_C.k {C C1 : gw_M} {t o : Nat} (h : fn_C C C1 o) (ho : 48 + 7 * t ≤ o) : sk_C C C1 t := ⟨⟨fun k h1 h2 => ⟨h.1 k (by omega) (by omega) (by omega), fun _ => congrFun h.2 k⟩, congrFun (h.1 0 (by omega) (by omega) (by omega)) 4⟩, fun k hk => h.1 k (by omega) (by omega) (by omega), congrFun h.2 0, congrFun h.2 14⟩
theorem fn_C.o {C C1 : gw_M} {t : Nat} (h : fn_C C C1 (49 + 7 * (t + 1))) : fo_C C C1 t := ⟨fun k h1 h2 => h.1 k (by omega) (by omega) (by omega), fun k h1 h2 => h.1 k (by omega) (by omega) (by omega), congrFun (h.1 _ (by omega) (by omega) (by omega)) 4, h.1 _ (by omega) (by omega) (by omega), congrFun h.2 _, congrFun h.2 _⟩
theorem pu_fillL {o co k cnt : Nat} {av mv : Nat → Nat} {A : Int64} (ho : co + 3 < o) (hB : qs_B k av mv) (hn : cnt ≤ 4) (h9 : qn_9 A cnt k) : ∀ (d i f : Nat) (C : gw_M), i + d = cnt → d < f → qs_C C (co + 1) k av mv → qs_C C o i (fun j => av (pm_by A j % 4)) (fun j => pm_by A j / 4 % 4) → ∃ C1 : gw_M, am_fillOrder_l34 f C o co A (nI cnt) (nI i) = some ((), C1) ∧ fn_C C C1 o ∧ (C1.1 o 0 = C.1 o 0 ∧ C1.1 o 1 = C.1 o 1) ∧ qs_C C1 o cnt (fun j => av (pm_by A j % 4)) (fun j => pm_by A j / 4 % 4) := by
  intro d
  induction d with
  | zero =>
    intro i f C hi hf hC hO
    obtain ⟨f, rfl⟩ : ∃ g, f = g + 1 := ⟨f - 1, by omega⟩
    obtain rfl : i = cnt := by omega
    refine ⟨C, ?_, fn_C.rf, ⟨rfl, rfl⟩, hO⟩
    show am_fillOrder_b34 (am_fillOrder_l34 f) C o co A (nI i) (nI i) = _
    unfold am_fillOrder_b34
    rw [if_pos (nI_le (by omega) (by omega))]
  | succ d ih =>
    intro i f C hi hf hC hO
    obtain ⟨f, rfl⟩ : ∃ g, f = g + 1 := ⟨f - 1, by omega⟩
    have hs := h9 i (by omega)
    have hk := hB.1
    have e1 : am_fillOrder_l34 (f + 1) C o co A (nI cnt) (nI i) = am_fillOrder_l34 f (gw_sI (gw_sI (gw_sI C (o + 1) i (nI (av (pm_by A i % 4)))) (o + 2) i (nI (pm_by A i / 4 % 4))) o 2 (nI (i + 1))) o co A (nI cnt) (nI (i + 1)) := by
      show am_fillOrder_b34 (am_fillOrder_l34 f) C o co A (nI cnt) (nI i) = _
      unfold am_fillOrder_b34
      rw [if_neg (nI_ge (by omega) (by omega)), pu_slotOf C A (by omega), pu_bd, pu_gi (show pm_by A i % 4 < 4 by omega) (by decide), pu_marksOf C A (by omega), pu_bd, nI_clamp (show pm_by A i % 4 < 2 ^ 31 by omega), (hC.2 _ hs).1, pu_addSlot (show i ≤ 4 by omega) hO.1, if_pos (show i < 4 by omega), pu_bd, nI_1]
    have fn : fn_C C (gw_sI (gw_sI (gw_sI C (o + 1) i (nI (av (pm_by A i % 4)))) (o + 2) i (nI (pm_by A i / 4 % 4))) o 2 (nI (i + 1))) o := fn_C.a
    obtain ⟨C1, a1, a2, a3, a4⟩ := ih (i + 1) f _ (by omega) (by omega) (fn.s (by omega) hC) ⟨pu_r2 rfl rfl, fun j hj => by
      by_cases he : j = i
      · subst he
        constructor
        · rw [pu_sIn (fun q => absurd q (by omega)), pu_sIn (fun q => absurd q (by omega)), pu_r2 rfl rfl]
        · rw [pu_sIn (fun q => absurd q (by omega)), pu_r2 rfl rfl]
      · constructor
        · rw [pu_sIn (fun q => absurd q (by omega)), pu_sIn (fun q => absurd q (by omega)), pu_sIn (fun _ => by omega)]
          exact (hO.2 j (by omega)).1
        · rw [pu_sIn (fun q => absurd q (by omega)), pu_sIn (fun _ => by omega), pu_sIn (fun q => absurd q (by omega))]
          exact (hO.2 j (by omega)).2⟩
    refine ⟨C1, e1.trans a1, fn.tr a2, ⟨a3.1.trans ?_, a3.2.trans ?_⟩, a4⟩
    · rw [pu_sIn (fun _ => by omega), pu_sIn (fun q => absurd q (by omega)), pu_sIn (fun q => absurd q (by omega))]
    · rw [pu_sIn (fun _ => by omega), pu_sIn (fun q => absurd q (by omega)), pu_sIn (fun q => absurd q (by omega))]
theorem pu_reset {C : gw_M} {o : Nat} {x y : Int32} : od_reset_b0 C o x y = some ((), gw_sI (gw_sI (gw_sI C o 0 x) o 1 y) o 2 0) := by
  unfold od_reset_b0
  rw [pu_lt, pu_lt, pu_lt]
theorem fn_C.r {C : gw_M} {o : Nat} {x y : Int32} : fn_C C (gw_sI (gw_sI (gw_sI C o 0 x) o 1 y) o 2 0) o := ⟨fun a h0 _ _ => by rw [gw_sI_1 _ h0, gw_sI_1 _ h0, gw_sI_1 _ h0], rfl⟩
theorem pu_fillO {C : gw_M} {o co k cnt : Nat} {av mv : Nat → Nat} {A : Int64} (ho : co + 3 < o) (hB : qs_B k av mv) (hn : qn_A A cnt) (h9 : qn_9 A cnt k) (hC : qs_C C (co + 1) k av mv) (hr2 : C.2 (co + 4) 2 = A) : ∃ C1 : gw_M, am_fillOrder_b0 C o co = some ((), C1) ∧ fn_C C C1 o ∧ (C1.1 o 0 = (C.2 (co + 4) 1).toInt32 ∧ C1.1 o 1 = (C.2 (co + 4) 3).toInt32) ∧ qs_C C1 o cnt (fun j => av (pm_by A j % 4)) (fun j => pm_by A j / 4 % 4) := by
  have h4 := hn.1
  have fn : fn_C C (gw_sI (gw_sI (gw_sI C o 0 (C.2 (co + 4) 1).toInt32) o 1 (C.2 (co + 4) 3).toInt32) o 2 0) o := fn_C.r
  obtain ⟨C1, a1, a2, a3, a4⟩ := pu_fillL ho hB h4 h9 cnt 0 2100 _ (Nat.zero_add _) (by omega) (fn.s (by omega) hC) ⟨pu_r2 rfl rfl, fun j hj => absurd hj (by omega)⟩
  refine ⟨C1, ?_, fn.tr a2, ⟨a3.1.trans ?_, a3.2.trans ?_⟩, a4⟩
  · unfold am_fillOrder_b0
    rw [hr2, pu_lt, pu_count hn, pu_bd, pu_reset, pu_bd]
    exact a1
  · rw [pu_sIn (fun _ => by omega), pu_sIn (fun _ => by omega), pu_r2 rfl rfl]
  · rw [pu_sIn (fun _ => by omega), pu_r2 rfl rfl]
