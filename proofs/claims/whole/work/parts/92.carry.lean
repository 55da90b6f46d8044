theorem pu_copyL {o co k : Nat} {av mv : Nat → Nat} (ho : co + 2 < o) (hB : qs_B k av mv) : ∀ (d i f : Nat) (C : gw_M), i + d = k → d < f → qs_C C co k av mv → qs_C C o i av mv → ∃ C1 : gw_M, od_copyFrom_l14 f C o co (nI i) = some ((), C1) ∧ fn_C C C1 o ∧ (C1.1 o 0 = C.1 o 0 ∧ C1.1 o 1 = C.1 o 1) ∧ qs_C C1 o k av mv := by
  have hk := hB.1
  intro d
  induction d with
  | zero =>
    intro i f C hi hf hC hO
    obtain ⟨f, rfl⟩ : ∃ g, f = g + 1 := ⟨f - 1, by omega⟩
    obtain rfl : i = k := by omega
    refine ⟨C, ?_, fn_C.rf, ⟨rfl, rfl⟩, hO⟩
    show od_copyFrom_b14 (od_copyFrom_l14 f) C o co (nI i) = _
    unfold od_copyFrom_b14
    rw [hC.1, if_pos (nI_le (by omega) (by omega))]
  | succ d ih =>
    intro i f C hi hf hC hO
    obtain ⟨f, rfl⟩ : ∃ g, f = g + 1 := ⟨f - 1, by omega⟩
    have e1 : od_copyFrom_l14 (f + 1) C o co (nI i) = od_copyFrom_l14 f (gw_sI (gw_sI (gw_sI C (o + 1) i (nI (av i))) (o + 2) i (nI (mv i))) o 2 (nI (i + 1))) o co (nI (i + 1)) := by
      show od_copyFrom_b14 (od_copyFrom_l14 f) C o co (nI i) = _
      unfold od_copyFrom_b14
      rw [hC.1, if_neg (nI_ge (by omega) (by omega)), pu_gi (show i < 4 by omega) (by decide), pu_gi (show i < 4 by omega) (by decide), nI_clamp (show i < 2 ^ 31 by omega), (hC.2 i (by omega)).1, (hC.2 i (by omega)).2, pu_addSlot (show i ≤ 4 by omega) hO.1, if_pos (show i < 4 by omega), pu_bd, nI_1]
    have fn : fn_C C (gw_sI (gw_sI (gw_sI C (o + 1) i (nI (av i))) (o + 2) i (nI (mv i))) o 2 (nI (i + 1))) o := fn_C.a
    obtain ⟨C1, a1, a2, a3, a4⟩ := ih (i + 1) f _ (by omega) (by omega) (fn.s (by omega) hC) ⟨pu_r2 rfl rfl, fun j hj => by
      by_cases he : j = i
      · subst he
        constructor
        · rw [pu_sIn (fun q => absurd q (by omega)), pu_sIn (fun q => absurd q (by omega)), pu_r2 rfl rfl]
        · rw [pu_sIn (fun q => absurd q (by omega)), pu_r2 rfl rfl]
      · constructor
        · rw [pu_sIn (fun q => absurd q (by omega)), pu_sIn (fun q => absurd q (by omega)), pu_sIn (fun _ => by omega)]
          exact (hO.2 j (by omega)).1
        · rw [pu_sIn (fun q => absurd q (by omega)), pu_sIn (fun _ => by omega), pu_sIn (fun q => absurd q (by omega))]
          exact (hO.2 j (by omega)).2⟩
    refine ⟨C1, e1.trans a1, fn.tr a2, ⟨a3.1.trans ?_, a3.2.trans ?_⟩, a4⟩
    · rw [pu_sIn (fun _ => by omega), pu_sIn (fun q => absurd q (by omega)), pu_sIn (fun q => absurd q (by omega))]
    · rw [pu_sIn (fun _ => by omega), pu_sIn (fun q => absurd q (by omega)), pu_sIn (fun q => absurd q (by omega))]
theorem pu_copyO {C : gw_M} {o co k : Nat} {av mv : Nat → Nat} (ho : co + 2 < o) (hB : qs_B k av mv) (hC : qs_C C co k av mv) : ∃ C1 : gw_M, od_copyFrom_b0 C o co = some ((), C1) ∧ fn_C C C1 o ∧ (C1.1 o 0 = C.1 co 0 ∧ C1.1 o 1 = C.1 co 1) ∧ qs_C C1 o k av mv := by
  have hk := hB.1
  have fn : fn_C C (gw_sI (gw_sI (gw_sI C o 0 (C.1 co 0)) o 1 (C.1 co 1)) o 2 0) o := fn_C.r
  obtain ⟨C1, a1, a2, a3, a4⟩ := pu_copyL ho hB k 0 2100 _ (Nat.zero_add _) (by omega) (fn.s (by omega) hC) ⟨pu_r2 rfl rfl, fun j hj => absurd hj (by omega)⟩
  refine ⟨C1, ?_, fn.tr a2, ⟨a3.1.trans ?_, a3.2.trans ?_⟩, a4⟩
  · unfold od_copyFrom_b0
    rw [pu_reset, pu_bd]
    exact a1
  · rw [pu_sIn (fun _ => by omega), pu_sIn (fun _ => by omega), pu_r2 rfl rfl]
  · rw [pu_sIn (fun _ => by omega), pu_r2 rfl rfl]
def pm_gr (R : gw_M) : Option (Int32 × gw_M) := gw_bd (mo_begin_b0 (gw_sI R 0 17 (1 : Int32)) 0 (1 : Int32)) (fun _ M112 => mo_carryOut_l117 2100 M112 0 (0 : Int32))
theorem pu_l64 {q k : Nat} {av mv : Nat → Nat} (hq : q < 3) (hB : qs_B k av mv) : ∀ (d i f : Nat) (R : gw_M), i + d = k → d < f → qs_R R q k av mv → qs_R R 4 i av mv → ∃ R1 : gw_M, mo_carryOut_l64 f R 0 (nI q) (nI i) = pm_gr R1 ∧ fm_R R R1 4 ∧ qs_R R1 4 k av mv := by
  have hk := hB.1
  intro d
  induction d with
  | zero =>
    intro i f R hi hf hR hO
    obtain ⟨f, rfl⟩ : ∃ g, f = g + 1 := ⟨f - 1, by omega⟩
    obtain rfl : i = k := by omega
    refine ⟨R, ?_, fm_R.rf, hO⟩
    show mo_carryOut_b64 (mo_carryOut_l64 f) R 0 (nI q) (nI i) = _
    unfold mo_carryOut_b64 pm_gr
    rw [pu_gi (show q < 9 by omega) (by decide), nI_clamp (show q < 2 ^ 31 by omega), Nat.zero_add, hR.1, if_pos (nI_le (by omega) (by omega)), pu_lt]
  | succ d ih =>
    intro i f R hi hf hR hO
    obtain ⟨f, rfl⟩ : ∃ g, f = g + 1 := ⟨f - 1, by omega⟩
    have e1 : mo_carryOut_l64 (f + 1) R 0 (nI q) (nI i) = mo_carryOut_l64 f (gw_sI (gw_sI (gw_sI R 15 (4 * 4 + i) (nI (av i))) 16 (4 * 4 + i) (nI (mv i))) 14 4 (nI (i + 1))) 0 (nI q) (nI (i + 1)) := by
      show mo_carryOut_b64 (mo_carryOut_l64 f) R 0 (nI q) (nI i) = _
      unfold mo_carryOut_b64
      rw [pu_gi (show q < 9 by omega) (by decide), nI_clamp (show q < 2 ^ 31 by omega), Nat.zero_add, Nat.zero_add, Nat.zero_add, hR.1, if_neg (nI_ge (by omega) (by omega)), show (4 : Int32) * nI q + nI i = nI (4 * q + i) by rw [pu_lit 4, pk_mul, nI_add], pu_gi (show 4 * q + i < 36 by omega) (by decide), pu_gi (show 4 * q + i < 36 by omega) (by decide), nI_clamp (show 4 * q + i < 2 ^ 31 by omega), (hR.2 i (by omega)).1, (hR.2 i (by omega)).2, show (4 : Int32) = nI 4 from rfl, pu_add (by decide) (show i < 4 by omega) hO.1, pu_bd, nI_1]
    have fm : fm_R R (gw_sI (gw_sI (gw_sI R 15 (4 * 4 + i) (nI (av i))) 16 (4 * 4 + i) (nI (mv i))) 14 4 (nI (i + 1))) 4 := fm_R.a (by omega)
    have hR2 : qs_R (gw_sI (gw_sI (gw_sI R 15 (4 * 4 + i) (nI (av i))) 16 (4 * 4 + i) (nI (mv i))) 14 4 (nI (i + 1))) q k av mv := ⟨(fm.2.2.1 q (by omega)).trans hR.1, fun j hj => ⟨(fm.2.2.2 _ (Or.inl (by omega))).1.trans (hR.2 j hj).1, (fm.2.2.2 _ (Or.inl (by omega))).2.trans (hR.2 j hj).2⟩⟩
    obtain ⟨R1, a1, a2, a3⟩ := ih (i + 1) f _ (by omega) (by omega) hR2 ⟨pu_r2 rfl rfl, fun j hj => by
      by_cases he : j = i
      · subst he
        constructor
        · rw [pu_sIn (fun q => absurd q (by decide)), pu_sIn (fun q => absurd q (by decide)), pu_r2 rfl rfl]
        · rw [pu_sIn (fun q => absurd q (by decide)), pu_r2 rfl rfl]
      · constructor
        · rw [pu_sIn (fun q => absurd q (by decide)), pu_sIn (fun q => absurd q (by decide)), pu_sIn (fun _ => by omega)]
          exact (hO.2 j (by omega)).1
        · rw [pu_sIn (fun q => absurd q (by decide)), pu_sIn (fun _ => by omega), pu_sIn (fun q => absurd q (by decide))]
          exact (hO.2 j (by omega)).2⟩
    exact ⟨R1, e1.trans a1, fm.tr a2, a3⟩
theorem qx_carry {C R : gw_M} {i : Nat} (hi : i < 3) (ha : qa_R C R) (hp : qp_R C R) (ho : qo_R1 C R (39 + 3 * i) i) (hm : qm_R C R) : ∃ (w : Nat) (C1 R1 : gw_M), am_carryOut_b0 C 0 (39 + 3 * i) = some (nI w, C1) ∧ mo_carryOut_b0 R 0 (nI i) = some (nI w, R1) ∧ rc_R C R C1 R1 w := by
  obtain ⟨⟨q, hq, c0, r0⟩, harg, -⟩ := id ho
  obtain ⟨k, av, mv, hB, hC, hR⟩ := qs_of ho
  have hk := hB.1
  obtain ⟨bb, hbb, e1, e2, hcan⟩ := qx_can hq hp
  unfold am_carryOut_b0 mo_carryOut_b0
  rw [pu_gi (show i < 9 by omega) (by decide), nI_clamp (show i < 2 ^ 31 by omega), Nat.zero_add, Nat.zero_add, c0, r0, nI_l (by omega), e1, e2, pu_bd, pu_bd]
  rcases hbb with rfl | rfl
  · rw [if_pos (show nI 0 = (0 : Int32) from rfl), if_pos (show nI 0 = (0 : Int32) from rfl)]
    exact ⟨1, C, R, rfl, rfl, by decide, ⟨fk_C.rf, fk_R.rf⟩, hm, fun z => absurd z (by decide)⟩
  · rw [if_neg (show ¬ nI 1 = (0 : Int32) by decide), if_neg (show ¬ nI 1 = (0 : Int32) by decide), c0, pu_gi (show i < 9 by omega) (by decide), r0]
    by_cases h0 : q = 0
    · subst h0
      rw [if_pos (show nI 0 = (0 : Int32) from rfl), if_pos (show nI 0 = (0 : Int32) from rfl), pu_id, pu_id]
      obtain ⟨w, C1, R1, hw, a1, a2, fc, fr, qt, qa⟩ := qx_system (b := 2000) (show i < 9 by omega) (by omega) ho ha (by decide) hm.1
      refine ⟨w, C1, R1, a1, a2, hw, ⟨fc.k, fr.k⟩, ⟨qt, ?_, ?_⟩, fun _ => qa⟩
      · rw [fc.2.2, fr.2.2.2.2]; exact hm.2.1
      · rw [fc.2.2, fr.2.2.2.2, fc.2.1 9 (by decide), fr.2.1 27 (by decide)]; exact hm.2.2
    · rw [if_neg (show ¬ nI q = (0 : Int32) from nI_ne0 (by omega) (by omega)), if_neg (show ¬ nI q = (0 : Int32) from nI_ne0 (by omega) (by omega)), pu_gi (show i < 9 by omega) (by decide), pu_lt, pu_gi (show i < 9 by omega) (by decide), pu_lt, pu_lt, show (gw_sI R 12 4 (nI q)).1 (0 + 13) i = R.1 13 i from pu_sIn (fun z => absurd z (by decide))]
      obtain ⟨n', hn1, hn2, hn3, hn4⟩ := hcan rfl h0
      obtain ⟨C1, a1, fn, ⟨c1, c2⟩, qC⟩ := pu_copyO (C := C) (o := 49) (co := 39 + 3 * i) (by omega) hB hC
      rw [show 0 + 13 + 35 + 7 * 0 + 1 = 49 from rfl, show 0 + 13 + 35 + 7 * 0 = 48 from rfl, a1, pu_bd]
      have fr1 : fk_R R (gw_sI (gw_sI (gw_sI R 12 4 (nI q)) (0 + 13) 4 (R.1 13 i)) (0 + 14) 4 0) 0 := ((fk_R.i (Or.inr (Or.inr (Or.inr (Or.inl ⟨by decide, by decide, by decide⟩))))).tr (fk_R.i (Or.inr (Or.inr (Or.inr (Or.inl ⟨by decide, by decide, by decide⟩)))))).tr (fk_R.i (Or.inr (Or.inr (Or.inr (Or.inl ⟨by decide, by decide, by decide⟩)))))
      have i1 : ∀ a, a ≠ 12 → a ≠ 13 → a ≠ 14 → (gw_sI (gw_sI (gw_sI R 12 4 (nI q)) (0 + 13) 4 (R.1 13 i)) (0 + 14) 4 0).1 a = R.1 a := fun a h1 h2 h3 => (gw_sI_1 _ (by omega)).trans ((gw_sI_1 _ (by omega)).trans (gw_sI_1 _ h1))
      have j12 : (gw_sI (gw_sI (gw_sI R 12 4 (nI q)) (0 + 13) 4 (R.1 13 i)) (0 + 14) 4 0).1 12 4 = nI q := by
        rw [pu_sIn (fun z => absurd z (by decide)), pu_sIn (fun z => absurd z (by decide)), pu_r2 rfl rfl]
      have j13 : (gw_sI (gw_sI (gw_sI R 12 4 (nI q)) (0 + 13) 4 (R.1 13 i)) (0 + 14) 4 0).1 13 4 = R.1 13 i := by
        rw [pu_sIn (fun z => absurd z (by decide)), pu_r2 rfl rfl]
      have j14 : (gw_sI (gw_sI (gw_sI R 12 4 (nI q)) (0 + 13) 4 (R.1 13 i)) (0 + 14) 4 0).1 14 4 = nI 0 := pu_r2 rfl rfl
      have j14i : (gw_sI (gw_sI (gw_sI R 12 4 (nI q)) (0 + 13) 4 (R.1 13 i)) (0 + 14) 4 0).1 14 i = R.1 14 i := by
        rw [pu_sIn (fun _ => by omega), pu_sIn (fun z => absurd z (by decide)), pu_sIn (fun z => absurd z (by decide))]
      have l1 : (gw_sI (gw_sI (gw_sI R 12 4 (nI q)) (0 + 13) 4 (R.1 13 i)) (0 + 14) 4 0).2 = R.2 := rfl
      generalize gw_sI (gw_sI (gw_sI R 12 4 (nI q)) (0 + 13) 4 (R.1 13 i)) (0 + 14) 4 0 = R1 at *
      obtain ⟨R2, a2, fm, qR⟩ := pu_l64 hi hB k 0 2100 R1 (Nat.zero_add _) (by omega) ⟨j14i.trans hR.1, fun j hj => by rw [i1 15 (by decide) (by decide) (by decide), i1 16 (by decide) (by decide) (by decide)]; exact hR.2 j hj⟩ ⟨j14, fun j hj => absurd hj (by omega)⟩
      rw [show mo_carryOut_l64 2100 R1 0 (nI i) (0 : Int32) = pm_gr R2 from a2]
      unfold pm_gr
      have i2 : ∀ a, a ≠ 0 → a ≠ 12 → a ≠ 13 → a ≠ 14 → a ≠ 15 → a ≠ 16 → (gw_sI R2 0 17 1).1 a = R.1 a := fun a h0 h1 h2 h3 h4 h5 => (gw_sI_1 _ h0).trans ((fm.1 a h3 h4 h5).trans (i1 a h1 h2 h3))
      have i3 : ∀ a, a ≠ 0 → a ≠ 14 → a ≠ 15 → a ≠ 16 → (gw_sI R2 0 17 1).1 a = R1.1 a := fun a h0 h3 h4 h5 => (gw_sI_1 _ h0).trans (fm.1 a h3 h4 h5)
      have sC : sk_C C C1 0 := fn.k (by decide)
      have qa1 : qa_R C1 (gw_sI R2 0 17 1) := qa_cong ha (sC.2.1 3 (by decide)) (sC.2.1 4 (by decide)) (sC.2.1 5 (by decide)) (sC.2.1 6 (by decide)) (i2 1 (by decide) (by decide) (by decide) (by decide) (by decide) (by decide)) (i2 2 (by decide) (by decide) (by decide) (by decide) (by decide) (by decide)) (i2 3 (by decide) (by decide) (by decide) (by decide) (by decide) (by decide)) (i2 4 (by decide) (by decide) (by decide) (by decide) (by decide) (by decide))
      have qR2 : qs_R (gw_sI R2 0 17 1) 4 k av mv := qs_Rc qR (gw_sI_1 _ (by decide)) (gw_sI_1 _ (by decide)) (gw_sI_1 _ (by decide))
      obtain ⟨C3, R3, a5, a6, fb, fbr, bM, bN, bK, bZ, bG, ⟨p4, p5⟩, p17, p20⟩ := qx_begin (t := 0) (C := C1) (R := gw_sI R2 0 17 1) (by decide) hB qC qR2 (by rw [i3 13 (by decide) (by decide) (by decide) (by decide)]; exact c2.trans (harg.trans j13.symm)) qa1
      rw [show fr_begin_b0 C1 48 (0 + 2) = some ((), C3) from a5, pu_bd, pu_lt, show mo_begin_b0 (gw_sI R2 0 17 1) 0 1 = some ((), R3) from a6, pu_bd]
      have fC : fk_C C (gw_sI C3 0 6 1) 0 := (sC.1.tr fb.k).tr (fk_C.i (Or.inl ⟨rfl, by decide⟩))
      have fR : fk_R R R3 0 := ((fr1.tr (fm_R.f (t := 0) fm)).tr (fk_R.i (Or.inl ⟨rfl, by decide⟩))).tr fbr.k
      have iC : ∀ a, a ≠ 0 → a ≠ 48 → (gw_sI C3 0 6 1).1 a = C1.1 a := fun a h0 h1 => (gw_sI_1 _ h0).trans (fb.1 a h1)
      have iR : ∀ a, a ≠ 0 → a ≠ 17 → a ≠ 20 → R3.1 a = (gw_sI R2 0 17 1).1 a := fun a h0 h1 h2 => fbr.1 a h1 h2
      have z0 : C3.1 0 = C.1 0 := (fb.1 0 (by decide)).trans (sC.2.1 0 (by decide))
      have y0 : R3.1 0 = (gw_sI R2 0 17 1).1 0 := fbr.1 0 (by decide) (by decide)
      have y1 : R2.1 0 = R.1 0 := (fm.1 0 (by decide) (by decide) (by decide)).trans (i1 0 (by decide) (by decide) (by decide))
      have x0 : C3.2 0 = C.2 0 := (fb.2.2 0 (by decide) (by decide)).trans sC.2.2.1
      have x14 : C3.2 14 = C.2 14 := (fb.2.2 14 (by decide) (by decide)).trans sC.2.2.2
      have w0 : R3.2 0 = R.2 0 := (fbr.2.2.1 0 (by decide) (by decide) (by decide)).trans (by show R2.2 0 = _; rw [fm.2.1, l1])
      have w23 : R3.2 23 = R.2 23 := (fbr.2.2.1 23 (by decide) (by decide) (by decide)).trans (by show R2.2 23 = _; rw [fm.2.1, l1])
      have hm3 : qm_R (gw_sI C3 0 6 1) R3 := qm_cong hm (by rw [pu_r3 (by decide), z0]) (by show C3.2 0 10 = _; rw [x0]) (by rw [pu_r3 (by decide), z0]) x14 (by rw [y0, pu_r3 (by decide), y1]) (by rw [w0]) (by rw [y0, pu_r3 (by decide), y1]) w23
      have hrr : rr_R (gw_sI C3 0 6 1) R3 1 := by
        refine ⟨by decide, ⟨pu_r2 rfl rfl, by rw [y0]; exact pu_r2 rfl rfl⟩, qa_cong qa1 (iC 3 (by decide) (by decide)) (iC 4 (by decide) (by decide)) (iC 5 (by decide) (by decide)) (iC 6 (by decide) (by decide)) (iR 1 (by decide) (by decide) (by decide)) (iR 2 (by decide) (by decide) (by decide)) (iR 3 (by decide) (by decide) (by decide)) (iR 4 (by decide) (by decide) (by decide)), fun s hs => absurd hs (by omega), fun _ => ?_⟩
        show ff_R (gw_sI C3 0 6 1) R3 0 0
        refine ⟨q - 1, n', 0, 0, k, av, mv, ⟨⟨⟨by omega, hn1⟩, ⟨?_, ?_⟩, ?_, ?_⟩, ⟨by decide, ⟨?_, p20⟩, fun j hj => absurd hj (by omega)⟩, ⟨hB, qs_Cc qC (iC _ (by decide) (by decide)) (iC _ (by decide) (by decide)) (iC _ (by decide) (by decide)), qs_Rc qR2 (iR 14 (by decide) (by decide) (by decide)) (iR 15 (by decide) (by decide) (by decide)) (iR 16 (by decide) (by decide) (by decide)), bM, bN, bK⟩, bG⟩, ⟨by omega, ?_, p17⟩, fun _ => bZ⟩
        · rw [iC (49 + 7 * 0) (by decide) (by decide), show q - 1 + 1 = q by omega]; exact c1.trans c0
        · rw [iR 12 (by decide) (by decide) (by decide), i3 12 (by decide) (by decide) (by decide) (by decide), show q - 1 + 1 = q by omega]; exact j12
        · rw [(fC.1 _ (by omega) (by omega)).1]; exact hn3
        · rw [(fC.1 _ (by omega) (by omega)).1]; exact hn4
        · exact (congrFun (gw_sI_1 _ (by decide)) _).trans p4
        · exact (congrFun (gw_sI_1 _ (by decide)) _).trans p5
      obtain ⟨w, C4, R4, b1, b2, b3⟩ := qx_loop 2000 2100 2100 0 1 _ _ hrr (fk_p hp fC fR) hm3 (by decide) (by decide) (by decide)
      exact ⟨w, C4, R4, b1, b2, rc_tr fC fR b3⟩
