/-! ASSIGN, ALLOCATE, the system. -/
theorem pu_zero4 {R : gw_M} {a : Nat} (ha : a < 8) : mo_system_l192 2100 R 0 (nI a) 0 = some (0, gw_sI (gw_sI (gw_sI (gw_sI R 4 (4 * a + 0) 0) 4 (4 * a + 1) 0) 4 (4 * a + 2) 0) 4 (4 * a + 3) 0) := by
  have step : ∀ (n j : Nat) (M : gw_M), j < 4 → mo_system_l192 (n + 1) M 0 (nI a) (nI j) = mo_system_l192 n (gw_sI M 4 (4 * a + j) 0) 0 (nI a) (nI (j + 1)) := by
    intro n j M hj
    show mo_system_b192 (mo_system_l192 n) M 0 (nI a) (nI j) = _
    unfold mo_system_b192
    rw [if_neg (show ¬ (4 : Int32) ≤ nI j from nI_ge (b := 4) hj (by decide)), pu_lit 4, pk_mul, nI_add, pu_gi (by omega) (by decide), nI_clamp (by omega), pu_lt, nI_1]
  rw [show (0 : Int32) = nI 0 from rfl, show (2100 : Nat) = 2095 + 1 + 1 + 1 + 1 + 1 from rfl, step _ 0 _ (by decide), step _ 1 _ (by decide), step _ 2 _ (by decide), step _ 3 _ (by decide)]
  rfl
/-- what ASSIGN and ALLOCATE do behind their first checks -/
theorem qx_second {C R : gw_M} {co q k : Nat} {av mv : Nat → Nat} {v : Nat} (wh : Nat) (hwh : wh = 1 ∨ wh = 2) (hv : (wh = 1 → v < 4) ∧ (wh = 2 → v ≤ 4)) (hq : q < 9) (hk1 : 1 ≤ k) (hB : qs_B k av mv) (hC : qs_C C co k av mv) (hR : qs_R R q k av mv) (ha : qa_R C R) : ∃ (w : Nat) (C1 R1 : gw_M), w < 15 ∧
    (if nI (pm_mk k av mv (av 0)) = 3 then (if wh = 1 then (if C.1 4 (av 0) = 0 then some (0, gw_sI C 4 (av 0) (nI v)) else some (7, C)) else (if C.1 4 (av 0) = 0 ∧ C.1 5 (av 0) = 0 then some (0, gw_sI C 5 (av 0) (nI v)) else some (7, C))) else some (10, C)) = some (nI w, C1) ∧
    mo_system_b114 R 0 (nI q) (nI wh) (nI v) (nI (av 0)) = some (nI w, R1) ∧ fa_C C C1 ∧ fa_R R R1 ∧ C1.1 0 = C.1 0 ∧ R1.1 0 = R.1 0 ∧ qa_R C1 R1 := by
  have hk := hB.1
  obtain ⟨a0, m0⟩ := hB.2 0 (by omega)
  have ma := pm_mk_lt hB (av 0)
  unfold mo_system_b114 mo_system_b165
  rw [pu_signed hq hB hR a0, pu_bd, pu_writable hq hB hR a0, pu_bd]
  simp only [Nat.zero_add, pu_ib]
  generalize pm_mk k av mv (av 0) = x1 at *
  generalize av 0 = a at *
  by_cases r1 : x1 % 2 = 1 ∧ 2 ≤ x1
  · rw [if_pos ((pu_k3 x1 ma).mpr r1), if_neg (show ¬ ¬ (x1 % 2 = 1) from fun z => z r1.1), if_neg (show ¬ ¬ (2 ≤ x1) from fun z => z r1.2)]
    obtain ⟨ba, oa, za, ⟨ga1, ga2, ga3⟩, ⟨c1, c2⟩, ⟨c3, c4⟩, ⟨c5, c6⟩, c7⟩ := ha a a0
    simp only [pu_gi (show a < 16 by omega) (by decide), nI_clamp (show a < 2 ^ 31 by omega), c3, c4, c5, c6, pu_lt]
    rcases hwh with rfl | rfl
    · have hv1 := hv.1 rfl
      rw [if_pos rfl, if_pos (show nI 1 = 1 from rfl), if_neg (show ¬ nI 1 = 2 by decide)]
      by_cases q1 : oa = 0
      · rw [if_pos (show nI oa = 0 by rw [q1]; rfl), if_pos (show nI oa = 0 by rw [q1]; rfl)]
        refine ⟨0, _, _, by decide, rfl, rfl, fa_C.s (by omega), fa_R.s (by omega), ?_, ?_, ?_⟩
        · simp (disch := omega) only [gw_sI_1]
        · simp (disch := omega) only [gw_sI_1]
        · refine qa_put (a := a) ha (fun i hi => ?_) (fun i w hi hw => ?_) (fun i hi hi2 => ?_) (fun i w hi hi2 hw => ?_) ⟨ba, v, za, ⟨ga1, hv1, ga3⟩, ⟨?_, ?_⟩, ⟨?_, ?_⟩, ⟨?_, ?_⟩, fun w hw => ?_⟩
          all_goals first
            | (simp (disch := omega) only [gw_sI_1, pu_r2, pu_r3, and_self]; done)
            | (simp (disch := omega) only [gw_sI_1, pu_r2, pu_r3]; assumption)
            | (simp (disch := omega) only [gw_sI_1, pu_r2, pu_r3]; exact c7 w hw)
      · have hne := nI_ne0 (n := oa) (by omega) (by omega)
        rw [if_neg hne, if_neg hne]
        exact ⟨7, C, R, by decide, rfl, rfl, fa_C.rf, fa_R.rf, rfl, rfl, ha⟩
    · have hv2 := hv.2 rfl
      rw [if_neg (show ¬ (2 = 1) by decide), if_neg (show ¬ nI 2 = 1 by decide), if_pos (show nI 2 = 2 from rfl)]
      by_cases q1 : oa = 0
      · have e1 : nI oa = 0 := by rw [q1]; rfl
        by_cases q2 : za = 0
        · have e2 : nI za = 0 := by rw [q2]; rfl
          rw [if_pos ⟨e1, e2⟩, if_pos e1, if_pos e2, pu_zero4 a0]
          refine ⟨0, _, _, by decide, rfl, rfl, fa_C.s (by omega), ?_, ?_, ?_, ?_⟩
          · exact ((((fa_R.s (by omega)).tr (fa_R.s (by omega))).tr (fa_R.s (by omega))).tr (fa_R.s (by omega))).tr (fa_R.s (by omega))
          · simp (disch := omega) only [gw_sI_1]
          · simp (disch := omega) only [gw_sI_1]
          · refine qa_put (a := a) ha (fun i hi => ?_) (fun i w hi hw => ?_) (fun i hi hi2 => ?_) (fun i w hi hi2 hw => ?_) ⟨ba, oa, v, ⟨ga1, ga2, hv2⟩, ⟨?_, ?_⟩, ⟨?_, ?_⟩, ⟨?_, ?_⟩, fun w hw => ?_⟩
            all_goals first
              | (simp (disch := omega) only [gw_sI_1, pu_r2, pu_r3, and_self]; done)
              | (simp (disch := omega) only [gw_sI_1, pu_r2, pu_r3]; assumption)
              | skip
            have hw0 := (c7 w hw).2 (by omega)
            simp (disch := omega) only [gw_sI_1]
            rw [hw0]
            match w, hw with
            | 0, _ => simp (disch := omega) only [pu_r2, pu_r3]; exact ⟨trivial, fun _ => trivial⟩
            | 1, _ => simp (disch := omega) only [pu_r2, pu_r3]; exact ⟨trivial, fun _ => trivial⟩
            | 2, _ => simp (disch := omega) only [pu_r2, pu_r3]; exact ⟨trivial, fun _ => trivial⟩
            | 3, _ => simp (disch := omega) only [pu_r2, pu_r3]; exact ⟨trivial, fun _ => trivial⟩
        · have hne := nI_ne0 (n := za) (by omega) (by omega)
          rw [if_neg (fun z => hne z.2), if_pos e1, if_neg hne]
          exact ⟨7, C, R, by decide, rfl, rfl, fa_C.rf, fa_R.rf, rfl, rfl, ha⟩
      · have hne := nI_ne0 (n := oa) (by omega) (by omega)
        rw [if_neg (fun z => hne z.1), if_neg hne]
        exact ⟨7, C, R, by decide, rfl, rfl, fa_C.rf, fa_R.rf, rfl, rfl, ha⟩
  · rw [if_neg (fun z => r1 ((pu_k3 x1 ma).mp z))]
    refine ⟨10, C, R, by decide, rfl, ?_, fa_C.rf, fa_R.rf, rfl, rfl, ha⟩
    by_cases s1 : x1 % 2 = 1
    · rw [if_neg (show ¬ ¬ (x1 % 2 = 1) from fun z => z s1), if_pos (show ¬ (2 ≤ x1) from fun z => r1 ⟨s1, z⟩)]
      rfl
    · rw [if_pos s1]
      rfl
theorem pu_moin04 (M : gw_M) (v : Int32) : mo_in_b0 M v.toInt64 0 4 = some (if 0 ≤ v.toInt ∧ v.toInt < 5 then 1 else 0, M) := by
  rw [pu_moinI M v 0 4 (by decide) (by decide)]
  by_cases h : 0 ≤ v.toInt ∧ v.toInt < 5
  · rw [if_pos h, if_pos (by omega)]
  · rw [if_neg h, if_neg (by omega)]
theorem qo_fa {C R C1 R1 : gw_M} {co q : Nat} (hco : 39 ≤ co) (ho : qo_R1 C R co q) (fc : fa_C C C1) (fr : fa_R R R1) : qo_R1 C1 R1 co q :=
  qo_cong1 ho (fc.1 _ (by omega) (by omega) (by omega) (by omega) (by omega)) (fc.1 _ (by omega) (by omega) (by omega) (by omega) (by omega)) (fc.1 _ (by omega) (by omega) (by omega) (by omega) (by omega)) (by rw [fr.1 12 (by decide)]) (by rw [fr.1 13 (by decide)]) (by rw [fr.1 14 (by decide)]) (fun j hj => by rw [fr.1 15 (by decide)]) (fun j hj => by rw [fr.1 16 (by decide)])
/-- the system carries out an order -/
theorem qx_system {C R : gw_M} {co q : Nat} (hq : q < 9) (hco : 39 ≤ co) (ho : qo_R1 C R co q) (ha : qa_R C R) {b : Nat} (hb : b ≤ 2000) (hm : qt_R C R b) : ∃ (w : Nat) (C1 R1 : gw_M), w < 15 ∧ am_doSystem_b0 C 0 co = some (nI w, C1) ∧ mo_system_b0 R 0 (nI q) = some (nI w, R1) ∧ fa_C C C1 ∧ fa_R R R1 ∧ qt_R C1 R1 b ∧ qa_R C1 R1 := by
  obtain ⟨m, hm1, hm2, hm3⟩ := hm
  unfold am_doSystem_b0 mo_system_b0
  rw [show (2 : Int32) = nI 2 from rfl, pu_take (Nat.le_trans hm1 hb) (by decide) hm2, pu_pay (Nat.le_trans hm1 hb) (by decide) hm3, pu_bd, pu_bd]
  have fc : fa_C C (gw_sI C 0 7 (nI (m - 2))) := fa_C.s (Or.inl ⟨rfl, rfl⟩)
  have fr : fa_R R (gw_sI R 0 24 (nI (m - 2))) := fa_R.s (Or.inl ⟨rfl, rfl⟩)
  have ho := qo_fa hco ho fc fr
  have hmm : qt_R (gw_sI C 0 7 (nI (m - 2))) (gw_sI R 0 24 (nI (m - 2))) b := ⟨m - 2, by omega, pu_r2 rfl rfl, pu_r2 rfl rfl⟩
  have ha : qa_R (gw_sI C 0 7 (nI (m - 2))) (gw_sI R 0 24 (nI (m - 2))) := qa_cong ha (by simp (disch := omega) only [gw_sI_1]) (by simp (disch := omega) only [gw_sI_1]) (by simp (disch := omega) only [gw_sI_1]) (by simp (disch := omega) only [gw_sI_1]) (by simp (disch := omega) only [gw_sI_1]) (by simp (disch := omega) only [gw_sI_1]) (by simp (disch := omega) only [gw_sI_1]) (by simp (disch := omega) only [gw_sI_1])
  generalize gw_sI C 0 7 (nI (m - 2)) = C2 at *
  generalize gw_sI R 0 24 (nI (m - 2)) = R2 at *
  by_cases hu : 2 ≤ m
  · rw [if_pos hu, if_neg pu_10, if_neg pu_10]
    have harg := ho.2.1
    obtain ⟨k, av, mv, hB, hC, hR⟩ := qs_of ho
    have hk := hB.1
    simp only [pu_gi (show q < 9 from hq) (by decide), nI_clamp (show q < 2 ^ 31 by omega), Nat.zero_add, pu_lt]
    rw [show (4 : Int32) * nI q = nI (4 * q) by rw [pu_lit 4, pk_mul], show nI (4 * q) + (1 : Int32) = nI (4 * q + 1) from nI_1 _, pu_gi (show 4 * q < 36 by omega) (by decide), pu_gi (show 4 * q + 1 < 36 by omega) (by decide), nI_clamp (show 4 * q < 2 ^ 31 by omega), nI_clamp (show 4 * q + 1 < 2 ^ 31 by omega), ← harg]
    obtain ⟨j, hj, ej⟩ := pk_andE (C2.1 co 1) (m := 3) 2 (by decide)
    rw [ej, hR.1]
    generalize (C2.1 co 1) >>> (nI 2 &&& 31) = v
    have hx : 1 ≤ k → R2.1 15 (4 * q) = nI (av 0) := fun h1 => (hR.2 0 (by omega)).1
    have hy : 2 ≤ k → R2.1 15 (4 * q + 1) = nI (av 1) := fun h1 => (hR.2 1 (by omega)).1
    have k0 : (nI k = 0) ↔ k = 0 := by
      rw [pu_lit 0, nI_eq (by omega) (by decide)]
    have k1 : (nI k < 1) ↔ k = 0 := by
      rw [pu_lit 1, nI_ltI (by omega) (by decide)]
      omega
    have fin : ∀ (w : Nat) (C1 R1 : gw_M), fa_C C2 C1 → fa_R R2 R1 → C1.1 0 = C2.1 0 → R1.1 0 = R2.1 0 → fa_C C C1 ∧ fa_R R R1 ∧ qt_R C1 R1 b := by
      intro w C1 R1 g1 g2 g3 g4
      refine ⟨fc.tr g1, fr.tr g2, ?_⟩
      unfold qt_R
      rw [g3, g4]
      exact hmm
    have bad : ∃ (w : Nat) (C1 R1 : gw_M), w < 15 ∧ (some ((13 : Int32), C2)) = some (nI w, C1) ∧ (some ((13 : Int32), R2)) = some (nI w, R1) ∧ fa_C C C1 ∧ fa_R R R1 ∧ qt_R C1 R1 b ∧ qa_R C1 R1 := ⟨13, C2, R2, by decide, rfl, rfl, fc, fr, hmm, ha⟩
    match j, hj with
    | 0, _ =>
      rw [if_pos (show nI 0 = 0 from rfl), if_pos (show nI 0 = 0 from rfl)]
      obtain ⟨w, C1, R1, hw, e1, e2, e3, e4, e5, e6, e7⟩ := qx_transfer (v := v) hq hco hB hC hR ha _ _ hx hy
      rw [e1, e2, pu_bd, pu_bd]
      obtain ⟨f1, f2, f3⟩ := fin w C1 R1 e3 e4 e5 e6
      exact ⟨w, C1, R1, hw, rfl, rfl, f1, f2, f3, e7⟩
    | 1, _ =>
      rw [if_neg (show ¬ nI 1 = 0 by decide), if_neg (show ¬ nI 1 = 0 by decide), if_pos (show nI 1 = 1 from rfl), if_neg (show ¬ nI 1 = 3 by decide), if_pos (show nI 1 = 1 from rfl), pu_moin13, pu_bd]
      unfold am_assign_b0
      rw [hC.1]
      by_cases hk0 : k = 0
      · rw [if_pos (k1.mpr hk0), if_pos (k0.mpr hk0), pu_bd]
        exact bad
      rw [if_neg (fun z => hk0 (k1.mp z)), if_neg (fun z => hk0 (k0.mp z))]
      by_cases hv : 0 < v.toInt ∧ v.toInt < 4
      · have v1 : ¬ v < 1 := by rw [pu_iLt, pu_T1]; omega
        have v2 : v < 4 := by rw [pu_iLt, pu_T4]; omega
        rw [if_neg v1, if_pos v2, if_pos hv, if_neg pu_10, hx (by omega), (hC.2 0 (by omega)).1]
        obtain ⟨a0, m0⟩ := hB.2 0 (by omega)
        obtain ⟨y, hy4, rfl⟩ := pu_of (v := v) (n := 4) (by omega) (by omega)
        obtain ⟨w, C1, R1, hw, e1, e2, e3, e4, e5, e6, e7⟩ := qx_second (v := y) 1 (Or.inl rfl) ⟨fun _ => hy4, fun z => absurd z (by decide)⟩ hq (by omega) hB hC hR ha
        rw [if_pos rfl] at e1
        simp only [pu_lt]
        rw [pu_marks hB hC a0, pu_bd, e2]
        simp only [pu_gi (show av 0 < 8 from a0) (by decide), nI_clamp (show av 0 < 2 ^ 31 by omega), Nat.zero_add, Nat.reduceAdd]
        rw [e1, pu_bd]
        obtain ⟨f1, f2, f3⟩ := fin w C1 R1 e3 e4 e5 e6
        exact ⟨w, C1, R1, hw, rfl, rfl, f1, f2, f3, e7⟩
      · rw [if_neg hv, if_pos rfl]
        by_cases v1 : v < 1
        · rw [if_pos v1, pu_bd]
          exact bad
        · rw [pu_iLt, pu_T1] at v1
          rw [if_neg (by rw [pu_iLt, pu_T1]; omega), if_neg (by rw [pu_iLt, pu_T4]; omega), pu_bd]
          exact bad
    | 2, _ =>
      rw [if_neg (show ¬ nI 2 = 0 by decide), if_neg (show ¬ nI 2 = 0 by decide), if_neg (show ¬ nI 2 = 1 by decide), if_pos (show nI 2 = nI 2 from rfl), if_neg (show ¬ nI 2 = 3 by decide), if_neg (show ¬ nI 2 = 1 by decide), pu_moin04, pu_bd]
      unfold am_allocate_b0
      rw [hC.1]
      by_cases hk0 : k = 0
      · rw [if_pos (k1.mpr hk0), if_pos (k0.mpr hk0), pu_bd]
        exact bad
      rw [if_neg (fun z => hk0 (k1.mp z)), if_neg (fun z => hk0 (k0.mp z))]
      by_cases hv : 0 ≤ v.toInt ∧ v.toInt < 5
      · have v1 : ¬ v < 0 := by rw [pu_iLt, pu_T0]; omega
        have v2 : v ≤ 4 := by rw [pu_iLe, pu_T4]; omega
        rw [if_neg v1, if_pos v2, if_pos hv, if_neg pu_10, hx (by omega), (hC.2 0 (by omega)).1]
        obtain ⟨a0, m0⟩ := hB.2 0 (by omega)
        obtain ⟨y, hy5, rfl⟩ := pu_of (v := v) (n := 5) (by omega) (by omega)
        obtain ⟨w, C1, R1, hw, e1, e2, e3, e4, e5, e6, e7⟩ := qx_second (v := y) 2 (Or.inr rfl) ⟨fun z => absurd z (by decide), fun _ => by omega⟩ hq (by omega) hB hC hR ha
        rw [if_neg (show ¬ (2 = 1) by decide)] at e1
        obtain ⟨ba, oa, za, ⟨ga1, ga2, ga3⟩, ⟨c1, c2⟩, ⟨c3, c4⟩, ⟨c5, c6⟩, c7⟩ := ha _ a0
        simp only [pu_lt]
        rw [pu_marks hB hC a0, pu_bd, e2, pu_isBlank a0 ga2 ga3 c3 c5, pu_bd]
        simp only [pu_gi (show av 0 < 8 from a0) (by decide), nI_clamp (show av 0 < 2 ^ 31 by omega), Nat.zero_add, Nat.reduceAdd, pu_ib]
        have eb : (if ¬ (oa = 0 ∧ za = 0) then some ((7 : Int32), C2) else some ((0 : Int32), gw_sI C2 5 (av 0) (nI y))) = (if C2.1 4 (av 0) = 0 ∧ C2.1 5 (av 0) = 0 then some (0, gw_sI C2 5 (av 0) (nI y)) else some (7, C2)) := by
          rw [c3, c5]
          have z1 : (nI oa = 0) ↔ oa = 0 := by
            rw [pu_lit 0, nI_eq (by omega) (by decide)]
          have z2 : (nI za = 0) ↔ za = 0 := by
            rw [pu_lit 0, nI_eq (by omega) (by decide)]
          by_cases hz : oa = 0 ∧ za = 0
          · rw [if_neg (fun z => z hz), if_pos ⟨z1.mpr hz.1, z2.mpr hz.2⟩]
          · rw [if_pos hz, if_neg (fun z => hz ⟨z1.mp z.1, z2.mp z.2⟩)]
        rw [eb, e1, pu_bd]
        obtain ⟨f1, f2, f3⟩ := fin w C1 R1 e3 e4 e5 e6
        exact ⟨w, C1, R1, hw, rfl, rfl, f1, f2, f3, e7⟩
      · rw [if_neg hv, if_pos rfl]
        by_cases v1 : v < 0
        · rw [if_pos v1, pu_bd]
          exact bad
        · rw [pu_iLt, pu_T0] at v1
          rw [if_neg (by rw [pu_iLt, pu_T0]; omega), if_neg (by rw [pu_iLe, pu_T4]; omega), pu_bd]
          exact bad
    | 3, _ =>
      rw [if_neg (show ¬ nI 3 = 0 by decide), if_neg (show ¬ nI 3 = 0 by decide), if_neg (show ¬ nI 3 = 1 by decide), if_neg (show ¬ nI 3 = nI 2 by decide), if_pos (show nI 3 = 3 from rfl)]
      exact bad
  · rw [if_neg hu, if_pos rfl, if_pos rfl]
    exact ⟨3, C2, R2, by decide, rfl, rfl, fc, fr, hmm, ha⟩
