/-! Handing back, whole. -/
theorem pu_ofL {v : Int64} {n : Nat} (hn : n < 2 ^ 31) (h0 : 0 ≤ v.toInt) (h : v.toInt < n) : ∃ j : Nat, j < n ∧ v = lN j := by
  refine ⟨v.toInt.toNat, by omega, ?_⟩
  apply Int64.toInt_inj.mp
  rw [lN_toInt (by omega)]
  omega
theorem pm_flt_ok {own bal : Int64} {dw wd : Nat → Int32} {b0 o0 : Nat} {wr fu : Bool} (h : pm_flt own bal dw wd b0 o0 wr fu = 0) : (∃ o1 : Nat, o1 < 4 ∧ own = lN o1) ∧ ∃ b1 : Nat, b1 ≤ 1000000 ∧ bal = lN b1 := by
  unfold pm_flt at h
  by_cases p1 : own < 0
  · rw [if_pos p1] at h; exact absurd h (by decide)
  rw [if_neg p1] at h
  by_cases p2 : 4 ≤ own
  · rw [if_pos p2] at h; exact absurd h (by decide)
  rw [if_neg p2] at h
  split at h
  · exact absurd h (by decide)
  by_cases p4 : bal < 0
  · rw [if_pos p4] at h; exact absurd h (by decide)
  rw [if_neg p4] at h
  by_cases p5 : 1000000 < bal
  · rw [if_pos p5] at h; exact absurd h (by decide)
  rw [pu_lLt, pu_L0] at p1 p4
  rw [pu_lLe, pu_L4] at p2
  rw [pu_lLt, pu_L1000000] at p5
  refine ⟨pu_ofL (n := 4) (by decide) (by omega) (by omega), ?_⟩
  obtain ⟨b1, hb, e⟩ := pu_ofL (v := bal) (n := 1000001) (by decide) (by omega) (by omega)
  exact ⟨b1, by omega, e⟩
theorem qx_handL {t k : Nat} {av mv : Nat → Nat} {C R : gw_M} (ht : t < 4) (hB : qs_B k av mv) (hC : qs_C C (49 + 7 * t) k av mv) (hR : qs_R R (4 + t) k av mv) (hp : C.1 (49 + 7 * t) 0 = R.1 12 (4 + t)) (ha : qa_R C R) (hM : qf_M C R t) (hN : qf_N C t k av) (hK : qf_K C t k av mv) (hZ : qf_Z C t k av) : ∀ (d i f1 f2 : Nat) (v : Int64), i + d = k → d < f1 → d < f2 → (∀ j, j < i → (¬ ∃ m, m < j ∧ av m = av j) → qh_W C t j) → ∃ (w : Nat) (C1 R1 : gw_M), w < 15 ∧ fr_handBack_l5 f1 C (48 + 7 * t) 2 v (nI i) = some (nI w, C1) ∧ mo_handBack_l9 f2 R 0 (nI (t + 1)) (nI (3 + (t + 1))) v (nI i) = some (nI w, R1) ∧ fa_C C C1 ∧ fa_R R R1 ∧ C1.1 0 = C.1 0 ∧ R1.1 0 = R.1 0 ∧ C1.1 5 = C.1 5 ∧ qa_R C1 R1 := by
  have hk := hB.1
  intro d
  induction d with
  | zero =>
    intro i f1 f2 v hi hf1 hf2 hW
    obtain ⟨f1, rfl⟩ : ∃ n, f1 = n + 1 := ⟨f1 - 1, by omega⟩
    obtain ⟨f2, rfl⟩ : ∃ n, f2 = n + 1 := ⟨f2 - 1, by omega⟩
    have hik : i = k := by omega
    subst hik
    have e1 : fr_handBack_l5 (f1 + 1) C (48 + 7 * t) 2 v (nI i) = if v = 0 then fr_handBack_l96 2100 C (48 + 7 * t) 2 (nI 0) else some (8, C) := by
      show fr_handBack_b5 (fr_handBack_l5 f1) C (48 + 7 * t) 2 v (nI i) = _
      unfold fr_handBack_b5
      rw [show 48 + 7 * t + 1 = 49 + 7 * t by omega, hC.1, if_pos (nI_le (Nat.le_refl _) (by omega))]
      by_cases h : v = 0
      · rw [if_pos h, if_pos (pu_c0.mpr h)]
        rfl
      · rw [if_neg h, if_neg (fun z => h (pu_c0.mp z))]
    have e2 : mo_handBack_l9 (f2 + 1) R 0 (nI (t + 1)) (nI (3 + (t + 1))) v (nI i) = if v = 0 then mo_handBack_l124 2100 R 0 (nI (t + 1)) (nI (3 + (t + 1))) (nI 0) else some (8, R) := by
      show mo_handBack_b9 (mo_handBack_l9 f2) R 0 (nI (t + 1)) (nI (3 + (t + 1))) v (nI i) = _
      unfold mo_handBack_b9
      rw [pu_gi (show 3 + (t + 1) < 9 by omega) (by decide), nI_clamp (show 3 + (t + 1) < 2 ^ 31 by omega), Nat.zero_add, show R.1 14 (3 + (t + 1)) = nI i by rw [show 3 + (t + 1) = 4 + t by omega]; exact hR.1, if_pos (nI_le (Nat.le_refl _) (by omega))]
      by_cases h : v = 0
      · rw [if_pos h, if_pos (pu_c0.mpr h)]
        rfl
      · rw [if_neg h, if_neg (fun z => h (pu_c0.mp z))]
    rw [e1, e2]
    by_cases h : v = 0
    · rw [if_pos h, if_pos h]
      obtain ⟨C1, R1, r1, r2, r3, r4, r5, r6, r7, r8⟩ := qx_handW ht hB i 0 2100 2100 C R (Nat.zero_add _) (by omega) (by omega) hC hR ha hM hN hZ (fun j _ h2 h3 => hW j h2 h3)
      exact ⟨0, C1, R1, by decide, r1, r2, r3, r4, r5, r6, r7, r8⟩
    · rw [if_neg h, if_neg h]
      exact ⟨8, C, R, by decide, rfl, rfl, fa_C.rf, fa_R.rf, rfl, rfl, rfl, ha⟩
  | succ d ih =>
    intro i f1 f2 v hi hf1 hf2 hW
    obtain ⟨f1, rfl⟩ : ∃ n, f1 = n + 1 := ⟨f1 - 1, by omega⟩
    obtain ⟨f2, rfl⟩ : ∃ n, f2 = n + 1 := ⟨f2 - 1, by omega⟩
    obtain ⟨a0, m0⟩ := hB.2 i (by omega)
    obtain ⟨m, hm, hMm⟩ := qs_Mex av i
    have hmain : (∃ m2, m2 < i ∧ av m2 = av i) ↔ m ≠ i := by
      constructor
      · intro ⟨m2, h1, h2⟩ q
        exact hMm.2 m2 (by omega) h2
      · intro q
        exact ⟨m, by omega, hMm.1⟩
    have mw : ∀ y, y < 10 → C.2 (53 + 7 * t) (16 + 10 * i + y) = R.2 22 (40 * (t + 1) + 10 * i + y) := fun y hy => by
      have := hM (10 * i + y) (by omega)
      rw [show 16 + (10 * i + y) = 16 + 10 * i + y by omega, show 40 * (t + 1) + (10 * i + y) = 40 * (t + 1) + 10 * i + y by omega] at this
      exact this
    have hRq : qs_R R (3 + (t + 1)) k av mv := by rw [show 3 + (t + 1) = 4 + t by omega]; exact hR
    have hCq : qs_C C (48 + 7 * t + 1) k av mv := by rw [show 48 + 7 * t + 1 = 49 + 7 * t by omega]; exact hC
    by_cases hs : C.2 (53 + 7 * t) (16 + 10 * i) < 0
    · have hne : ¬ m = i := hmain.mp ((hN i (by omega)).mp hs)
      have e1 : fr_handBack_l5 (f1 + 1) C (48 + 7 * t) 2 v (nI i) = fr_handBack_l5 f1 C (48 + 7 * t) 2 v (nI (i + 1)) := by
        show fr_handBack_b5 (fr_handBack_l5 f1) C (48 + 7 * t) 2 v (nI i) = _
        unfold fr_handBack_b5 fr_handBack_b78
        rw [hCq.1, if_neg (nI_ge (by omega) (by omega)), pu_baseOf C (by omega), pu_bd, pu_isMain (by omega), pu_bd, show 48 + 7 * t + 5 = 53 + 7 * t by omega, if_pos hs, if_pos rfl, nI_1]
      have e2 : mo_handBack_l9 (f2 + 1) R 0 (nI (t + 1)) (nI (3 + (t + 1))) v (nI i) = mo_handBack_l9 f2 R 0 (nI (t + 1)) (nI (3 + (t + 1))) v (nI (i + 1)) := by
        show mo_handBack_b9 (mo_handBack_l9 f2) R 0 (nI (t + 1)) (nI (3 + (t + 1))) v (nI i) = _
        unfold mo_handBack_b9 mo_handBack_b106
        rw [pu_gi (show 3 + (t + 1) < 9 by omega) (by decide), nI_clamp (show 3 + (t + 1) < 2 ^ 31 by omega), Nat.zero_add, hRq.1, if_neg (nI_ge (by omega) (by omega)), pu_rmain (by omega) hB hRq (by omega) hm hMm, pu_bd, if_neg (fun z => hne ((nI_eq (by omega) (by omega)).mp z)), nI_1]
      rw [e1, e2]
      refine ih (i + 1) f1 f2 v (by omega) (by omega) (by omega) (fun j h1 h2 => ?_)
      by_cases hji : j = i
      · subst hji
        exact absurd ((hN j (by omega)).mp hs) h2
      · exact hW j (by omega) h2
    · have hnm : ¬ ∃ m2, m2 < i ∧ av m2 = av i := fun q => hs ((hN i (by omega)).mpr q)
      have hmi : m = i := Classical.not_not.mp (fun q => hnm (hmain.mpr q))
      obtain ⟨b0, o0, z, ⟨g1, g2, g3⟩, ⟨c1, c2⟩, ⟨c3, c4⟩, ⟨c5, c6⟩, c7⟩ := ha (av i) a0
      have o5 : 48 + 7 * t + 5 = 53 + 7 * t := by omega
      have eF := pu_fault (C := C) (o := 48 + 7 * t) (own := C.2 (53 + 7 * t) (16 + 10 * i + 2)) (bal := C.2 (53 + 7 * t) (16 + 10 * i + 3)) (dw := fun w => (C.2 (53 + 7 * t) (16 + 10 * i + 5 + w)).toInt32) (wd := fun w => C.1 6 (4 * av i + w)) (mv := mv) hB hCq (show i < k by omega) g1 g2 c1 c3 (by rw [o5]) (by rw [o5]) (by rw [o5]; exact hK i (by omega) hnm) (fun w _ => by rw [o5]) (fun w _ => rfl)
      have eW := pu_wrong (R := R) (q := 3 + (t + 1)) (at_ := 40 * (t + 1) + 10 * i) (a := av i) (z := z) (own := C.2 (53 + 7 * t) (16 + 10 * i + 2)) (bal := C.2 (53 + 7 * t) (16 + 10 * i + 3)) (dw := fun w => (C.2 (53 + 7 * t) (16 + 10 * i + 5 + w)).toInt32) (wd := fun w => C.1 6 (4 * av i + w)) (mv := mv) (by omega) hB hRq (by omega) a0 g3 g1 g2 c6 c2 c4 (mw 2 (by decide)).symm (mw 3 (by decide)).symm (fun w hw => by
        have := mw (5 + w) (by omega)
        rw [show 16 + 10 * i + (5 + w) = 16 + 10 * i + 5 + w by omega, show 40 * (t + 1) + 10 * i + (5 + w) = 40 * (t + 1) + 10 * i + 5 + w by omega] at this
        rw [← this]) (fun w hw => by
        obtain ⟨d1, d2⟩ := c7 w hw
        by_cases hzw : z ≤ w
        · rw [if_pos hzw, d2 hzw]
        · rw [if_neg hzw, d1])
      have hpq : C.1 (48 + 7 * t + 1) 0 = R.1 12 (3 + (t + 1)) := by rw [show 48 + 7 * t + 1 = 49 + 7 * t by omega, show 3 + (t + 1) = 4 + t by omega]; exact hp
      rw [hpq] at eF
      generalize hfl : pm_flt (C.2 (53 + 7 * t) (16 + 10 * i + 2)) (C.2 (53 + 7 * t) (16 + 10 * i + 3)) (fun w => (C.2 (53 + 7 * t) (16 + 10 * i + 5 + w)).toInt32) (fun w => C.1 6 (4 * av i + w)) b0 o0 (decide (2 ≤ pm_mk k av mv (av i))) (decide (2 ≤ pm_mk k av mv (av i) ∧ nI o0 = R.1 12 (3 + (t + 1)))) = fl at *
      have e1 : fr_handBack_l5 (f1 + 1) C (48 + 7 * t) 2 v (nI i) = if fl = 0 then fr_handBack_l5 f1 C (48 + 7 * t) 2 (v + (C.2 (53 + 7 * t) (16 + 10 * i + 3) - lN b0)) (nI (i + 1)) else some (fl, C) := by
        show fr_handBack_b5 (fr_handBack_l5 f1) C (48 + 7 * t) 2 v (nI i) = _
        unfold fr_handBack_b5 fr_handBack_b78
        rw [hCq.1, if_neg (nI_ge (by omega) (by omega)), pu_baseOf C (by omega), pu_bd, pu_isMain (by omega), pu_bd, o5, if_neg hs, if_neg pu_10, eF, pu_bd, pu_baseOf C (by omega), pu_bd, show nI (16 + 10 * i) + (3 : Int32) = nI (16 + 10 * i + 3) by rw [pu_lit 3, nI_add], pu_gi (show 16 + 10 * i + 3 < 56 by omega) (by decide), pu_gi (show i < 4 by omega) (by decide), nI_clamp (show i < 2 ^ 31 by omega), (hCq.2 i (by omega)).1, pu_gi (show av i < 8 from a0) (by decide), nI_clamp (show av i < 2 ^ 31 by omega), nI_clamp (show 16 + 10 * i + 3 < 2 ^ 31 by omega), show (2 + 1 : Nat) = 3 from rfl, c1, nI_l (by omega), pu_lt, nI_1]
      have e2 : mo_handBack_l9 (f2 + 1) R 0 (nI (t + 1)) (nI (3 + (t + 1))) v (nI i) = if fl ≤ 0 then mo_handBack_l9 f2 R 0 (nI (t + 1)) (nI (3 + (t + 1))) (v + (C.2 (53 + 7 * t) (16 + 10 * i + 3) - lN b0)) (nI (i + 1)) else some (fl, R) := by
        show mo_handBack_b9 (mo_handBack_l9 f2) R 0 (nI (t + 1)) (nI (3 + (t + 1))) v (nI i) = _
        unfold mo_handBack_b9 mo_handBack_b106
        simp only [Nat.zero_add]
        rw [pu_gi (show 3 + (t + 1) < 9 by omega) (by decide), nI_clamp (show 3 + (t + 1) < 2 ^ 31 by omega), hRq.1, if_neg (nI_ge (by omega) (by omega)), pu_rmain (by omega) hB hRq (by omega) hm hMm, pu_bd, if_pos (by rw [hmi]), show (40 : Int32) * nI (t + 1) + (10 : Int32) * nI i = nI (40 * (t + 1) + 10 * i) by rw [pu_lit 40, pu_lit 10, pk_mul, pk_mul, nI_add], show (4 : Int32) * nI (3 + (t + 1)) + nI i = nI (4 * (3 + (t + 1)) + i) by rw [pu_lit 4, pk_mul, nI_add], pu_gi (show 4 * (3 + (t + 1)) + i < 36 by omega) (by decide), nI_clamp (show 4 * (3 + (t + 1)) + i < 2 ^ 31 by omega), (hRq.2 i (by omega)).1, eW, pu_bd, show nI (40 * (t + 1) + 10 * i) + (3 : Int32) = nI (40 * (t + 1) + 10 * i + 3) by rw [pu_lit 3, nI_add], pu_gi (show 40 * (t + 1) + 10 * i + 3 < 200 by omega) (by decide), pu_gi (show 4 * (3 + (t + 1)) + i < 36 by omega) (by decide), (hRq.2 i (by omega)).1, pu_gi (show av i < 16 by omega) (by decide), nI_clamp (show av i < 2 ^ 31 by omega), nI_clamp (show 40 * (t + 1) + 10 * i + 3 < 2 ^ 31 by omega), ← mw 3 (by decide), c2, nI_l (by omega), pu_lt, nI_1]
      rw [e1, e2]
      by_cases h0 : fl = 0
      · rw [if_pos h0, if_pos (by rw [h0]; decide)]
        refine ih (i + 1) f1 f2 _ (by omega) (by omega) (by omega) (fun j h1 h2 => ?_)
        by_cases hji : j = i
        · subst hji
          rw [h0] at hfl
          exact pm_flt_ok hfl
        · exact hW j (by omega) h2
      · have hsm := pm_flt_small (C.2 (53 + 7 * t) (16 + 10 * i + 2)) (C.2 (53 + 7 * t) (16 + 10 * i + 3)) (fun w => (C.2 (53 + 7 * t) (16 + 10 * i + 5 + w)).toInt32) (fun w => C.1 6 (4 * av i + w)) b0 o0 (decide (2 ≤ pm_mk k av mv (av i))) (decide (2 ≤ pm_mk k av mv (av i) ∧ nI o0 = R.1 12 (3 + (t + 1))))
        rw [hfl] at hsm
        rw [if_neg h0]
        rcases hsm with hx | hx | hx
        · exact absurd hx h0
        · rw [hx, if_neg (by decide)]
          exact ⟨6, C, R, by decide, rfl, rfl, fa_C.rf, fa_R.rf, rfl, rfl, rfl, ha⟩
        · rw [hx, if_neg (by decide)]
          exact ⟨7, C, R, by decide, rfl, rfl, fa_C.rf, fa_R.rf, rfl, rfl, rfl, ha⟩
theorem qx_hand {t k : Nat} {av mv : Nat → Nat} {C R : gw_M} (ht : t < 4) (hB : qs_B k av mv) (hC : qs_C C (49 + 7 * t) k av mv) (hR : qs_R R (4 + t) k av mv) (hp : C.1 (49 + 7 * t) 0 = R.1 12 (4 + t)) (ha : qa_R C R) (hM : qf_M C R t) (hN : qf_N C t k av) (hK : qf_K C t k av mv) (hZ : qf_Z C t k av) : ∃ (w : Nat) (C1 R1 : gw_M), w < 15 ∧ fr_handBack_b0 C (48 + 7 * t) 2 = some (nI w, C1) ∧ mo_handBack_b0 R 0 (nI (t + 1)) = some (nI w, R1) ∧ fa_C C C1 ∧ fa_R R R1 ∧ C1.1 0 = C.1 0 ∧ R1.1 0 = R.1 0 ∧ C1.1 5 = C.1 5 ∧ qa_R C1 R1 := by
  have hk := hB.1
  have h := qx_handL ht hB hC hR hp ha hM hN hK hZ k 0 2100 2100 0 (Nat.zero_add _) (by omega) (by omega) (fun j hj => absurd hj (Nat.not_lt_zero j))
  unfold fr_handBack_b0 mo_handBack_b0
  rw [pu_lt, show (3 : Int32) + nI (t + 1) = nI (3 + (t + 1)) by rw [pu_lit 3, nI_add]]
  exact h
