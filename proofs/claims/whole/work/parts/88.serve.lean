def pm_u (v : Nat) : Nat := if v = 1 then 5 else if v = 3 then 3 else 1
theorem pu_un : ∀ v, v < 4 → gw_un v = nI (pm_u v) ∧ pm_u v < 100 ∧ 0 < pm_u v := by decide
theorem pu_116 {R : gw_M} {t x : Nat} (ht : t < 4) (h17 : R.1 17 (t + 1) = nI x) : mo_serve_b116 R 0 (nI (t + 1)) = some (0, gw_sI R 17 (t + 1) (nI (x + 1))) := by
  unfold mo_serve_b116
  rw [pu_gi (show t + 1 < 5 by omega) (by decide), pu_gi (show t + 1 < 5 by omega) (by decide), nI_clamp (show t + 1 < 2 ^ 31 by omega), Nat.zero_add, h17, nI_1, pu_lt]
/-- the frame goes on: nothing else of it changes -/
theorem rs_on {C R : gw_M} {t p n c k x b : Nat} {av mv : Nat → Nat} (h : re_R C R t p n c k x av mv) (hx : x + 1 < n) (hm : qm_L C R b) : rs_R C R C (gw_sI R 17 (t + 1) (nI (x + 1))) 0 b := by
  have o := ff_on h.2.1 h.2.2.1 h.2.2.2.1.1 hx
  exact rs_sk h hm sk_C.rf o.1 (by decide) (fun _ => o.2)
theorem qx_serve {C R : gw_M} {t p n c k x b v : Nat} {av mv : Nat → Nat} (h : re_R C R t p n c k x av mv) (hx : x + 1 < n) (hp : qp_R C R) (hb : b ≤ 2000) (hm : qm_L C R b) (hv : v < 4) : ∃ (w : Nat) (C1 R1 : gw_M), am_serve_b0 C 0 (48 + 7 * t) (nI v) = some (nI w, C1) ∧ mo_serve_b0 R 0 (nI (t + 1)) (nI v) = some (nI w, R1) ∧ rs_R C R C1 R1 w b := by
  obtain ⟨m, hmb, hm7, hm24⟩ := hm.1
  obtain ⟨eu, hu, hu0⟩ := pu_un v hv
  have ht := h.1
  have eR : mo_serve_b0 R 0 (nI (t + 1)) (nI v) = mo_serve_b20 R 0 (nI (t + 1)) (nI v) (nI (pm_u v)) 0 := by
    unfold mo_serve_b0
    match v, hv with
    | 0, _ => rw [if_neg (by decide), if_neg (by decide)]; rfl
    | 1, _ => rw [if_pos (by decide)]; rfl
    | 2, _ => rw [if_neg (by decide), if_neg (by decide)]; rfl
    | 3, _ => rw [if_neg (by decide), if_pos (by decide)]; rfl
  rw [eR]
  unfold am_serve_b0 mo_serve_b20
  rw [pu_gi (show v < 4 from hv) (by decide), nI_clamp (show v < 2 ^ 31 by omega), eu, pu_take (show m ≤ 2000 by omega) hu hm7, pu_pay (show m ≤ 2000 by omega) hu hm24, pu_bd, pu_bd]
  have hm' : qm_L (gw_sI C 0 7 (nI (m - pm_u v))) (gw_sI R 0 24 (nI (m - pm_u v))) b := (qm_pay hm).mo (by omega)
  have h' := re_pay (y := nI (m - pm_u v)) h
  have fC : ∀ lo, fk_C C (gw_sI C 0 7 (nI (m - pm_u v))) lo := fun lo => fk_C.i (Or.inl ⟨rfl, by decide⟩)
  have fR : ∀ lo, fk_R R (gw_sI R 0 24 (nI (m - pm_u v))) lo := fun lo => fk_R.i (Or.inl ⟨rfl, by decide⟩)
  have hp' := fk_p hp (fC 0) (fR 0)
  generalize gw_sI C 0 7 (nI (m - pm_u v)) = C' at *
  generalize gw_sI R 0 24 (nI (m - pm_u v)) = R' at *
  by_cases hc : pm_u v ≤ m
  · rw [if_pos hc, if_neg pu_10, if_neg pu_10]
    have hG := h'.2.1.2.2.2
    have h17 := h'.2.2.2.1.2
    have hV := hG.1 1 (by decide)
    rw [show 48 + 7 * t + 4 = 52 + 7 * t by omega, show 48 + 7 * t + 1 = 49 + 7 * t by omega, show (10 : Int32) * nI (t + 1) + (1 : Int32) = nI (10 * (t + 1) + 1) by rw [pu_lit 10, pk_mul, pu_lit 1, nI_add], pu_gi (show 10 * (t + 1) + 1 < 50 by omega) (by decide), nI_clamp (show 10 * (t + 1) + 1 < 2 ^ 31 by omega), Nat.zero_add, Nat.zero_add, ← hV, pu_lt (x := C'.2 (52 + 7 * t) 1)]
    match v, hv with
    | 0, _ =>
      rw [if_pos (show nI 0 = (0 : Int32) from rfl), if_neg (show ¬ nI 0 = (1 : Int32) by decide), if_pos (show nI 0 = (0 : Int32) from rfl)]
      obtain ⟨hq1, hq2, l, l1, l2, l3, l4⟩ := hm'
      unfold am_writeLog_b0
      rw [l2, l3]
      by_cases hl : l < 30
      · have e30 : ¬ (30 : Int32) ≤ nI l := by rw [pu_lit 30]; exact nI_ge hl (by decide)
        rw [if_neg e30, if_neg e30, pu_gi hl (by decide), pu_gi hl (by decide), nI_clamp (show l < 2 ^ 31 by omega), pu_lt, pu_lt, pu_lt, pu_lt]
        generalize hvv : C'.2 (52 + 7 * t) 1 = vv
        have e1 : gw_sI (gw_sL C' (0 + 14) l vv) 0 9 ((gw_sL C' (0 + 14) l vv).1 0 9 + 1) = gw_sI (gw_sL C' 14 l vv) 0 9 (nI (l + 1)) := by
          rw [Nat.zero_add, show (gw_sL C' 14 l vv).1 0 9 = C'.1 0 9 from rfl, l2, nI_1]
        have e2 : gw_sI (gw_sL R' 23 l vv) 0 27 ((gw_sL R' 23 l vv).1 0 27 + 1) = gw_sI (gw_sL R' 23 l vv) 0 27 (nI (l + 1)) := by
          rw [show (gw_sL R' 23 l vv).1 0 27 = R'.1 0 27 from rfl, l3, nI_1]
        rw [e1, e2]
        have gC : ∀ lo, fk_C C' (gw_sI (gw_sL C' 14 l vv) 0 9 (nI (l + 1))) lo := fun lo => (fk_C.l (Or.inr (Or.inl rfl))).tr (fk_C.i (Or.inl ⟨rfl, by decide⟩))
        have gR : ∀ lo, fk_R R' (gw_sI (gw_sL R' 23 l vv) 0 27 (nI (l + 1))) lo := fun lo => (fk_R.l (Or.inr (Or.inl rfl))).tr (fk_R.i (Or.inl ⟨rfl, by decide⟩))
        have h2 : re_R (gw_sI (gw_sL C' 14 l vv) 0 9 (nI (l + 1))) (gw_sI (gw_sL R' 23 l vv) 0 27 (nI (l + 1))) t p n c k x av mv := re_cg h' (gC _) (gR _) (pu_r3 (by decide)) (pu_r3 (by decide)) (gw_sI_1 _ (by decide)) (qa_cong h'.2.2.2.2.2.2 (gw_sI_1 _ (by decide)) (gw_sI_1 _ (by decide)) (gw_sI_1 _ (by decide)) (gw_sI_1 _ (by decide)) (gw_sI_1 _ (by decide)) (gw_sI_1 _ (by decide)) (gw_sI_1 _ (by decide)) (gw_sI_1 _ (by decide)))
        have hm2 : qm_L (gw_sI (gw_sL C' 14 l vv) 0 9 (nI (l + 1))) (gw_sI (gw_sL R' 23 l vv) 0 27 (nI (l + 1))) b := by
          refine ⟨?_, ?_, l + 1, by omega, pu_r2 rfl rfl, pu_r2 rfl rfl, fun i hi => ?_⟩
          · obtain ⟨m', m1, m2, m3⟩ := hq1
            exact ⟨m', m1, (pu_r3 (by decide)).trans m2, (pu_r3 (by decide)).trans m3⟩
          · show (gw_sL C' 14 l vv).2 0 10 = (gw_sL R' 23 l vv).2 0 25
            exact (pu_sLn (fun z => absurd z (by decide))).trans (hq2.trans (pu_sLn (fun z => absurd z (by decide))).symm)
          · show (gw_sL C' 14 l vv).2 14 i = (gw_sL R' 23 l vv).2 23 i
            by_cases he : i = l
            · subst he
              exact (pu_q2 rfl rfl).trans (pu_q2 rfl rfl).symm
            · exact (pu_sLn (fun _ => he)).trans ((l4 i (by omega)).trans (pu_sLn (fun _ => he)).symm)
        rw [pu_bd, pu_116 ht h2.2.2.2.1.2]
        exact ⟨0, _, _, rfl, rfl, rs_tr ((fC 0).tr (gC 0)) ((fR 0).tr (gR 0)) (rs_on h2 hx hm2) (Nat.le_refl _)⟩
      · have e30 : (30 : Int32) ≤ nI l := by rw [pu_lit 30]; exact nI_le (by omega) (by omega)
        rw [if_pos e30, if_pos e30, pu_bd, pu_116 ht h17]
        exact ⟨0, _, _, rfl, rfl, rs_tr (fC 0) (fR 0) (rs_on h' hx ⟨hq1, hq2, l, l1, l2, l3, l4⟩) (Nat.le_refl _)⟩
    | 1, _ =>
      rw [if_neg (show ¬ nI 1 = (0 : Int32) by decide), if_pos (show nI 1 = (1 : Int32) from rfl), if_pos (show nI 1 = (1 : Int32) from rfl), pu_id, pu_id]
      obtain ⟨w, C1, R1, e1, e2, e3⟩ := qx_invoke h' hx hp' hb hm'
      exact ⟨w, C1, R1, e1, e2, rs_tr (fC 0) (fR 0) e3 (Nat.le_refl _)⟩
    | 2, _ =>
      rw [if_neg (show ¬ nI 2 = (0 : Int32) by decide), if_neg (show ¬ nI 2 = (1 : Int32) by decide), if_pos (show nI 2 = (2 : Int32) from rfl), if_neg (show ¬ nI 2 = (1 : Int32) by decide), if_neg (show ¬ nI 2 = (0 : Int32) by decide), if_pos (show nI 2 = (2 : Int32) from rfl), pu_lt, pu_lt]
      generalize hvv : C'.2 (52 + 7 * t) 1 = vv
      have gC : ∀ lo, fk_C C' (gw_sL C' 0 10 vv) lo := fun lo => fk_C.l (Or.inl (by decide))
      have gR : ∀ lo, fk_R R' (gw_sL R' 0 25 vv) lo := fun lo => fk_R.l (Or.inl rfl)
      have h2 : re_R (gw_sL C' 0 10 vv) (gw_sL R' 0 25 vv) t p n c k x av mv := re_cg h' (gC _) (gR _) rfl rfl rfl (qa_cong h'.2.2.2.2.2.2 rfl rfl rfl rfl rfl rfl rfl rfl)
      have hm2 : qm_L (gw_sL C' 0 10 vv) (gw_sL R' 0 25 vv) b := by
        obtain ⟨hq1, hq2, l, l1, l2, l3, l4⟩ := hm'
        exact ⟨hq1, (pu_q2 rfl rfl).trans (pu_q2 rfl rfl).symm, l, l1, l2, l3, fun i hi => (pu_sLn (fun z => absurd z (by decide))).trans ((l4 i hi).trans (pu_sLn (fun z => absurd z (by decide))).symm)⟩
      rw [pu_116 ht h2.2.2.2.1.2]
      exact ⟨0, _, _, rfl, rfl, rs_tr ((fC 0).tr (gC 0)) ((fR 0).tr (gR 0)) (rs_on h2 hx hm2) (Nat.le_refl _)⟩
    | 3, _ =>
      obtain ⟨hP, -⟩ := h'.2.1
      rw [if_neg (show ¬ nI 3 = (0 : Int32) by decide), if_neg (show ¬ nI 3 = (1 : Int32) by decide), if_neg (show ¬ nI 3 = (2 : Int32) by decide), if_pos (show nI 3 = (3 : Int32) from rfl), if_neg (show ¬ nI 3 = (1 : Int32) by decide), if_neg (show ¬ nI 3 = (0 : Int32) by decide), if_neg (show ¬ nI 3 = (2 : Int32) by decide), hP.2.1.1, pu_seatC C' hP.1.1, pu_seatR (show t + 1 ≤ 4 by omega) hP.1.1 (by rw [show 3 + (t + 1) = 4 + t by omega]; exact hP.2.1.2), pu_bd, pu_bd, show (10 : Int32) * nI (t + 1) = nI (10 * (t + 1)) by rw [pu_lit 10, pk_mul], pu_gi (show 10 * (t + 1) < 50 by omega) (by decide), nI_clamp (show 10 * (t + 1) < 2 ^ 31 by omega), pu_lt, pu_lt]
      generalize hvv : (pm_seat p (C'.2 (52 + 7 * t) 1)).toInt64 = vv
      obtain ⟨s1, s2, s3⟩ := ff_reg (d := 0) (v := vv) h'.2.1 h'.2.2.1 h'.2.2.2.1.1 hx (by decide)
      rw [pu_116 (R := gw_sL R' 18 (10 * (t + 1)) vv) (x := x) ht h17]
      exact ⟨0, _, _, rfl, rfl, rs_tr (fC 0) (fR 0) (rs_sk h' hm' s1 s2 (by decide) (fun _ => s3)) (Nat.le_refl _)⟩
  · rw [if_neg hc, if_pos rfl, if_pos rfl]
    exact ⟨3, _, _, rfl, rfl, by decide, ⟨fC 0, fR 0⟩, hm', fun z => absurd z (by decide)⟩
