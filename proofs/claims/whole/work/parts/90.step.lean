theorem qx_r8 {C R : gw_M} {t p x kd d s a : Nat} {nn v8 : Int32} (ht : t < 4) (hk : kd < 8) (hd : d < 10) (hs : s < 10) (hx : x < 32) (ha : a < 96) (e1 : C.1 (22 + 6 * p) x = nI kd) (e2 : C.1 (23 + 6 * p) x = nI d) (e3 : C.1 (24 + 6 * p) x = nI s) (e5 : C.1 (26 + 6 * p) x = nn) (h6 : kd = 6 → ¬ nn = 0) (g5 : R.1 11 a = nn) (h17 : R.1 17 (t + 1) = nI x) (hG : qf_G C R t) : ∃ v : Int64, fr_reckon_b0 C (48 + 7 * t) (21 + 6 * p) (nI x) = some ((), gw_sL C (52 + 7 * t) d v) ∧ mo_step_b211 R 0 (nI (t + 1)) (nI a) (nI kd) (nI (10 * (t + 1) + d)) (nI (10 * (t + 1) + s)) v8 = some (0, gw_sI (gw_sL R 18 (10 * (t + 1) + d) v) 17 (t + 1) (nI (x + 1))) := by
  obtain ⟨v, r1, r2⟩ := qx_reckon (R2 := R) ht hk hd hs hx e1 e2 e3 e5 h6 hG
  refine ⟨v, r1, ?_⟩
  have ne : ∀ j : Nat, 8 ≤ j → j < 100 → ¬ nI kd = nI j := fun j h1 h2 z => absurd ((nI_eq (by omega) (by omega)).mp z) (by omega)
  unfold mo_step_b211 mo_step_b247 mo_step_b275 mo_step_b276
  rw [if_neg (show ¬ nI kd = (10 : Int32) from ne 10 (by decide) (by decide)), if_neg (show ¬ nI kd = (13 : Int32) from ne 13 (by decide) (by decide)), if_neg (show ¬ nI kd = (11 : Int32) from ne 11 (by decide) (by decide)), if_neg (show ¬ nI kd = (12 : Int32) from ne 12 (by decide) (by decide)), if_neg (show ¬ (8 : Int32) ≤ nI kd by rw [pu_lit 8]; exact nI_ge hk (by decide)), pu_gi (show 10 * (t + 1) + d < 50 by omega) (by decide), pu_gi (show 10 * (t + 1) + s < 50 by omega) (by decide), pu_gi (show a < 96 from ha) (by decide), nI_clamp (show 10 * (t + 1) + d < 2 ^ 31 by omega), nI_clamp (show 10 * (t + 1) + s < 2 ^ 31 by omega), nI_clamp (show a < 2 ^ 31 by omega), Nat.zero_add, Nat.zero_add, g5, r2, pu_bd, pu_gi (show 10 * (t + 1) + d < 50 by omega) (by decide), pu_lt]
  exact (pu_315 (R := gw_sL R 18 (10 * (t + 1) + d) v) ht h17).1
theorem pu_call4 {C : gw_M} {o q : Nat} {x : Int32} (h : C.1 o 4 = nI 4) : fr_call_b0 C o q x = some (4, C) := by
  unfold fr_call_b0
  rw [h, if_neg (by decide)]
theorem qx_step {C R : gw_M} {t b : Nat} (h : rr_R C R (t + 1)) (hp : qp_R C R) (hb : b ≤ 2000) (hm : qm_L C R b) : ∃ (w : Nat) (C1 R1 : gw_M), am_step_b0 C 0 (48 + 7 * t) = some (nI w, C1) ∧ mo_step_b0 R 0 = some (nI w, R1) ∧ rs_R C R C1 R1 w (b - 1) ∧ (w = 0 → 0 < b) := by
  obtain ⟨ht, ⟨h6, h06⟩, ha, hs, hr⟩ := h
  have ht : t < 4 := by omega
  obtain ⟨p, n, c, x, k, av, mv, hB, ⟨hx, h5, h17⟩, hZ⟩ := hr (by omega)
  rw [show t + 1 - 1 = t by omega] at hB h5 h17 hZ
  have hZ := hZ rfl
  rw [Nat.add_zero] at hx h5
  have hP := hB.1
  have hQ := hB.2.1
  obtain ⟨⟨hp3, hn⟩, ⟨h49, h12⟩, hp5, hp6⟩ := hP
  obtain ⟨n0, hn0, ⟨q5, -⟩, hl, hI⟩ := hp p hp3
  obtain rfl : n0 = n := (nI_eq (by omega) (by omega)).mp (q5.symm.trans hp5)
  have hv : qv_R C p n0 x := by
    rcases hl with ⟨z, -⟩ | ⟨-, -, -, z⟩
    · rw [hp6] at z
      exact absurd z (by decide)
    · exact z x hx
  obtain ⟨kd, d, s, ⟨hkd, hd, hs10⟩, ⟨e1, e2, e3⟩, v1, v2, v3, v4, v5⟩ := hv
  obtain ⟨g1, g2, g3, g4, g5⟩ := hI x hx
  obtain ⟨m, hmb, hm7, hm24⟩ := hm.1
  have hc := hQ.1
  have ecs := pu_cstep (C := C) ht hp3 (show x < 32 by omega) hkd (show m ≤ 2000 by omega) hm7 h49 h5 e1 (rfl : C.1 (26 + 6 * p) x = C.1 (26 + 6 * p) x)
  have ers := pu_rstep (R := R) (off := C.1 (25 + 6 * p) x) (nn := C.1 (26 + 6 * p) x) ht hp3 (show x < 32 by omega) hkd hd hs10 hc (show m ≤ 2000 by omega) h06 h12 h17 hQ.2.1.2 hm24 (g1.symm.trans e1) (g2.symm.trans e2) (g3.symm.trans e3) g4.symm g5.symm
  rw [ecs, ers]
  have fC : ∀ lo, fk_C C (gw_sI C 0 7 (nI (m - 1))) lo := fun lo => fk_C.i (Or.inl ⟨rfl, by decide⟩)
  have fR : ∀ lo, fk_R R (gw_sI R 0 24 (nI (m - 1))) lo := fun lo => fk_R.i (Or.inl ⟨rfl, by decide⟩)
  have hm1 : qm_L (gw_sI C 0 7 (nI (m - 1))) (gw_sI R 0 24 (nI (m - 1))) (b - 1) := (qm_pay hm).mo (by omega)
  by_cases hm0 : m = 0
  · rw [if_pos hm0, if_pos hm0]
    exact ⟨3, _, _, rfl, rfl, ⟨by decide, ⟨fC 0, fR 0⟩, hm1, fun z => absurd z (by decide)⟩, fun z => absurd z (by decide)⟩
  · rw [if_neg hm0, if_neg hm0]
    suffices hh : ∃ (w : Nat) (C1 R1 : gw_M), pm_ct (gw_sI (gw_sI C 0 7 (nI (m - 1))) (48 + 7 * t) 5 (nI (x + 1))) t x kd p (C.1 (26 + 6 * p) x) = some (nI w, C1) ∧ pm_rt (gw_sI R 0 24 (nI (m - 1))) t x (32 * p + x) kd d s c (C.1 (25 + 6 * p) x) (C.1 (26 + 6 * p) x) = some (nI w, R1) ∧ rs_R C R C1 R1 w (b - 1) by
      obtain ⟨w, C1, R1, a1, a2, a3⟩ := hh
      exact ⟨w, C1, R1, a1, a2, a3, fun _ => by omega⟩
    have f2 : fk_C C (gw_sI (gw_sI C 0 7 (nI (m - 1))) (48 + 7 * t) 5 (nI (x + 1))) t := (fC t).tr (fk_C.i (Or.inr (Or.inr (Nat.le_refl _))))
    have o2 : fo_C C (gw_sI (gw_sI C 0 7 (nI (m - 1))) (48 + 7 * t) 5 (nI (x + 1))) t := ((fC (t + 1)).o (Nat.lt_succ_self _)).tr fo_C.p
    have oR : fo_R R (gw_sI R 0 24 (nI (m - 1))) t := (fR (t + 1)).o (Nat.lt_succ_self _)
    have iC : ∀ a, a ≠ 0 → a ≠ 48 + 7 * t → (gw_sI (gw_sI C 0 7 (nI (m - 1))) (48 + 7 * t) 5 (nI (x + 1))).1 a = C.1 a := fun a a0 a1 => (gw_sI_1 _ a1).trans (gw_sI_1 _ a0)
    have iR : ∀ a, a ≠ 0 → (gw_sI R 0 24 (nI (m - 1))).1 a = R.1 a := fun a a0 => gw_sI_1 _ a0
    have z0 : (gw_sI (gw_sI C 0 7 (nI (m - 1))) (48 + 7 * t) 5 (nI (x + 1))).1 0 = (gw_sI C 0 7 (nI (m - 1))).1 0 := gw_sI_1 _ (by omega)
    have h2 : re_R (gw_sI (gw_sI C 0 7 (nI (m - 1))) (48 + 7 * t) 5 (nI (x + 1))) (gw_sI R 0 24 (nI (m - 1))) t p n0 c k x av mv := ⟨ht, fo_B hB o2 oR, fo_Z hZ o2 (iC 5 (by decide) (by omega)), ⟨pu_r2 rfl rfl, by rw [iR 17 (by decide)]; exact h17⟩, ⟨by rw [z0, pu_r3 (by decide)]; exact h6, by rw [pu_r3 (by decide)]; exact h06⟩, fun s h1 => ff_w (hs s (by omega)) f2 (fR t) h1, qa_cong ha (iC 3 (by decide) (by omega)) (iC 4 (by decide) (by omega)) (iC 5 (by decide) (by omega)) (iC 6 (by decide) (by omega)) (iR 1 (by decide)) (iR 2 (by decide)) (iR 3 (by decide)) (iR 4 (by decide))⟩
    have hm2 : qm_L (gw_sI (gw_sI C 0 7 (nI (m - 1))) (48 + 7 * t) 5 (nI (x + 1))) (gw_sI R 0 24 (nI (m - 1))) (b - 1) := hm1.cg z0 rfl rfl rfl rfl rfl rfl
    have hp2 : qp_R (gw_sI (gw_sI C 0 7 (nI (m - 1))) (48 + 7 * t) 5 (nI (x + 1))) (gw_sI R 0 24 (nI (m - 1))) := fk_p hp f2 (fR t)
    have E1 := (congrFun (iC (22 + 6 * p) (by omega) (by omega)) x).trans e1
    have E2 := (congrFun (iC (23 + 6 * p) (by omega) (by omega)) x).trans e2
    have E3 := (congrFun (iC (24 + 6 * p) (by omega) (by omega)) x).trans e3
    have E4 := congrFun (iC (25 + 6 * p) (by omega) (by omega)) x
    have E5 := congrFun (iC (26 + 6 * p) (by omega) (by omega)) x
    have G5 : (gw_sI R 0 24 (nI (m - 1))).1 11 (32 * p + x) = C.1 (26 + 6 * p) x := (congrFun (iR 11 (by decide)) _).trans g5.symm
    have f0 := f2.mo (Nat.zero_le t)
    have r0 := fR 0
    clear f2 o2 oR iC iR z0 hm1 fC fR ecs ers
    generalize gw_sI (gw_sI C 0 7 (nI (m - 1))) (48 + 7 * t) 5 (nI (x + 1)) = C2 at *
    generalize gw_sI R 0 24 (nI (m - 1)) = R2 at *
    generalize C.1 (26 + 6 * p) x = nn at *
    generalize C.1 (25 + 6 * p) x = off at *
    obtain ⟨-, hB2, hZ2, ⟨P5, P17⟩, -, -, -⟩ := id h2
    have fin : ∀ (w : Nat) (C1 R1 : gw_M), w < 15 → sk_C C2 C1 t → sk_R R2 R1 t → (w = 0 → ff_R C1 R1 t 0) → rs_R C R C1 R1 w (b - 1) := fun w C1 R1 a1 a2 a3 a4 => rs_tr f0 r0 (rs_sk h2 hm2 a2 a3 a1 a4) (Nat.le_refl _)
    unfold pm_ct pm_rt
    by_cases k14 : kd = 14
    · subst k14
      simp only [show ¬ (14 = 8 ∨ 14 = 9) by decide, show ¬ (14 = 10 ∨ 14 = 11 ∨ 14 = 12) by decide, show ¬ (14 = 13) by decide, if_false, if_true]
      obtain ⟨v, hv4, rfl⟩ := pu_of (v := nn) (n := 4) (v5 rfl).1 (by have := (v5 rfl).2; omega)
      obtain ⟨w, C1, R1, a1, a2, a3⟩ := qx_serve h2 (v1 (by decide) (by decide)) hp2 (show b - 1 ≤ 2000 by omega) hm2 hv4
      exact ⟨w, C1, R1, a1, a2, rs_tr f0 r0 a3 (Nat.le_refl _)⟩
    by_cases k15 : kd = 15
    · subst k15
      simp only [show ¬ (15 = 8 ∨ 15 = 9) by decide, show ¬ (15 = 10 ∨ 15 = 11 ∨ 15 = 12) by decide, show ¬ (15 = 13) by decide, show ¬ (15 = 14) by decide, if_false, if_true]
      by_cases hc0 : c = 0
      · subst hc0
        obtain ⟨w, C1, R1, a1, a2, a3⟩ := qx_finish h2 hm2
        exact ⟨w, C1, R1, a1, a2, rs_tr f0 r0 a3 (Nat.le_refl _)⟩
      · obtain ⟨C1, R1, a1, a2, a3, a4, a5⟩ := qx_goBack ht (by omega) hB2 hZ2
        rw [a1, a2, pu_bd, if_neg pu_10]
        exact ⟨0, C1, R1, rfl, rfl, fin 0 C1 R1 (by decide) a3 a4 (fun _ => a5)⟩
    rw [if_neg k14, if_neg k14, if_neg k15, if_neg k15]
    by_cases k8 : kd = 8
    · subst k8
      rw [if_pos (Or.inl rfl), if_pos rfl]
      obtain ⟨w, C1, R1, a0, a1, a2, a3, a4, a5⟩ := qx_load ht hd hs10 (v1 (by decide) (by decide)) E1 E2 E3 E4 hB2 hZ2 P5 P17
      exact ⟨w, C1, R1, a1, a2, fin w C1 R1 a0 a3 a4 a5⟩
    by_cases k9 : kd = 9
    · subst k9
      rw [if_pos (Or.inr rfl), if_neg (by decide), if_pos rfl]
      obtain ⟨w, C1, R1, a0, a1, a2, a3, a4, a5⟩ := qx_store ht hd hs10 (v1 (by decide) (by decide)) E1 E2 E3 E4 hB2 hZ2 P5 P17
      exact ⟨w, C1, R1, a1, a2, fin w C1 R1 a0 a3 a4 a5⟩
    rw [if_neg (show ¬ (kd = 8 ∨ kd = 9) by omega), if_neg k8, if_neg k9]
    by_cases k13 : kd = 13
    · subst k13
      rw [if_neg (by decide), if_pos rfl, if_pos rfl]
      by_cases hc4 : c = 4
      · subst hc4
        rw [pu_call4 hB2.2.1.2.1.1, if_pos rfl]
        exact ⟨4, C2, R2, rfl, rfl, fin 4 C2 R2 (by decide) sk_C.rf sk_R.rf (fun z => absurd z (by decide))⟩
      · rw [if_neg hc4]
        obtain ⟨C1, R1, a1, a2, a3, a4, a5⟩ := qx_call (d := d) (s := s) (a := 32 * p + x) ht (v1 (by decide) (by decide)) (v2 (by decide) (by decide)) E4 (show c < 4 by omega) hB2 hZ2 P17
        exact ⟨0, C1, R1, a1, a2, fin 0 C1 R1 (by decide) a3 a4 (fun _ => a5)⟩
    rw [if_neg k13, if_neg k13]
    by_cases kj : kd = 10 ∨ kd = 11 ∨ kd = 12
    · rw [if_pos kj]
      obtain ⟨C1, R1, a1, a2, a3, a4, a5⟩ := qx_jump (a := 32 * p + x) ht kj hd hs10 hx (fun z => v1 z k15) (v2 (by omega) (by omega)) (show 32 * p + x < 96 by omega) E1 E2 E3 E4 E5 G5 hB2 hZ2 P5 P17
      rw [a1, pu_bd]
      exact ⟨0, C1, R1, rfl, a2, fin 0 C1 R1 (by decide) a3 a4 (fun _ => a5)⟩
    · rw [if_neg kj]
      obtain ⟨v, a1, a2⟩ := qx_r8 (a := 32 * p + x) (v8 := nI x + 1 + off) ht (show kd < 8 by omega) hd hs10 (show x < 32 by omega) (show 32 * p + x < 96 by omega) E1 E2 E3 E5 v3 G5 P17 hB2.2.2.2
      rw [a1, pu_bd]
      obtain ⟨s1, s2, s3⟩ := ff_reg (v := v) hB2 hZ2 P5 (v1 (by omega) k15) hd
      exact ⟨0, _, _, rfl, a2, fin 0 _ _ (by decide) s1 s2 (fun _ => s3)⟩
