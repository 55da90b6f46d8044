theorem qx_go {C R R2 : gw_M} {t p n c k x q cnt b : Nat} {av mv : Nat → Nat} (h : re_R C R t p n c k x av mv) (hx : x + 1 < n) (hb : b ≤ 2000) (hm : qm_L C R b) (h3 : t < 3) (hq : q < 4) (hV : C.2 (52 + 7 * t) 1 = lN q) (hcan : q ≠ 0 → ∃ n', n' ≤ 32 ∧ 0 < n' ∧ C.1 (21 + 6 * (q - 1)) 5 = nI n' ∧ C.1 (21 + 6 * (q - 1)) 6 = 1) (hn : qn_A (C.2 (52 + 7 * t) 2) cnt) (h9 : qn_9 (C.2 (52 + 7 * t) 2) cnt k) (fm : fm_R R R2 (4 + (t + 1))) (hO : qs_R R2 (4 + (t + 1)) cnt (fun j => av (pm_by (C.2 (52 + 7 * t) 2) j % 4)) (fun j => pm_by (C.2 (52 + 7 * t) 2) j / 4 % 4)) : ∃ (w : Nat) (C1 R1 : gw_M), gw_bd (fr_handBack_b0 C (48 + 7 * t) 2) (fun r M => am_invoke_b56 M 0 (48 + 7 * t) (lN q) r) = some (nI w, C1) ∧ pm_tl R2 t q = some (nI w, R1) ∧ rs_R C R C1 R1 w b := by
  have h' := h
  obtain ⟨ht, hB, hZ, ⟨h5, h17⟩, ⟨h6, h06⟩, hs, ha⟩ := h'
  have hB2 := fo_B hB fo_C.rf fm.o
  obtain ⟨hP, hQ, ⟨qB, qC, qR, hM, hN, hK⟩, hG⟩ := hB2
  have hG0 := hB.2.2.2
  have ha2 : qa_R C R2 := sk_a ha (sk_C.rf (t := t)) fm.k
  obtain ⟨w2, C3, R3, hw2, e1, e2, fc, fr, c0, r0, c5, ha3⟩ := qx_hand ht qB qC qR (hP.2.1.1.trans hP.2.1.2.symm) ha2 hM hN hK hZ
  have r00 : R3.1 0 = R.1 0 := r0.trans (fm.1 0 (by decide) (by decide) (by decide))
  have r2 : R3.2 = R.2 := fr.2.2.2.2.trans fm.2.1
  have hm3 : qm_L C3 R3 b := hm.cg c0 (by rw [fc.2.2]) (by rw [fc.2.2]) (by rw [r00]) (by rw [r00]) (by rw [r2]) (by rw [r2])
  unfold pm_tl
  rw [e1, e2, pu_bd, pu_bd]
  by_cases hz : w2 = 0
  · subst hz
    rw [if_pos (by decide)]
    have hk4 := hn.1
    obtain ⟨C4, e4, fn, ⟨c41, c42⟩, qC4⟩ := pu_fillO (C := C3) (o := 49 + 7 * (t + 1)) (co := 48 + 7 * t) (A := C.2 (52 + 7 * t) 2) (by omega) qB hn h9 (by rw [show 48 + 7 * t + 1 = 49 + 7 * t by omega]; exact qs_Cc qC (fc.1 _ (by omega) (by omega) (by omega) (by omega) (by omega)) (fc.1 _ (by omega) (by omega) (by omega) (by omega) (by omega)) (fc.1 _ (by omega) (by omega) (by omega) (by omega) (by omega))) (by rw [fc.2.2, show 48 + 7 * t + 4 = 52 + 7 * t by omega])
    rw [fc.2.2, show 48 + 7 * t + 4 = 52 + 7 * t by omega] at c41 c42
    rw [hV, lN_i] at c41
    have qB4 : qs_B cnt (fun j => av (pm_by (C.2 (52 + 7 * t) 2) j % 4)) (fun j => pm_by (C.2 (52 + 7 * t) 2) j / 4 % 4) := ⟨hk4, fun j hj => ⟨(qB.2 _ (h9 j hj)).1, Nat.mod_lt _ (by decide)⟩⟩
    have f5 : fk_R R3 (pm_ss R3 t q) (t + 1) := (fk_R.i (Or.inr (Or.inr (Or.inr (Or.inl ⟨by decide, by decide, Nat.le_refl _⟩))))).tr (fk_R.i (Or.inr (Or.inr (Or.inr (Or.inl ⟨by decide, by decide, Nat.le_refl _⟩)))))
    have s5 : sk_R R3 (pm_ss R3 t q) (t + 1) := (sk_R.i (Or.inl ⟨by decide, by decide, Nat.le_refl _⟩)).tr (sk_R.i (Or.inl ⟨by decide, by decide, Nat.le_refl _⟩))
    have s4 : sk_C C3 C4 (t + 1) := fn.k (by omega)
    have ha5 : qa_R C4 (pm_ss R3 t q) := sk_a ha3 s4 s5
    have hm5 : qm_L C4 (pm_ss R3 t q) b := sk_L hm3 s4 s5
    have fC4 : fk_C C C4 (t + 1) := (fc.k).tr s4.1
    have fR5 : fk_R R (pm_ss R3 t q) (t + 1) := fm.f.tr ((fr.k).tr s5.1)
    have qR3 : qs_R R3 (4 + (t + 1)) cnt (fun j => av (pm_by (C.2 (52 + 7 * t) 2) j % 4)) (fun j => pm_by (C.2 (52 + 7 * t) 2) j / 4 % 4) := qs_Rc hO (fr.1 14 (by decide)) (fr.1 15 (by decide)) (fr.1 16 (by decide))
    have qR5 : qs_R (pm_ss R3 t q) (4 + (t + 1)) cnt (fun j => av (pm_by (C.2 (52 + 7 * t) 2) j % 4)) (fun j => pm_by (C.2 (52 + 7 * t) 2) j / 4 % 4) := qs_Rc qR3 ((gw_sI_1 _ (by decide)).trans (gw_sI_1 _ (by decide))) ((gw_sI_1 _ (by decide)).trans (gw_sI_1 _ (by decide))) ((gw_sI_1 _ (by decide)).trans (gw_sI_1 _ (by decide)))
    have r12 : (pm_ss R3 t q).1 12 (4 + (t + 1)) = nI q := (pu_sIn (fun z => absurd z (by decide))).trans (pu_r2 rfl rfl)
    have r13 : (pm_ss R3 t q).1 13 (4 + (t + 1)) = (C.2 (52 + 7 * t) 3).toInt32 := (pu_r2 rfl rfl).trans (by rw [r2, hG0.1 3 (by decide)])
    have c06 : C3.1 0 6 = nI (t + 1) := by rw [c0]; exact h6
    have d06 : C4.1 0 6 = nI (t + 1) := by rw [s4.2.1 0 (by decide)]; exact c06
    have e56 : am_invoke_b56 C3 0 (48 + 7 * t) (lN q) (nI 0) = if q = 0 then gw_bd (am_doSystem_b0 C4 0 (49 + 7 * (t + 1))) (fun r96 M96 => gw_bd (fr_resume_b0 M96 (48 + 7 * t) 2) (fun _ M106 => some (r96, M106))) else gw_bd (fr_begin_b0 C4 (48 + 7 * (t + 1)) 2) (fun _ M118 => some ((0 : Int32), gw_sI M118 0 6 ((M118.1 0 6) + 1))) := by
      unfold am_invoke_b56
      rw [if_pos (show nI 0 = (0 : Int32) from rfl), c06, pu_gi (show t + 1 < 4 by omega) (by decide), nI_clamp (show t + 1 < 2 ^ 31 by omega), pu_lt, show 0 + 13 + 35 + 7 * (t + 1) = 48 + 7 * (t + 1) by omega, show 48 + 7 * (t + 1) + 1 = 49 + 7 * (t + 1) by omega, e4, pu_bd]
      by_cases h0 : q = 0
      · rw [if_pos h0, if_pos (pu_c0.mpr (by rw [h0]; rfl))]
      · rw [if_neg h0, if_neg (fun z => h0 (by have := pu_lEq.mp (pu_c0.mp z); rw [pu_lNt (by omega), pu_L0] at this; omega))]
        rfl
    rw [e56]
    unfold pm_t2
    by_cases h0 : q = 0
    · subst h0
      rw [if_pos rfl, if_pos rfl]
      have hqo : qo_R1 C4 (pm_ss R3 t 0) (49 + 7 * (t + 1)) (4 + (t + 1)) := ⟨⟨0, by decide, c41, r12⟩, c42.trans r13.symm, cnt, hk4, qC4.1, qR5.1, fun j hj => ⟨_, _, qB4.2 j hj, ⟨(qC4.2 j hj).1, (qR5.2 j hj).1⟩, (qC4.2 j hj).2, (qR5.2 j hj).2⟩⟩
      obtain ⟨w6, C5, R6, hw6, e5, e6, fc6, fr6, qt6, qa6⟩ := qx_system (show 4 + (t + 1) < 9 by omega) (by omega) hqo ha5 hb hm5.1
      have hm6 : qm_L C5 R6 b := by
        refine ⟨qt6, ?_, ?_⟩
        · rw [fc6.2.2, fr6.2.2.2.2]; exact hm5.2.1
        · rw [fc6.2.2, fr6.2.2.2.2, fc6.2.1 9 (by decide), fr6.2.1 27 (by decide)]; exact hm5.2.2
      have fC5 : fk_C C C5 (t + 1) := fC4.tr fc6.k
      have fR6 : fk_R R R6 (t + 1) := fR5.tr fr6.k
      have d56 : C5.1 0 6 = nI (t + 1) := (fc6.2.1 6 (by decide)).trans d06
      have d617 : R6.1 0 17 = nI (t + 1) := by
        rw [fr6.2.1 17 (by decide), s5.2.1 0 (by decide), r00]; exact h06
      obtain ⟨C6, R7, e7, e8, ⟨k1, k2⟩, ⟨i1, i2⟩, ⟨l1, l2⟩, hf⟩ := qx_back ht (re_w h hx fC5 fR6) qa6
      rw [e5, e6, pu_bd, pu_bd, e7, pu_bd]
      by_cases hz : w6 = 0
      · subst hz
        rw [if_pos (show nI 0 = (0 : Int32) from rfl), e8, pu_bd]
        refine ⟨0, C6, R7, rfl, rfl, by decide, ⟨(fC5.mo (Nat.zero_le _)).tr (k1.mo (Nat.zero_le _)), (fR6.mo (Nat.zero_le _)).tr (k2.mo (Nat.zero_le _))⟩, hm6.cg (by rw [i1]) (l1 0 (by decide)) (l1 14 (by decide)) (by rw [i2 0 (by decide)]) (by rw [i2 0 (by decide)]) (l2 0 (by decide) (by decide)) (l2 23 (by decide) (by decide)), fun _ => ⟨t + 1, by omega, ⟨by rw [i1]; exact d56, by rw [i2 0 (by decide)]; exact d617⟩, qa_cong qa6 (by rw [i1]) (by rw [i1]) (by rw [i1]) (by rw [i1]) (i2 1 (by decide)) (i2 2 (by decide)) (i2 3 (by decide)) (i2 4 (by decide)), fun s hs1 => ff_w (re_ws h hx fC5 fR6 s (by omega)) k1 k2 (by omega), fun _ => hf⟩⟩
      · rw [if_neg (show ¬ nI w6 = (0 : Int32) from nI_ne0 (by omega) (by omega))]
        exact ⟨w6, C6, R6, rfl, rfl, hw6, ⟨(fC5.mo (Nat.zero_le _)).tr (k1.mo (Nat.zero_le _)), fR6.mo (Nat.zero_le _)⟩, hm6.cg (by rw [i1]) (l1 0 (by decide)) (l1 14 (by decide)) rfl rfl rfl rfl, fun z => absurd z hz⟩
    · rw [if_neg h0, if_neg h0]
      obtain ⟨n', hn1, hn2, hn3, hn4⟩ := hcan h0
      have f6 : fk_R (pm_ss R3 t q) (gw_sI (pm_ss R3 t q) 0 17 (nI (t + 2))) (t + 1) := fk_R.i (Or.inl ⟨rfl, by decide⟩)
      have i6 : ∀ a, a ≠ 0 → (gw_sI (pm_ss R3 t q) 0 17 (nI (t + 2))).1 a = (pm_ss R3 t q).1 a := fun a ha0 => gw_sI_1 _ ha0
      obtain ⟨C5, R7, e5, e6, fb, fbr, bM, bN, bK, bZ, bG, ⟨p4, p5⟩, p17, p20⟩ := qx_begin (t := t + 1) (C := C4) (R := gw_sI (pm_ss R3 t q) 0 17 (nI (t + 2))) (by omega) qB4 qC4 (qs_Rc qR5 (i6 14 (by decide)) (i6 15 (by decide)) (i6 16 (by decide))) (by rw [i6 13 (by decide), r13]; exact c42) (qa_cong ha5 rfl rfl rfl rfl (i6 1 (by decide)) (i6 2 (by decide)) (i6 3 (by decide)) (i6 4 (by decide)))
      rw [e5, pu_bd, show mo_begin_b0 (gw_sI (pm_ss R3 t q) 0 17 (nI (t + 2))) 0 (nI (t + 2)) = some ((), R7) from e6, pu_bd]
      have c506 : C5.1 0 6 = nI (t + 1) := by rw [fb.1 0 (by omega)]; exact d06
      rw [c506, nI_1]
      have fC6 : fk_C C (gw_sI C5 0 6 (nI (t + 1 + 1))) (t + 1) := (fC4.tr fb.k).tr (fk_C.i (Or.inl ⟨rfl, by decide⟩))
      have fR7 : fk_R R R7 (t + 1) := (fR5.tr f6).tr fbr.k
      have iC : ∀ a, a ≠ 0 → a ≠ 48 + 7 * (t + 1) → (gw_sI C5 0 6 (nI (t + 1 + 1))).1 a = C4.1 a := fun a a0 a1 => (gw_sI_1 _ a0).trans (fb.1 a a1)
      have iR : ∀ a, a ≠ 0 → a ≠ 17 → a ≠ 20 → R7.1 a = (pm_ss R3 t q).1 a := fun a a0 a1 a2 => (fbr.1 a a1 a2).trans (i6 a a0)
      have r70 : R7.1 0 = (gw_sI (pm_ss R3 t q) 0 17 (nI (t + 2))).1 0 := fbr.1 0 (by decide) (by decide)
      refine ⟨0, _, R7, rfl, rfl, by decide, ⟨fC6.mo (Nat.zero_le _), fR7.mo (Nat.zero_le _)⟩, ?_, fun _ => ⟨t + 2, by omega, ⟨pu_r2 rfl rfl, by rw [r70]; exact pu_r2 rfl rfl⟩, qa_cong ha5 (iC 3 (by decide) (by omega)) (iC 4 (by decide) (by omega)) (iC 5 (by decide) (by omega)) (iC 6 (by decide) (by omega)) (iR 1 (by decide) (by decide) (by decide)) (iR 2 (by decide) (by decide) (by decide)) (iR 3 (by decide) (by decide) (by decide)) (iR 4 (by decide) (by decide) (by decide)), fun s hs1 => re_ws h hx fC6 fR7 s (by omega), fun _ => ?_⟩⟩
      · refine ⟨?_, ?_, ?_⟩
        · obtain ⟨m, m1, m2, m3⟩ := hm5.1
          exact ⟨m, m1, by rw [pu_r3 (by decide), fb.1 0 (by omega)]; exact m2, by rw [r70, pu_r3 (by decide)]; exact m3⟩
        · show C5.2 0 10 = R7.2 0 25
          rw [fb.2.2 0 (by omega) (by omega), fbr.2.2.1 0 (by decide) (by decide) (by decide)]
          exact hm5.2.1
        · obtain ⟨l, m1, m2, m3, m4⟩ := hm5.2.2
          refine ⟨l, m1, by rw [pu_r3 (by decide), fb.1 0 (by omega)]; exact m2, by rw [r70, pu_r3 (by decide)]; exact m3, fun i hi => ?_⟩
          show C5.2 14 i = R7.2 23 i
          rw [fb.2.2 14 (by omega) (by omega), fbr.2.2.1 23 (by decide) (by decide) (by decide)]
          exact m4 i hi
      · show ff_R _ R7 (t + 1) 0
        have hC49 := iC (49 + 7 * (t + 1)) (by omega) (by omega)
        refine ⟨q - 1, n', 0, 0, cnt, _, _, ⟨⟨⟨by omega, hn1⟩, ⟨?_, ?_⟩, ?_, ?_⟩, ⟨by decide, ⟨?_, p20⟩, fun j hj => absurd hj (by omega)⟩, ⟨qB4, qs_Cc qC4 hC49 (iC _ (by omega) (by omega)) (iC _ (by omega) (by omega)), qs_Rc qR5 (iR 14 (by decide) (by decide) (by decide)) (iR 15 (by decide) (by decide) (by decide)) (iR 16 (by decide) (by decide) (by decide)), bM, bN, bK⟩, bG⟩, ⟨by omega, ?_, p17⟩, fun _ => ?_⟩
        · rw [hC49, show q - 1 + 1 = q by omega]; exact c41
        · rw [iR 12 (by decide) (by decide) (by decide), show q - 1 + 1 = q by omega]; exact r12
        · rw [(fC6.1 _ (by omega) (by omega)).1]; exact hn3
        · rw [(fC6.1 _ (by omega) (by omega)).1]; exact hn4
        · exact (congrFun (gw_sI_1 _ (by omega)) _).trans p4
        · exact (congrFun (gw_sI_1 _ (by omega)) _).trans p5
        · exact bZ
  · rw [if_neg (show ¬ nI w2 ≤ (0 : Int32) by rw [pu_lit 0]; exact nI_ge (by omega) (by omega))]
    refine ⟨w2, C3, R3, ?_, rfl, hw2, ⟨fc.k, (fm.f.mo (Nat.zero_le _)).tr fr.k⟩, hm3, fun z => absurd z hz⟩
    unfold am_invoke_b56
    rw [if_neg (show ¬ nI w2 = (0 : Int32) from nI_ne0 (by omega) (by omega))]
