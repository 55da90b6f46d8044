theorem qx_finish {C R : gw_M} {t p n k x b : Nat} {av mv : Nat → Nat} (h : re_R C R t p n 0 k x av mv) (hm : qm_L C R b) : ∃ (w : Nat) (C1 R1 : gw_M), gw_bd (fr_goBack_b0 C (48 + 7 * t)) (fun r N => if r = (0 : Int32) then am_finish_b0 N 0 (48 + 7 * t) else some ((0 : Int32), N)) = some (nI w, C1) ∧ mo_end_b0 R 0 (nI (t + 1)) = some (nI w, R1) ∧ rs_R C R C1 R1 w b := by
  have h' := h
  obtain ⟨ht, hB, hZ, ⟨h5, h17⟩, ⟨h6, h06⟩, hs, ha⟩ := h'
  obtain ⟨hP, hQ, ⟨qB, qC, qR, hM, hN, hK⟩, hG⟩ := hB
  have e0 : fr_goBack_b0 C (48 + 7 * t) = some (0, C) := by
    unfold fr_goBack_b0
    rw [hQ.2.1.1, if_pos (show nI 0 = (0 : Int32) from rfl)]
  rw [e0, pu_bd, if_pos rfl]
  have hV := hG.1 0 (by decide)
  rw [Nat.add_zero] at hV
  unfold am_finish_b0 mo_end_b0
  rw [show 48 + 7 * t + 4 = 52 + 7 * t by omega, pu_gi (show t + 1 < 5 by omega) (by decide), nI_clamp (show t + 1 < 2 ^ 31 by omega), Nat.zero_add, Nat.zero_add, Nat.zero_add, Nat.zero_add, hQ.2.1.2, if_pos (show nI 0 ≤ (0 : Int32) by decide), show (10 : Int32) * nI (t + 1) = nI (10 * (t + 1)) by rw [pu_lit 10, pk_mul], pu_gi (show 10 * (t + 1) < 50 by omega) (by decide), nI_clamp (show 10 * (t + 1) < 2 ^ 31 by omega), ← hV]
  by_cases hz : lg_cmp (C.2 (52 + 7 * t) 0) 0 = 0
  · rw [if_pos hz, if_pos hz]
    obtain ⟨w2, C3, R3, hw2, e1, e2, fc, fr, c0, r0, c5, ha3⟩ := qx_hand ht qB qC qR (hP.2.1.1.trans hP.2.1.2.symm) ha hM hN hK hZ
    rw [e1, e2, pu_bd, pu_bd, pu_lt]
    have c06 : C3.1 0 6 = nI (t + 1) := by rw [c0]; exact h6
    have r06 : R3.1 0 17 = nI (t + 1) := by rw [r0]; exact h06
    have hm3 : qm_L C3 R3 b := hm.cg c0 (by rw [fc.2.2]) (by rw [fc.2.2]) (by rw [r0]) (by rw [r0]) (by rw [fr.2.2.2.2]) (by rw [fr.2.2.2.2])
    rw [c06, r06, nI_pred]
    have gC : ∀ lo, fk_C C (gw_sI C3 0 6 (nI t)) lo := fun lo => (fc.k).tr (fk_C.i (Or.inl ⟨rfl, by decide⟩))
    have hm4 : ∀ R4 : gw_M, R4.1 0 24 = R3.1 0 24 → R4.1 0 27 = R3.1 0 27 → R4.2 = R3.2 → qm_L (gw_sI C3 0 6 (nI t)) R4 b := fun R4 g1 g2 g3 => by
      obtain ⟨⟨m, m1, m2, m3⟩, q2, l, l1, l2, l3, l4⟩ := hm3
      exact ⟨⟨m, m1, (pu_r3 (by decide)).trans m2, g1.trans m3⟩, by rw [g3]; exact q2, l, l1, (pu_r3 (by decide)).trans l2, g2.trans l3, fun i hi => by rw [g3]; exact l4 i hi⟩
    by_cases hw : w2 = 0
    · subst hw
      rw [if_pos (show nI 0 = (0 : Int32) from rfl), if_pos (show nI 0 ≤ (0 : Int32) by decide), pu_lt, show (gw_sI C3 0 6 (nI t)).1 0 6 = nI t from pu_r2 rfl rfl, show (gw_sI R3 0 17 (nI t)).1 0 17 = nI t from pu_r2 rfl rfl]
      have gR : ∀ lo, fk_R R (gw_sI R3 0 17 (nI t)) lo := fun lo => (fr.k).tr (fk_R.i (Or.inl ⟨rfl, by decide⟩))
      have ha4 : qa_R (gw_sI C3 0 6 (nI t)) (gw_sI R3 0 17 (nI t)) := qa_cong ha3 (gw_sI_1 _ (by decide)) (gw_sI_1 _ (by decide)) (gw_sI_1 _ (by decide)) (gw_sI_1 _ (by decide)) (gw_sI_1 _ (by decide)) (gw_sI_1 _ (by decide)) (gw_sI_1 _ (by decide)) (gw_sI_1 _ (by decide))
      have hm5 := hm4 (gw_sI R3 0 17 (nI t)) (pu_r3 (by decide)) (pu_r3 (by decide)) rfl
      have d1 : (gw_sI C3 0 6 (nI t)).1 0 6 = nI t := pu_r2 rfl rfl
      have d2 : (gw_sI R3 0 17 (nI t)).1 0 17 = nI t := pu_r2 rfl rfl
      generalize gw_sI C3 0 6 (nI t) = C4 at *
      generalize gw_sI R3 0 17 (nI t) = R4 at *
      by_cases ht0 : t = 0
      · subst ht0
        rw [if_pos (show nI 0 ≤ (0 : Int32) by decide), if_pos (show nI 0 ≤ (0 : Int32) by decide)]
        exact ⟨0, C4, R4, rfl, rfl, by decide, ⟨gC 0, gR 0⟩, hm5, fun _ => ⟨0, by decide, ⟨d1, d2⟩, ha4, fun s hs1 => absurd hs1 (by omega), fun z => absurd z (by decide)⟩⟩
      · obtain ⟨s, rfl⟩ : ∃ s, t = s + 1 := ⟨t - 1, by omega⟩
        rw [if_neg (show ¬ nI (s + 1) ≤ (0 : Int32) by rw [pu_lit 0]; exact nI_ge (by omega) (by omega)), if_neg (show ¬ nI (s + 1) ≤ (0 : Int32) by rw [pu_lit 0]; exact nI_ge (by omega) (by omega)), nI_pred, pu_gi (show s < 4 by omega) (by decide), nI_clamp (show s < 2 ^ 31 by omega), show 13 + 35 + 7 * s = 48 + 7 * s by omega]
        obtain ⟨C6, R7, e7, e8, ⟨k1, k2⟩, ⟨i1, i2⟩, ⟨l1, l2⟩, hf⟩ := qx_back (show s < 4 by omega) (ff_w (hs s (by omega)) (gC (s + 1)) (gR (s + 1)) (by omega)) ha4
        rw [e7, e8, pu_bd, pu_bd]
        refine ⟨0, C6, R7, rfl, rfl, by decide, ⟨(gC 0).tr (k1.mo (Nat.zero_le _)), (gR 0).tr (k2.mo (Nat.zero_le _))⟩, hm5.cg (by rw [i1]) (l1 0 (by decide)) (l1 14 (by decide)) (by rw [i2 0 (by decide)]) (by rw [i2 0 (by decide)]) (l2 0 (by decide) (by decide)) (l2 23 (by decide) (by decide)), fun _ => ⟨s + 1, by omega, ⟨by rw [i1]; exact d1, by rw [i2 0 (by decide)]; exact d2⟩, qa_cong ha4 (by rw [i1]) (by rw [i1]) (by rw [i1]) (by rw [i1]) (i2 1 (by decide)) (i2 2 (by decide)) (i2 3 (by decide)) (i2 4 (by decide)), fun z hz1 => ff_w (ff_w (hs z (by omega)) (gC (s + 1)) (gR (s + 1)) (by omega)) k1 k2 (by omega), fun _ => hf⟩⟩
    · rw [if_neg (show ¬ nI w2 = (0 : Int32) from nI_ne0 (by omega) (by omega)), if_neg (show ¬ nI w2 ≤ (0 : Int32) by rw [pu_lit 0]; exact nI_ge (by omega) (by omega))]
      exact ⟨w2, _, R3, rfl, rfl, hw2, ⟨gC 0, fr.k⟩, hm4 R3 rfl rfl rfl, fun z => absurd z hw⟩
  · rw [if_neg hz, if_neg hz]
    exact ⟨5, C, R, rfl, rfl, by decide, ⟨fk_C.rf, fk_R.rf⟩, hm, fun z => absurd z (by decide)⟩
