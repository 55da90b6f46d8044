/-! Instructions that reckon. -/
/-- nothing has changed but what belongs to frame t and the frames above it -/
def sk_C (C C1 : gw_M) (t : Nat) : Prop := fk_C C C1 t ∧ (∀ k, k < 8 → C1.1 k = C.1 k) ∧ C1.2 0 = C.2 0 ∧ C1.2 14 = C.2 14
def sk_R (R R1 : gw_M) (t : Nat) : Prop := fk_R R R1 t ∧ (∀ k, k < 5 → R1.1 k = R.1 k) ∧ R1.2 0 = R.2 0 ∧ R1.2 23 = R.2 23
theorem sk_C.rf {C : gw_M} {t : Nat} : sk_C C C t := ⟨fk_C.rf, fun _ _ => rfl, rfl, rfl⟩
theorem sk_R.rf {C : gw_M} {t : Nat} : sk_R C C t := ⟨fk_R.rf, fun _ _ => rfl, rfl, rfl⟩
theorem sk_C.tr {A B C : gw_M} {t : Nat} (h : sk_C A B t) (g : sk_C B C t) : sk_C A C t := ⟨h.1.tr g.1, fun k a => (g.2.1 k a).trans (h.2.1 k a), g.2.2.1.trans h.2.2.1, g.2.2.2.trans h.2.2.2⟩
theorem sk_R.tr {A B C : gw_M} {t : Nat} (h : sk_R A B t) (g : sk_R B C t) : sk_R A C t := ⟨h.1.tr g.1, fun k a => (g.2.1 k a).trans (h.2.1 k a), g.2.2.1.trans h.2.2.1, g.2.2.2.trans h.2.2.2⟩
theorem sk_C.i {C : gw_M} {t k j : Nat} {x : Int32} (h : 48 + 7 * t ≤ k) : sk_C C (gw_sI C k j x) t := ⟨fk_C.i (by omega), fun a h1 => gw_sI_1 a (by omega), rfl, rfl⟩
theorem sk_C.l {C : gw_M} {t k j : Nat} {x : Int64} (h : 48 + 7 * t ≤ k) : sk_C C (gw_sL C k j x) t := ⟨fk_C.l (by omega), fun _ _ => rfl, pu_q1 (by omega), pu_q1 (by omega)⟩
theorem sk_R.i {R : gw_M} {lo k j : Nat} {x : Int32} (h : (12 ≤ k ∧ k < 15 ∧ 4 + lo ≤ j) ∨ (15 ≤ k ∧ k < 17 ∧ 4 * (4 + lo) ≤ j) ∨ ((k = 17 ∨ k = 20) ∧ lo + 1 ≤ j) ∨ (k = 19 ∧ 4 * (lo + 1) ≤ j)) : sk_R R (gw_sI R k j x) lo := ⟨fk_R.i (by omega), fun a h1 => gw_sI_1 a (by omega), rfl, rfl⟩
theorem sk_R.l {R : gw_M} {lo k j : Nat} {x : Int64} (h : (k = 18 ∧ 10 * (lo + 1) ≤ j) ∨ (k = 21 ∧ 16 * (lo + 1) ≤ j) ∨ (k = 22 ∧ 40 * (lo + 1) ≤ j)) : sk_R R (gw_sL R k j x) lo := ⟨fk_R.l (by omega), fun _ _ => rfl, pu_q1 (by omega), pu_q1 (by omega)⟩
theorem sk_a {C R C1 R1 : gw_M} {t : Nat} (h : qa_R C R) (hC : sk_C C C1 t) (hR : sk_R R R1 t) : qa_R C1 R1 := qa_cong h (hC.2.1 3 (by decide)) (hC.2.1 4 (by decide)) (hC.2.1 5 (by decide)) (hC.2.1 6 (by decide)) (hR.2.1 1 (by decide)) (hR.2.1 2 (by decide)) (hR.2.1 3 (by decide)) (hR.2.1 4 (by decide))
theorem sk_m {C R C1 R1 : gw_M} {t : Nat} (h : qm_R C R) (hC : sk_C C C1 t) (hR : sk_R R R1 t) : qm_R C1 R1 := qm_cong h (by rw [hC.2.1 0 (by decide)]) (by rw [hC.2.2.1]) (by rw [hC.2.1 0 (by decide)]) hC.2.2.2 (by rw [hR.2.1 0 (by decide)]) (by rw [hR.2.2.1]) (by rw [hR.2.1 0 (by decide)]) hR.2.2.2
/-- a register is written on both sides -/
theorem sk_reg {C R : gw_M} {t d : Nat} {v : Int64} (hd : d < 10) (h : qf_G C R t) : qf_G (gw_sL C (52 + 7 * t) d v) (gw_sL R 18 (10 * (t + 1) + d) v) t := by
  refine ⟨fun r hr => ?_, fun x hx => ?_⟩
  · by_cases h0 : r = d
    · subst h0
      rw [pu_q2 rfl rfl, pu_q2 rfl rfl]
    · rw [pu_q3 h0, pu_q3 (by omega)]
      exact h.1 r hr
  · rw [pu_q1 (by omega), pu_q1 (by decide)]
    exact h.2 x hx
theorem pu_z64 {x : Int32} (h : ¬ x = 0) : gw_zj x.toInt64 = true := by
  unfold gw_zj
  refine decide_eq_true (fun q => h ?_)
  rw [pu_iEq, pu_T0]
  rw [pu_lEq, pu_L0, pu_il] at q
  exact q
theorem qx_reckon {C R R2 : gw_M} {t p x kd d s : Nat} {nn : Int32} (ht : t < 4) (hk : kd < 8) (hd : d < 10) (hs : s < 10) (hx : x < 32) (e1 : C.1 (22 + 6 * p) x = nI kd) (e2 : C.1 (23 + 6 * p) x = nI d) (e3 : C.1 (24 + 6 * p) x = nI s) (e5 : C.1 (26 + 6 * p) x = nn) (h6 : kd = 6 → ¬ nn = 0) (hG : qf_G C R t) : ∃ v : Int64, fr_reckon_b0 C (48 + 7 * t) (21 + 6 * p) (nI x) = some ((), gw_sL C (52 + 7 * t) d v) ∧ mo_reckon_b0 R2 (nI kd) (R.2 18 (10 * (t + 1) + d)) (R.2 18 (10 * (t + 1) + s)) nn = some (v, R2) := by
  unfold fr_reckon_b0 fr_reckon_b196 mo_reckon_b0
  rw [← hG.1 d hd, ← hG.1 s hs, show 21 + 6 * p + 1 = 22 + 6 * p by omega, show 21 + 6 * p + 2 = 23 + 6 * p by omega, show 21 + 6 * p + 3 = 24 + 6 * p by omega, show 21 + 6 * p + 5 = 26 + 6 * p by omega, show 48 + 7 * t + 4 = 52 + 7 * t by omega]
  simp only [pu_gi hx (by decide), nI_clamp (show x < 2 ^ 31 by omega), pu_lt, e1, e2, e3, e5, pu_gi hd (by decide), pu_gi hs (by decide), nI_clamp (show d < 2 ^ 31 by omega), nI_clamp (show s < 2 ^ 31 by omega)]
  have hc : kd = 0 ∨ kd = 1 ∨ kd = 2 ∨ kd = 3 ∨ kd = 4 ∨ kd = 5 ∨ kd = 6 ∨ kd = 7 := by omega
  rcases hc with rfl | rfl | rfl | rfl | rfl | rfl | rfl | rfl
  · exact ⟨_, by rw [if_pos (by decide)], by rw [if_pos (by decide)]⟩
  · exact ⟨_, by rw [if_neg (by decide), if_pos (by decide)], by rw [if_neg (by decide), if_pos (by decide)]⟩
  · exact ⟨_, by rw [if_neg (by decide), if_neg (by decide), if_pos (by decide)], by rw [if_neg (by decide), if_neg (by decide), if_pos (by decide)]⟩
  · exact ⟨_, by rw [if_neg (by decide), if_neg (by decide), if_neg (by decide), if_pos (by decide)], by rw [if_neg (by decide), if_neg (by decide), if_neg (by decide), if_pos (by decide)]⟩
  · exact ⟨_, by rw [if_neg (by decide), if_neg (by decide), if_neg (by decide), if_neg (by decide), if_pos (by decide)], by rw [if_neg (by decide), if_neg (by decide), if_neg (by decide), if_neg (by decide), if_pos (by decide)]⟩
  · exact ⟨_, by rw [if_neg (by decide), if_neg (by decide), if_neg (by decide), if_neg (by decide), if_neg (by decide), if_pos (by decide)], by rw [if_neg (by decide), if_neg (by decide), if_neg (by decide), if_neg (by decide), if_neg (by decide), if_pos (by decide)]⟩
  · refine ⟨_, by rw [if_neg (by decide), if_neg (by decide), if_neg (by decide), if_neg (by decide), if_neg (by decide), if_neg (by decide), if_pos (by decide), if_neg (h6 rfl), pu_g (pu_z64 (h6 rfl))], by rw [if_neg (by decide), if_neg (by decide), if_neg (by decide), if_neg (by decide), if_neg (by decide), if_neg (by decide), if_pos (by decide), pu_g (pu_z64 (h6 rfl))]⟩
  · exact ⟨_, by rw [if_neg (by decide), if_neg (by decide), if_neg (by decide), if_neg (by decide), if_neg (by decide), if_neg (by decide), if_neg (by decide), if_pos (by decide)], by rw [if_neg (by decide), if_neg (by decide), if_neg (by decide), if_neg (by decide), if_neg (by decide), if_neg (by decide), if_neg (by decide)]⟩
