/-! How a step begins. -/
theorem pu_rstep {R : gw_M} {t p x m kd d s c : Nat} {off nn : Int32} (ht : t < 4) (hp : p < 3) (hx : x < 32) (hkd : kd < 16) (hd : d < 10) (hs : s < 10) (hc : c ≤ 4) (hm : m ≤ 2000) (h0 : R.1 0 17 = nI (t + 1)) (h12 : R.1 12 (4 + t) = nI (p + 1)) (h17 : R.1 17 (t + 1) = nI x) (h20 : R.1 20 (t + 1) = nI c) (h24 : R.1 0 24 = nI m) (g1 : R.1 7 (32 * p + x) = nI kd) (g2 : R.1 8 (32 * p + x) = nI d) (g3 : R.1 9 (32 * p + x) = nI s) (g4 : R.1 10 (32 * p + x) = off) (g5 : R.1 11 (32 * p + x) = nn) : mo_step_b0 R 0 = if m = 0 then some (3, gw_sI R 0 24 (nI (m - 1))) else pm_rt (gw_sI R 0 24 (nI (m - 1))) t x (32 * p + x) kd d s c off nn := by
  have hx96 : 32 * p + x < 96 := by omega
  have r1 : ∀ a b, a ≠ 0 → (gw_sI R 0 24 (nI (m - 1))).1 a b = R.1 a b := fun a b h => by rw [gw_sI_1 a h]
  have hpy := pu_pay (R := R) (u := 1) hm (by decide) h24
  rw [show nI 1 = (1 : Int32) from rfl] at hpy
  unfold mo_step_b0 mo_step_b137 mo_step_b150
  rw [h0, pu_lt, show (3 : Int32) + nI (t + 1) = nI (4 + t) by rw [pu_lit 3, nI_add, show 3 + (t + 1) = 4 + t by omega], pu_gi (show 4 + t < 9 by omega) (by decide), pu_gi (show t + 1 < 5 by omega) (by decide), nI_clamp (show 4 + t < 2 ^ 31 by omega), nI_clamp (show t + 1 < 2 ^ 31 by omega), Nat.zero_add, Nat.zero_add, h12, h17, nI_pred, show (32 : Int32) * nI p + nI x = nI (32 * p + x) by rw [pu_lit 32, pk_mul, nI_add], pu_lt, hpy, pu_bd]
  by_cases hm0 : m = 0
  · rw [if_neg (show ¬ 1 ≤ m by omega), if_pos rfl, if_pos hm0]
  · rw [if_pos (show 1 ≤ m by omega), if_neg pu_10, if_neg hm0]
    have i14 : (nI kd = (14 : Int32)) = (kd = 14) := propext (nI_eq (b := 14) (by omega) (by decide))
    have i15 : (nI kd = (15 : Int32)) = (kd = 15) := propext (nI_eq (b := 15) (by omega) (by decide))
    have i8 : (nI kd = (8 : Int32)) = (kd = 8) := propext (nI_eq (b := 8) (by omega) (by decide))
    have i9 : (nI kd = (9 : Int32)) = (kd = 9) := propext (nI_eq (b := 9) (by omega) (by decide))
    have i13 : (nI kd = (13 : Int32)) = (kd = 13) := propext (nI_eq (b := 13) (by omega) (by decide))
    have c4 : (nI c = (4 : Int32)) = (c = 4) := propext (nI_eq (b := 4) (by omega) (by decide))
    simp only [pu_gi hx96 (by decide), nI_clamp (show 32 * p + x < 2 ^ 31 by omega), pu_lt, Nat.zero_add, r1 7 _ (by decide), r1 8 _ (by decide), r1 9 _ (by decide), r1 10 _ (by decide), r1 11 _ (by decide), r1 17 _ (by decide), r1 20 _ (by decide), g1, g2, g3, g4, g5, h17, h20, pu_gi (show t + 1 < 5 by omega) (by decide), show ∀ j, (10 : Int32) * nI (t + 1) + nI j = nI (10 * (t + 1) + j) from fun j => by rw [pu_lit 10, pk_mul, nI_add], show (4 : Int32) * nI (t + 1) + nI c = nI (4 * (t + 1) + c) by rw [pu_lit 4, pk_mul, nI_add], pu_id, i14, i15, i8, i9, i13, c4]
    unfold pm_rt
    by_cases k14 : kd = 14
    · rw [if_pos k14, if_pos k14]
    rw [if_neg k14, if_neg k14]
    by_cases k15 : kd = 15
    · rw [if_pos k15, if_pos k15]
    rw [if_neg k15, if_neg k15]
    by_cases k8 : kd = 8
    · rw [if_pos k8, if_pos k8, if_pos k8]
    rw [if_neg k8, if_neg k8, if_neg k8]
    by_cases k9 : kd = 9
    · rw [if_pos k9, if_pos k9]
    rw [if_neg k9, if_neg k9]
    by_cases k13 : kd = 13
    · rw [if_pos k13, if_pos k13]
      by_cases hc4 : c = 4
      · rw [if_pos hc4, if_pos hc4]
      · rw [if_neg hc4, if_neg hc4, pu_gi (show 4 * (t + 1) + c < 20 by omega) (by decide), nI_clamp (show 4 * (t + 1) + c < 2 ^ 31 by omega), gw_sI_1 20 (by decide), gw_sI_1 20 (by decide), h20, nI_1, nI_1]
    · rw [if_neg k13, if_neg k13]
theorem pu_cstep {C : gw_M} {t p x m kd : Nat} {nn : Int32} (ht : t < 4) (hp : p < 3) (hx : x < 32) (hkd : kd < 16) (hm : m ≤ 2000) (h7 : C.1 0 7 = nI m) (h49 : C.1 (49 + 7 * t) 0 = nI (p + 1)) (h5 : C.1 (48 + 7 * t) 5 = nI x) (e1 : C.1 (22 + 6 * p) x = nI kd) (e5 : C.1 (26 + 6 * p) x = nn) : am_step_b0 C 0 (48 + 7 * t) = if m = 0 then some (3, gw_sI C 0 7 (nI (m - 1))) else pm_ct (gw_sI (gw_sI C 0 7 (nI (m - 1))) (48 + 7 * t) 5 (nI (x + 1))) t x kd p nn := by
  have htk := pu_take (C := C) (u := 1) hm (by decide) h7
  rw [show nI 1 = (1 : Int32) from rfl] at htk
  unfold am_step_b0 am_step_b88 am_step_b95
  rw [htk, pu_bd]
  by_cases hm0 : m = 0
  · rw [if_neg (show ¬ 1 ≤ m by omega), if_pos rfl, if_pos hm0]
  · rw [if_pos (show 1 ≤ m by omega), if_neg pu_10, if_neg hm0]
    have i8 : (nI kd = (8 : Int32)) = (kd = 8) := propext (nI_eq (b := 8) (by omega) (by decide))
    have i9 : (nI kd = (9 : Int32)) = (kd = 9) := propext (nI_eq (b := 9) (by omega) (by decide))
    have i10 : (nI kd = (10 : Int32)) = (kd = 10) := propext (nI_eq (b := 10) (by omega) (by decide))
    have i11 : (nI kd = (11 : Int32)) = (kd = 11) := propext (nI_eq (b := 11) (by omega) (by decide))
    have i12 : (nI kd = (12 : Int32)) = (kd = 12) := propext (nI_eq (b := 12) (by omega) (by decide))
    have i13 : (nI kd = (13 : Int32)) = (kd = 13) := propext (nI_eq (b := 13) (by omega) (by decide))
    have i14 : (nI kd = (14 : Int32)) = (kd = 14) := propext (nI_eq (b := 14) (by omega) (by decide))
    have i15 : (nI kd = (15 : Int32)) = (kd = 15) := propext (nI_eq (b := 15) (by omega) (by decide))
    have r1 : (gw_sI C 0 7 (nI (m - 1))).1 (48 + 7 * t + 1) 0 = nI (p + 1) := by
      rw [gw_sI_1 _ (by omega), show 48 + 7 * t + 1 = 49 + 7 * t by omega]; exact h49
    have r2 : (gw_sI C 0 7 (nI (m - 1))).1 (48 + 7 * t) 5 = nI x := by rw [gw_sI_1 _ (by omega)]; exact h5
    have r3 : (gw_sI (gw_sI C 0 7 (nI (m - 1))) (48 + 7 * t) 5 (nI (x + 1))).1 (21 + 6 * p + 1) x = nI kd := by
      rw [gw_sI_1 _ (by omega), gw_sI_1 _ (by omega), show 21 + 6 * p + 1 = 22 + 6 * p by omega]; exact e1
    have r4 : (gw_sI (gw_sI C 0 7 (nI (m - 1))) (48 + 7 * t) 5 (nI (x + 1))).1 (21 + 6 * p + 5) x = nn := by
      rw [gw_sI_1 _ (by omega), gw_sI_1 _ (by omega), show 21 + 6 * p + 5 = 26 + 6 * p by omega]; exact e5
    simp only [r1, r2, pu_gi (show p + 1 < 4 by omega) (by decide), nI_clamp (show p + 1 < 2 ^ 31 by omega), pu_lt, show 0 + 1 + 14 + 6 * (p + 1) = 21 + 6 * p by omega, nI_1, pu_gi hx (by decide), nI_clamp (show x < 2 ^ 31 by omega), r3, r4, i8, i9, i10, i11, i12, i13, i14, i15, pu_id]
    unfold pm_ct
    by_cases k8 : kd = 8
    · rw [if_pos k8, if_pos (Or.inl k8)]
    rw [if_neg k8]
    by_cases k9 : kd = 9
    · rw [if_pos k9, if_pos (Or.inr k9)]
    rw [if_neg k9, if_neg (show ¬ (kd = 8 ∨ kd = 9) by omega)]
    by_cases k10 : kd = 10
    · rw [if_pos k10, if_pos (Or.inl k10)]
    rw [if_neg k10]
    by_cases k11 : kd = 11
    · rw [if_pos k11, if_pos (Or.inr (Or.inl k11))]
    rw [if_neg k11]
    by_cases k12 : kd = 12
    · rw [if_pos k12, if_pos (Or.inr (Or.inr k12))]
    rw [if_neg k12, if_neg (show ¬ (kd = 10 ∨ kd = 11 ∨ kd = 12) by omega)]
