/-! Handing back: the writing. -/
def pm_wa (C : gw_M) (a : Nat) (x2 x3 : Int32) (dw : Nat → Int32) : gw_M := gw_sI (gw_sI (gw_sI (gw_sI (gw_sI (gw_sI C 4 a x2) 3 a x3) 6 (4 * a + 0) (dw 0)) 6 (4 * a + 1) (dw 1)) 6 (4 * a + 2) (dw 2)) 6 (4 * a + 3) (dw 3)
def pm_wr (R : gw_M) (a : Nat) (x2 x3 : Int32) (dw : Nat → Int32) : gw_M := gw_sI (gw_sI (gw_sI (gw_sI (gw_sI (gw_sI R 2 a x2) 1 a x3) 4 (4 * a + 0) (dw 0)) 4 (4 * a + 1) (dw 1)) 4 (4 * a + 2) (dw 2)) 4 (4 * a + 3) (dw 3)
theorem pu_writeA {C : gw_M} {o k i : Nat} {av mv : Nat → Nat} {dw : Nat → Int32} {own bal : Int64} (hB : qs_B k av mv) (h : qs_C C (o + 1) k av mv) (hi : i < k) (w2 : C.2 (o + 5) (16 + 10 * i + 2) = own) (w3 : C.2 (o + 5) (16 + 10 * i + 3) = bal) (hd : ∀ w, w < 4 → (C.2 (o + 5) (16 + 10 * i + 5 + w)).toInt32 = dw w) : fr_writeAccount_b0 C o (nI i) 2 = some ((), pm_wa C (av i) own.toInt32 bal.toInt32 dw) := by
  have hk := hB.1
  obtain ⟨a0, m0⟩ := hB.2 i hi
  have step : ∀ n w (M : gw_M), w < 4 → M.2 = C.2 → fr_writeAccount_l51 (n + 1) M o 2 (nI (16 + 10 * i)) (nI (av i)) (nI w) = fr_writeAccount_l51 n (gw_sI M 6 (4 * av i + w) (dw w)) o 2 (nI (16 + 10 * i)) (nI (av i)) (nI (w + 1)) := by
    intro n w M hw hM
    show fr_writeAccount_b51 (fr_writeAccount_l51 n) M o 2 (nI (16 + 10 * i)) (nI (av i)) (nI w) = _
    unfold fr_writeAccount_b51
    rw [if_neg (show ¬ (4 : Int32) ≤ nI w from nI_ge (b := 4) hw (by decide)), pu_lit 5, nI_add, nI_add, pu_lit 4, pk_mul, nI_add, pu_gi (by omega) (by decide), pu_gi (by omega) (by decide), nI_clamp (by omega), nI_clamp (by omega), hM, hd w hw, pu_lt, Nat.mul_comm (av i) 4, nI_1]
  have fin : ∀ n (M : gw_M), fr_writeAccount_l51 (n + 1) M o 2 (nI (16 + 10 * i)) (nI (av i)) (nI 4) = some ((), M) := by
    intro n M
    show fr_writeAccount_b51 (fr_writeAccount_l51 n) M o 2 (nI (16 + 10 * i)) (nI (av i)) (nI 4) = _
    unfold fr_writeAccount_b51
    rw [if_pos (show (4 : Int32) ≤ nI 4 by decide)]
  unfold fr_writeAccount_b0 pm_wa
  rw [pu_baseOf C (by omega), pu_bd, pu_gi (show i < 4 by omega) (by decide), nI_clamp (show i < 2 ^ 31 by omega), (h.2 i hi).1, pu_lt, show nI (16 + 10 * i) + (2 : Int32) = nI (16 + 10 * i + 2) by rw [pu_lit 2, nI_add], show nI (16 + 10 * i) + (3 : Int32) = nI (16 + 10 * i + 3) by rw [pu_lit 3, nI_add], pu_gi (show 16 + 10 * i + 2 < 56 by omega) (by decide), pu_gi (show av i < 8 from a0) (by decide), nI_clamp (show av i < 2 ^ 31 by omega), nI_clamp (show 16 + 10 * i + 2 < 2 ^ 31 by omega), w2, pu_lt, pu_gi (show 16 + 10 * i + 3 < 56 by omega) (by decide), pu_gi (show av i < 8 from a0) (by decide), nI_clamp (show 16 + 10 * i + 3 < 2 ^ 31 by omega), pu_sI2, w3, pu_lt]
  rw [show (2100 : Nat) = 2095 + 1 + 1 + 1 + 1 + 1 from rfl, show (0 : Int32) = nI 0 from rfl, step _ 0 _ (by decide) (by rfl), step _ 1 _ (by decide) (by rfl), step _ 2 _ (by decide) (by rfl), step _ 3 _ (by decide) (by rfl), fin]
theorem pu_writeR {R : gw_M} {u k i m : Nat} {av mv : Nat → Nat} {dw : Nat → Int32} {own bal : Int64} (hu : u ≤ 4) (hB : qs_B k av mv) (h : qs_R R (3 + u) k av mv) (hi : i < k) (hm : m ≤ i) (hM : qs_M av (av i) m) (w2 : R.2 22 (40 * u + 10 * i + 2) = own) (w3 : R.2 22 (40 * u + 10 * i + 3) = bal) (hd : ∀ w, w < 4 → (R.2 22 (40 * u + 10 * i + 5 + w)).toInt32 = dw w) (K : gw_M → Nat → Int32 → Int32 → Int32 → Option (Int32 × gw_M)) : mo_handBack_b124 K R 0 (nI u) (nI (3 + u)) (nI i) = if m = i then K (pm_wr R (av i) own.toInt32 bal.toInt32 dw) 0 (nI u) (nI (3 + u)) (nI (i + 1)) else K R 0 (nI u) (nI (3 + u)) (nI (i + 1)) := by
  have hk := hB.1
  obtain ⟨a0, m0⟩ := hB.2 i hi
  have step : ∀ n w (M : gw_M), w < 4 → M.2 = R.2 → mo_handBack_l209 K (n + 1) M 0 (nI u) (nI (3 + u)) (nI i) (nI (40 * u + 10 * i)) (nI (av i)) (nI w) = mo_handBack_l209 K n (gw_sI M 4 (4 * av i + w) (dw w)) 0 (nI u) (nI (3 + u)) (nI i) (nI (40 * u + 10 * i)) (nI (av i)) (nI (w + 1)) := by
    intro n w M hw hM2
    show mo_handBack_b209 K (mo_handBack_l209 K n) M 0 (nI u) (nI (3 + u)) (nI i) (nI (40 * u + 10 * i)) (nI (av i)) (nI w) = _
    unfold mo_handBack_b209
    rw [if_neg (show ¬ (4 : Int32) ≤ nI w from nI_ge (b := 4) hw (by decide)), pu_lit 5, nI_add, nI_add, pu_lit 4, pk_mul, nI_add, pu_gi (show 40 * u + 10 * i + 5 + w < 200 by omega) (by decide), pu_gi (show 4 * av i + w < 64 by omega) (by decide), nI_clamp (show 40 * u + 10 * i + 5 + w < 2 ^ 31 by omega), nI_clamp (show 4 * av i + w < 2 ^ 31 by omega), hM2, Nat.zero_add, Nat.zero_add, hd w hw, pu_lt, nI_1]
  have fin : ∀ n (M : gw_M), mo_handBack_l209 K (n + 1) M 0 (nI u) (nI (3 + u)) (nI i) (nI (40 * u + 10 * i)) (nI (av i)) (nI 4) = K M 0 (nI u) (nI (3 + u)) (nI (i + 1)) := by
    intro n M
    show mo_handBack_b209 K (mo_handBack_l209 K n) M 0 (nI u) (nI (3 + u)) (nI i) (nI (40 * u + 10 * i)) (nI (av i)) (nI 4) = _
    unfold mo_handBack_b209 mo_handBack_b246
    rw [if_pos (show (4 : Int32) ≤ nI 4 by decide), nI_1]
  unfold mo_handBack_b124 mo_handBack_b246 pm_wr
  simp only [Nat.zero_add]
  rw [pu_gi (show 3 + u < 9 by omega) (by decide), nI_clamp (show 3 + u < 2 ^ 31 by omega), h.1, if_neg (nI_ge hi (by omega)), show (40 : Int32) * nI u + (10 : Int32) * nI i = nI (40 * u + 10 * i) by rw [pu_lit 40, pu_lit 10, pk_mul, pk_mul, nI_add], pu_lt, show (4 : Int32) * nI (3 + u) + nI i = nI (4 * (3 + u) + i) by rw [pu_lit 4, pk_mul, nI_add], pu_gi (show 4 * (3 + u) + i < 36 by omega) (by decide), nI_clamp (show 4 * (3 + u) + i < 2 ^ 31 by omega), (h.2 i hi).1, pu_lt, pu_rmain (by omega) hB h hi hm hM, pu_bd, nI_1]
  by_cases hmi : m = i
  · rw [if_pos (by rw [hmi]), if_pos hmi, show nI (40 * u + 10 * i) + (2 : Int32) = nI (40 * u + 10 * i + 2) by rw [pu_lit 2, nI_add], show nI (40 * u + 10 * i) + (3 : Int32) = nI (40 * u + 10 * i + 3) by rw [pu_lit 3, nI_add], pu_gi (show 40 * u + 10 * i + 2 < 200 by omega) (by decide), pu_gi (show av i < 16 by omega) (by decide), nI_clamp (show av i < 2 ^ 31 by omega), nI_clamp (show 40 * u + 10 * i + 2 < 2 ^ 31 by omega), w2, pu_lt, pu_gi (show 40 * u + 10 * i + 3 < 200 by omega) (by decide), pu_gi (show av i < 16 by omega) (by decide), nI_clamp (show 40 * u + 10 * i + 3 < 2 ^ 31 by omega), pu_sI2, w3, pu_lt]
    rw [show (2100 : Nat) = 2095 + 1 + 1 + 1 + 1 + 1 from rfl, show (0 : Int32) = nI 0 from rfl, step _ 0 _ (by decide) (by rfl), step _ 1 _ (by decide) (by rfl), step _ 2 _ (by decide) (by rfl), step _ 3 _ (by decide) (by rfl), fin]
  · rw [if_neg (fun z => hmi ((nI_eq (by omega) (by omega)).mp z)), if_neg hmi]
/-- both accounts are written alike -/
theorem qa_wa {C R : gw_M} {a o1 b1 : Nat} {own bal : Int64} {dw : Nat → Int32} (h : qa_R C R) (ha : a < 8) (ho : o1 < 4) (eo : own = lN o1) (hb : b1 ≤ 1000000) (eb : bal = lN b1) (hz : ∃ z : Nat, z ≤ 4 ∧ C.1 5 a = nI z ∧ ∀ w, w < 4 → z ≤ w → dw w = 0) : qa_R (pm_wa C a own.toInt32 bal.toInt32 dw) (pm_wr R a own.toInt32 bal.toInt32 dw) := by
  obtain ⟨z, hz4, hz5, hz6⟩ := hz
  obtain ⟨b, o, z1, ⟨g1, g2, g3⟩, ⟨c1, c2⟩, ⟨c3, c4⟩, ⟨c5, c6⟩, c7⟩ := h a ha
  have hzz : z = z1 := (nI_eq (by omega) (by omega)).mp (hz5.symm.trans c5)
  subst hzz
  subst eo
  subst eb
  unfold pm_wa pm_wr
  rw [lN_i, lN_i]
  refine qa_put (a := a) h (fun i hi => ?_) (fun i w hi hw => ?_) (fun i hi hi2 => ?_) (fun i w hi hi2 hw => ?_) ⟨b1, o1, z, ⟨hb, ho, hz4⟩, ⟨?_, ?_⟩, ⟨?_, ?_⟩, ⟨?_, ?_⟩, fun w hw => ?_⟩
  · simp (disch := omega) only [gw_sI_1, pu_r3, and_self]
  · simp (disch := omega) only [gw_sI_1, pu_r3]
  · simp (disch := omega) only [gw_sI_1, pu_r3, and_self]
  · simp (disch := omega) only [gw_sI_1, pu_r3]
  · simp (disch := omega) only [gw_sI_1, pu_r2]
  · simp (disch := omega) only [gw_sI_1, pu_r2]
  · simp (disch := omega) only [gw_sI_1, pu_r2]
  · simp (disch := omega) only [gw_sI_1, pu_r2]
  · simp (disch := omega) only [gw_sI_1]; exact c5
  · simp (disch := omega) only [gw_sI_1]; exact c6
  · have h0 := hz6 w hw
    match w, hw, h0 with
    | 0, _, h0 => simp (disch := omega) only [pu_r2, pu_r3]; exact ⟨trivial, h0⟩
    | 1, _, h0 => simp (disch := omega) only [pu_r2, pu_r3]; exact ⟨trivial, h0⟩
    | 2, _, h0 => simp (disch := omega) only [pu_r2, pu_r3]; exact ⟨trivial, h0⟩
    | 3, _, h0 => simp (disch := omega) only [pu_r2, pu_r3]; exact ⟨trivial, h0⟩
theorem fa_wa {C : gw_M} {a : Nat} {x2 x3 : Int32} {dw : Nat → Int32} : fa_C C (pm_wa C a x2 x3 dw) := by
  unfold pm_wa
  exact (((((fa_C.s (by omega)).tr (fa_C.s (by omega))).tr (fa_C.s (by omega))).tr (fa_C.s (by omega))).tr (fa_C.s (by omega))).tr (fa_C.s (by omega))
theorem fa_wr {R : gw_M} {a : Nat} {x2 x3 : Int32} {dw : Nat → Int32} (ha : a < 8) : fa_R R (pm_wr R a x2 x3 dw) := by
  unfold pm_wr
  exact (((((fa_R.s (by omega)).tr (fa_R.s (by omega))).tr (fa_R.s (by omega))).tr (fa_R.s (by omega))).tr (fa_R.s (by omega))).tr (fa_R.s (by omega))
