/-! The same of the reference. -/
theorem pu_wrongL {R : gw_M} {at_ a z : Nat} {dw wd : Nat → Int32} (hat : at_ + 10 ≤ 200) (ha : a < 8) (hz4 : z ≤ 4) (hz : R.1 3 a = nI z) (hd : ∀ w, w < 4 → (R.2 22 (at_ + 5 + w)).toInt32 = dw w) (hw : ∀ w, w < 4 → (if z ≤ w then 0 else R.1 4 (4 * a + w)) = wd w) (v4 v5 : Int32) : mo_wrongSlot_l65 2100 R 0 (nI at_) (nI a) v4 v5 0 0 0 = mo_wrongSlot_b65 (mo_wrongSlot_l65 2095) R 0 (nI at_) (nI a) v4 v5 (pm_b (!(pm_z dw))) (pm_b (!(pm_e dw wd))) (nI 4) := by
  have step : ∀ n w (f g : Bool), w < 4 → mo_wrongSlot_l65 (n + 1) R 0 (nI at_) (nI a) v4 v5 (pm_b f) (pm_b g) (nI w) = mo_wrongSlot_l65 n R 0 (nI at_) (nI a) v4 v5 (pm_b (f || !(decide (dw w = 0)))) (pm_b (g || !(decide (dw w = wd w)))) (nI (w + 1)) := by
    intro n w f g hw4
    show mo_wrongSlot_b65 (mo_wrongSlot_l65 n) R 0 (nI at_) (nI a) v4 v5 (pm_b f) (pm_b g) (nI w) = _
    unfold mo_wrongSlot_b65 mo_wrongSlot_b95 mo_wrongSlot_b100 mo_wrongSlot_b135 mo_wrongSlot_b138 mo_wrongSlot_b143
    simp only [Nat.zero_add]
    rw [if_neg (show ¬ (4 : Int32) ≤ nI w from nI_ge (b := 4) hw4 (by decide)), pu_lit 5, nI_add, nI_add, pu_gi (show at_ + 5 + w < 200 by omega) (by decide), nI_clamp (show at_ + 5 + w < 2 ^ 31 by omega), hd w hw4, pu_lt, nI_1]
    simp only [pu_gi (show a < 16 by omega) (by decide), nI_clamp (show a < 2 ^ 31 by omega), hz, pu_lit 4, pk_mul, nI_add, pu_gi (show 4 * a + w < 64 by omega) (by decide), nI_clamp (show 4 * a + w < 2 ^ 31 by omega)]
    have hww := hw w hw4
    by_cases hzw : z ≤ w
    · rw [if_pos hzw] at hww
      simp only [if_pos (nI_le hzw (by omega)), hww]
      cases f <;> cases g <;> by_cases h1 : dw w = 0 <;> by_cases h2 : dw w = wd w <;> simp [pm_b, h1, h2] <;> simp_all
    · rw [if_neg hzw] at hww
      simp only [if_neg (nI_ge (show w < z by omega) (by omega)), hww]
      cases f <;> cases g <;> by_cases h1 : dw w = 0 <;> by_cases h2 : dw w = wd w <;> simp [pm_b, h1, h2] <;> simp_all
  have e0 : mo_wrongSlot_l65 2100 R 0 (nI at_) (nI a) v4 v5 0 0 0 = mo_wrongSlot_l65 (2096 + 1 + 1 + 1 + 1) R 0 (nI at_) (nI a) v4 v5 (pm_b false) (pm_b false) (nI 0) := rfl
  rw [e0, step _ 0 _ _ (by decide), step _ 1 _ _ (by decide), step _ 2 _ _ (by decide), step _ 3 _ _ (by decide)]
  have f4 : ((((false || !(decide (dw 0 = 0))) || !(decide (dw (0 + 1) = 0))) || !(decide (dw (0 + 1 + 1) = 0))) || !(decide (dw (0 + 1 + 1 + 1) = 0))) = !(pm_z dw) := by
    unfold pm_z
    by_cases h0 : dw 0 = 0 <;> by_cases h1 : dw 1 = 0 <;> by_cases h2 : dw 2 = 0 <;> by_cases h3 : dw 3 = 0 <;> simp [h0, h1, h2, h3]
  have g4 : ((((false || !(decide (dw 0 = wd 0))) || !(decide (dw (0 + 1) = wd (0 + 1)))) || !(decide (dw (0 + 1 + 1) = wd (0 + 1 + 1)))) || !(decide (dw (0 + 1 + 1 + 1) = wd (0 + 1 + 1 + 1)))) = !(pm_e dw wd) := by
    unfold pm_e
    by_cases h0 : dw 0 = wd 0 <;> by_cases h1 : dw 1 = wd 1 <;> by_cases h2 : dw 2 = wd 2 <;> by_cases h3 : dw 3 = wd 3 <;> simp [h0, h1, h2, h3]
  simp only [Nat.zero_add, Nat.reduceAdd] at f4 g4 ⊢
  rw [f4, g4]
  rfl
theorem pu_wrong {R : gw_M} {q k at_ a z b0 o0 : Nat} {av mv : Nat → Nat} {dw wd : Nat → Int32} {own bal : Int64} (hq : q < 9) (hB : qs_B k av mv) (h : qs_R R q k av mv) (hat : at_ + 10 ≤ 200) (ha : a < 8) (hz4 : z ≤ 4) (hb : b0 ≤ 1000000) (ho : o0 < 4) (hz : R.1 3 a = nI z) (c1 : R.1 1 a = nI b0) (c2 : R.1 2 a = nI o0) (w2 : R.2 22 (at_ + 2) = own) (w3 : R.2 22 (at_ + 3) = bal) (hd : ∀ w, w < 4 → (R.2 22 (at_ + 5 + w)).toInt32 = dw w) (hw : ∀ w, w < 4 → (if z ≤ w then 0 else R.1 4 (4 * a + w)) = wd w) : mo_wrongSlot_b0 R 0 (nI q) (nI at_) (nI a) = some (pm_flt own bal dw wd b0 o0 (decide (2 ≤ pm_mk k av mv a)) (decide (2 ≤ pm_mk k av mv a ∧ nI o0 = R.1 12 q)), R) := by
  unfold mo_wrongSlot_b0 mo_wrongSlot_b53 mo_wrongSlot_b54
  rw [show nI at_ + (2 : Int32) = nI (at_ + 2) by rw [pu_lit 2, nI_add], pu_gi (show at_ + 2 < 200 by omega) (by decide), nI_clamp (show at_ + 2 < 2 ^ 31 by omega), Nat.zero_add, w2, pu_moin, pu_bd, pu_writable hq hB h ha, pu_bd]
  simp only [Nat.zero_add, pu_gi (show a < 16 by omega) (by decide), nI_clamp (show a < 2 ^ 31 by omega), pu_gi (show q < 9 from hq) (by decide), nI_clamp (show q < 2 ^ 31 by omega), c2, pu_wrongL hat ha hz4 hz hd hw, pu_ib, pu_L0, pu_L3]
  have hfin : ∀ (wr fu : Bool), ¬ own < 0 → ¬ 4 ≤ own → mo_wrongSlot_b65 (mo_wrongSlot_l65 2095) R 0 (nI at_) (nI a) (pm_b wr) (pm_b fu) (pm_b (!(pm_z dw))) (pm_b (!(pm_e dw wd))) (nI 4) = some (pm_flt own bal dw wd b0 o0 wr fu, R) := by
    intro wr fu p1 p2
    unfold mo_wrongSlot_b65 mo_wrongSlot_b185 mo_wrongSlot_b202 mo_wrongSlot_b235 mo_wrongSlot_b253 mo_wrongSlot_b263
    rw [if_pos (show (4 : Int32) ≤ nI 4 by decide)]
    simp only [Nat.zero_add, show nI at_ + (2 : Int32) = nI (at_ + 2) by rw [pu_lit 2, nI_add], show nI at_ + (3 : Int32) = nI (at_ + 3) by rw [pu_lit 3, nI_add], pu_gi (show at_ + 2 < 200 by omega) (by decide), nI_clamp (show at_ + 2 < 2 ^ 31 by omega), pu_gi (show at_ + 3 < 200 by omega) (by decide), nI_clamp (show at_ + 3 < 2 ^ 31 by omega), w2, w3, pu_gi (show a < 16 by omega) (by decide), nI_clamp (show a < 2 ^ 31 by omega), c1, c2, pu_lt, pu_moin, pu_bd, pu_ib, pu_L0, pu_L1000000, nI_l (show b0 < 2 ^ 31 by omega), nI_l (show o0 < 2 ^ 31 by omega)]
    have e6 : (0 ≤ bal.toInt ∧ bal.toInt ≤ 1000000) ↔ (¬ bal < 0 ∧ ¬ 1000000 < bal) := by
      rw [pu_lLt, pu_lLt, pu_L0, pu_L1000000]; omega
    have e7 : (lg_cmp bal (lN b0) ≤ 0) ↔ ¬ lN b0 < bal := by
      rw [pu_cle, pu_lLt, pu_lLe]; omega
    have e8 : (0 ≤ lg_cmp bal (lN b0)) ↔ ¬ bal < lN b0 := by
      rw [pu_cge, pu_lLt, pu_lLe]; omega
    unfold pm_flt
    simp only [pu_c0, e6, e7, e8, if_neg p1, if_neg p2]
    generalize pm_z dw = DA
    generalize pm_e dw wd = DB
    have hp3 : (own = lN o0) = True ∨ (own = lN o0) = False := by
      by_cases h : own = lN o0
      · exact Or.inl (eq_true h)
      · exact Or.inr (eq_false h)
    rcases hp3 with p3 | p3 <;> by_cases p4 : bal < 0 <;> by_cases p5 : 1000000 < bal <;> by_cases p6 : bal < lN b0 <;> by_cases p7 : lN b0 < bal <;> cases DA <;> cases DB <;> cases wr <;> cases fu <;> simp [pm_b, p3, p4, p5, p6, p7]
  generalize pm_mk k av mv a = x at *
  by_cases p : 0 ≤ own.toInt ∧ own.toInt ≤ 3
  · have p1 : ¬ own < 0 := by rw [pu_lLt, pu_L0]; omega
    have p2 : ¬ 4 ≤ own := by rw [pu_lLe, pu_L4]; omega
    rw [if_neg (fun z => z p)]
    by_cases q1 : 2 ≤ x
    · rw [if_neg (fun z => z q1), if_pos q1]
      by_cases q2 : nI o0 = R.1 12 q
      · rw [if_pos q2, show (decide (2 ≤ x)) = true from decide_eq_true q1, show (decide (2 ≤ x ∧ nI o0 = R.1 12 q)) = true from decide_eq_true ⟨q1, q2⟩]
        exact hfin true true p1 p2
      · rw [if_neg q2, show (decide (2 ≤ x)) = true from decide_eq_true q1, show (decide (2 ≤ x ∧ nI o0 = R.1 12 q)) = false from decide_eq_false (fun z => q2 z.2)]
        exact hfin true false p1 p2
    · rw [if_pos q1, if_neg q1, show (decide (2 ≤ x)) = false from decide_eq_false q1, show (decide (2 ≤ x ∧ nI o0 = R.1 12 q)) = false from decide_eq_false (fun z => q1 z.1)]
      exact hfin false false p1 p2
  · rw [if_pos p]
    unfold pm_flt
    by_cases p1 : own < 0
    · rw [if_pos p1]
    · rw [if_neg p1, if_pos]
      rw [pu_lLt, pu_L0] at p1
      rw [pu_lLe, pu_L4]
      omega
