/-! What an INVOKE asks for, on the reference's side. -/
/-- only the slots of order q have changed -/
def fm_R (R R1 : gw_M) (q : Nat) : Prop := (∀ a, a ≠ 14 → a ≠ 15 → a ≠ 16 → R1.1 a = R.1 a) ∧ R1.2 = R.2 ∧ (∀ j, j ≠ q → R1.1 14 j = R.1 14 j) ∧ ∀ x, (x < 4 * q ∨ 4 * q + 4 ≤ x) → R1.1 15 x = R.1 15 x ∧ R1.1 16 x = R.1 16 x
theorem fm_R.rf {R : gw_M} {q : Nat} : fm_R R R q := ⟨fun _ _ _ _ => rfl, rfl, fun _ _ => rfl, fun _ _ => ⟨rfl, rfl⟩⟩
theorem fm_R.tr {A B C : gw_M} {q : Nat} (h : fm_R A B q) (g : fm_R B C q) : fm_R A C q := ⟨fun a b c d => (g.1 a b c d).trans (h.1 a b c d), g.2.1.trans h.2.1, fun j hj => (g.2.2.1 j hj).trans (h.2.2.1 j hj), fun x hx => ⟨(g.2.2.2 x hx).1.trans (h.2.2.2 x hx).1, (g.2.2.2 x hx).2.trans (h.2.2.2 x hx).2⟩⟩
theorem fm_R.a {R : gw_M} {q i : Nat} {x y z : Int32} (hi : i < 4) : fm_R R (gw_sI (gw_sI (gw_sI R 15 (4 * q + i) x) 16 (4 * q + i) y) 14 q z) q := by
  refine ⟨fun a h1 h2 h3 => ?_, rfl, fun j hj => ?_, fun b hb => ⟨?_, ?_⟩⟩
  · rw [gw_sI_1 a h1, gw_sI_1 a h3, gw_sI_1 a h2]
  · rw [pu_r3 hj, gw_sI_1 14 (by decide), gw_sI_1 14 (by decide)]
  · rw [gw_sI_1 15 (by decide), gw_sI_1 15 (by decide), pu_r3 (by omega)]
  · rw [gw_sI_1 16 (by decide), pu_r3 (by omega), gw_sI_1 16 (by decide)]
theorem fm_R.s {R R1 : gw_M} {u k : Nat} {av mv : Nat → Nat} (h : fm_R R R1 (4 + u)) (hk : k ≤ 4) (hR : qs_R R (3 + u) k av mv) : qs_R R1 (3 + u) k av mv := by
  refine ⟨by rw [h.2.2.1 _ (by omega)]; exact hR.1, fun j hj => ?_⟩
  rw [(h.2.2.2 (4 * (3 + u) + j) (by omega)).1, (h.2.2.2 (4 * (3 + u) + j) (by omega)).2]
  exact hR.2 j hj
theorem fm_R.k {R R1 : gw_M} {t : Nat} (h : fm_R R R1 (4 + (t + 1))) : sk_R R R1 t := by
  obtain ⟨h1, h2, h3, h4⟩ := h
  refine ⟨⟨fun a b c => h1 a (by omega) (by omega) (by omega), by rw [h1 0 (by decide) (by decide) (by decide)], ⟨fun a b c d e => by rw [h1 a (by omega) (by omega) (by omega)], fun b c => by rw [h1 4 (by decide) (by decide) (by decide)]⟩, fun a b c d e => ?_, fun a b c d e => ?_, fun a b c d => by rw [h1 a (by omega) (by omega) (by omega)], fun b c => by rw [h1 19 (by decide) (by decide) (by decide)], fun b c => by rw [h2], fun b c => by rw [h2], fun b c => by rw [h2]⟩, fun a b => h1 a (by omega) (by omega) (by omega), by rw [h2], by rw [h2]⟩
  · by_cases ha : a = 14
    · subst ha
      exact h3 b (by omega)
    · rw [h1 a ha (by omega) (by omega)]
  · have ha : a = 15 ∨ a = 16 := by omega
    rcases ha with rfl | rfl
    · exact (h4 b (by omega)).1
    · exact (h4 b (by omega)).2
theorem fm_R.o {R R1 : gw_M} {t : Nat} (h : fm_R R R1 (4 + (t + 1))) : fo_R R R1 t := by
  obtain ⟨h1, h2, h3, h4⟩ := h
  exact ⟨⟨by rw [h1 12 (by decide) (by decide) (by decide)], h3 _ (by omega)⟩, fun j hj => ⟨(h4 _ (by omega)).1, (h4 _ (by omega)).2⟩, by rw [h1 20 (by decide) (by decide) (by decide)], fun j hj => by rw [h1 19 (by decide) (by decide) (by decide)], fun j hj => by rw [h2], fun j hj => by rw [h2], fun j hj => by rw [h2]⟩
theorem pm_b_t {b : Bool} : pm_b b = 0 ↔ ¬ b = true := by
  rw [pm_b_0]
  cases b <;> decide
theorem pu_make1 {R : gw_M} {u p k i : Nat} {av mv : Nat → Nat} {A r4 : Int64} {rb : Bool} (hu : u ≤ 4) (hp : p < 3) (hB : qs_B k av mv) (hR : qs_R R (3 + u) k av mv) (h12 : R.1 12 (3 + u) = nI (p + 1)) (hr4 : R.2 18 (10 * u + 4) = r4) (h14 : R.1 14 (4 + u) = nI i) (hi : i < 4) (h16 : ¬ pm_by A i / 16 % 2 = 0) (K : gw_M → Nat → Int32 → Int32 → Int64 → Int32 → Int32 → Option (Int32 × gw_M)) : mo_makeOrder_b29 K R 0 (nI u) (nI (4 + u)) A (pm_b rb) (nI i) = if pm_by A i % 4 < k then K (gw_sI (gw_sI (gw_sI R 15 (4 * (4 + u) + i) (nI (av (pm_by A i % 4)))) 16 (4 * (4 + u) + i) (nI (pm_by A i / 4 % 4))) 14 (4 + u) (nI (i + 1))) 0 (nI u) (nI (4 + u)) A (pm_b (rb && pm_ok (pm_mk k av mv (av (pm_by A i % 4))) (pm_by A i) (decide (nI (av (pm_by A i % 4)) = pm_seat p r4)))) (nI (i + 1)) else some (9, R) := by
  have hk := hB.1
  obtain ⟨⟨b1, b2⟩, b3, b4, b5⟩ := pu_bits _ (pm_by_lt A i)
  have eA := pu_byR A hi
  generalize hb : pm_by A i = b at *
  have hadd := fun (x y : Int32) => pu_add (M := R) (q := 4 + u) (a := x) (m := y) (by omega) hi h14
  unfold mo_makeOrder_b29 mo_makeOrder_b144
  rw [if_neg (show ¬ (4 : Int32) ≤ nI i by rw [pu_lit 4]; exact nI_ge (by omega) (by decide)), eA, pu_lt, if_neg (fun q => h16 (b1.mp q)), b2, show (3 : Int32) + nI u = nI (3 + u) by rw [pu_lit 3, nI_add], pu_gi (show 3 + u < 9 by omega) (by decide), nI_clamp (show 3 + u < 2 ^ 31 by omega), Nat.zero_add, Nat.zero_add, hR.1]
  by_cases hs : b % 4 < k
  · have hav := (hB.2 (b % 4) hs).1
    have hmk := pm_mk_lt hB (av (b % 4))
    have h149 : ∀ tb : Bool, mo_makeOrder_b149 K R 0 (nI u) (nI (4 + u)) A (pm_b rb) (nI i) (nI b) (nI (av (b % 4))) (pm_b tb) = K (gw_sI (gw_sI (gw_sI R 15 (4 * (4 + u) + i) (nI (av (b % 4)))) 16 (4 * (4 + u) + i) (nI (b / 4 % 4))) 14 (4 + u) (nI (i + 1))) 0 (nI u) (nI (4 + u)) A (pm_b (rb && (tb && decide (b / 8 % 2 = 0 ∨ 2 ≤ pm_mk k av mv (av (b % 4)))))) (nI (i + 1)) := fun tb => by
      unfold mo_makeOrder_b149 mo_makeOrder_b185 mo_makeOrder_b181 mo_makeOrder_b186
      rw [b5, hadd, pu_bd, pu_bd, show (3 : Int32) + nI u = nI (3 + u) by rw [pu_lit 3, nI_add], pu_writable (by omega) hB hR hav, pu_bd, hadd, pu_bd, nI_1]
      cases rb with
      | false => rw [if_pos (by rfl)]; rfl
      | true =>
        rw [if_neg (by decide)]
        cases tb with
        | false => rw [if_pos (by rfl)]; rfl
        | true =>
          rw [if_neg (by decide)]
          by_cases c8 : b / 8 % 2 = 0
          · rw [if_pos (b4.mpr c8), decide_eq_true (Or.inl c8)]
            rfl
          · rw [if_neg (fun q => c8 (b4.mp q))]
            by_cases c2 : 2 ≤ pm_mk k av mv (av (b % 4))
            · rw [if_pos c2, if_neg pu_10, decide_eq_true (Or.inr c2)]
              rfl
            · rw [if_neg c2, if_pos rfl, decide_eq_false (fun q => by omega)]
              rfl
    have h1t := h149 true
    have h0f := h149 false
    rw [show pm_b true = (1 : Int32) from rfl] at h1t
    rw [show pm_b false = (0 : Int32) from rfl] at h0f
    rw [if_pos (nI_lt hs (by omega)), if_pos hs, show (4 : Int32) * nI (3 + u) + nI (b % 4) = nI (4 * (3 + u) + b % 4) by rw [pu_lit 4, pk_mul, nI_add], pu_gi (show 4 * (3 + u) + b % 4 < 36 by omega) (by decide), nI_clamp (show 4 * (3 + u) + b % 4 < 2 ^ 31 by omega), Nat.zero_add, (hR.2 (b % 4) hs).1, pu_lt, pu_signed (by omega) hB hR hav, pu_bd, show (10 : Int32) * nI u + (4 : Int32) = nI (10 * u + 4) by rw [pu_lit 10, pk_mul, pu_lit 4, nI_add], pu_gi (show 10 * u + 4 < 50 by omega) (by decide), nI_clamp (show 10 * u + 4 < 2 ^ 31 by omega), hr4, pu_seatR hu hp h12, pu_bd, h1t, h0f]
    unfold pm_ok
    by_cases c4 : b / 4 % 2 = 0
    · rw [if_pos (b3.mpr c4)]
      simp only [c4, true_or, true_and, Bool.true_and]
    · rw [if_neg (fun q => c4 (b3.mp q))]
      by_cases cs : pm_mk k av mv (av (b % 4)) % 2 = 1
      · rw [if_pos cs, if_neg (by decide)]
        simp only [cs, true_or, or_true, true_and, Bool.true_and]
      · rw [if_neg cs, if_pos rfl]
        by_cases ce : nI (av (b % 4)) = pm_seat p r4
        · rw [if_pos ce]
          simp only [ce, decide_true, or_true, true_and, Bool.true_and]
        · rw [if_neg ce]
          simp only [ce, c4, cs, decide_false, Bool.false_and, Bool.false_eq_true, or_self, false_and]
  · rw [if_neg (nI_nlt (by omega) (by omega)), if_neg hs]
